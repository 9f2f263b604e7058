abbrev rm_X7_spanIndex : Room := { frames := 0, cells := 0, slots := 0, locals := 0 }
theorem km_X7_spanIndex : KM yX7_spanIndex cX7_spanIndex 2 (some .int) 2 := ⟨co_X7_spanIndex, in_RX7, by decide +kernel⟩
set_option maxHeartbeats 4000000 in
set_option maxRecDepth 100000 in
theorem c_X7_spanIndex (F : Nat) (l : Launch) (G : GT)  (p0 : Int32) (p1 : Int32) (sz : Nat) (out : Int32) (h : f_X7_spanIndex F p0 p1 = some out) : Ci G l yX7_spanIndex cX7_spanIndex 2 (some .int) rm_X7_spanIndex [.int p0, .int p1] [] sz out (fun _ => []) := by
  refine Ci.start rfl (by decide) (Nat.le_of_ble_eq_true rfl) ?_
  intro p e s m args below meth c A Q H locs ls hB hP hD hS hl hret
  obtain ⟨hx, hb, hmL, hr, hown, hts, hlocks, hnm, hA, hE⟩ := id hB
  obtain ⟨hK, hN, hV, hR, hZ, hZq, hAO⟩ := id hE
  have hown : s.vm.findClass RX7 = some m.cls := hown
  have hl : lv_has ls 2 [(0, .int p0), (1, .int p1)] := hl
  rw [f_X7_spanIndex] at h
  refine lv_iload_n hx hb dX7_spanIndex_0 rfl (lv_at hl 0 rfl) ?_
  refine lv_bipush (v := 11) hx hb dX7_spanIndex_1 (by decide) ?_
  refine lv_imul hx hb dX7_spanIndex_3 ?_
  refine lv_iload_n hx hb dX7_spanIndex_4 rfl (lv_at hl 1 rfl) ?_
  refine lv_iadd hx hb dX7_spanIndex_5 ?_
  cases h
  exact hret (fun _ => 0) _ _ _ _ hP hD hS rfl dX7_spanIndex_6
abbrev rm_X2_isIn : Room := { frames := 0, cells := 0, slots := 0, locals := 0 }
theorem km_X2_isIn : KM yX2_isIn cX2_isIn 2 (some .boolean) 2 := ⟨co_X2_isIn, in_RX2, by decide +kernel⟩
set_option maxHeartbeats 4000000 in
set_option maxRecDepth 100000 in
theorem c_X2_isIn (F : Nat) (l : Launch) (G : GT)  (p0 : Int32) (p1 : Int32) (sz : Nat) (out : Int32) (h : f_X2_isIn F p0 p1 = some out) : Ci G l yX2_isIn cX2_isIn 2 (some .boolean) rm_X2_isIn [.int p0, .int p1] [] sz out (fun _ => []) := by
  refine Ci.start rfl (by decide) (Nat.le_of_ble_eq_true rfl) ?_
  intro p e s m args below meth c A Q H locs ls hB hP hD hS hl hret
  obtain ⟨hx, hb, hmL, hr, hown, hts, hlocks, hnm, hA, hE⟩ := id hB
  obtain ⟨hK, hN, hV, hR, hZ, hZq, hAO⟩ := id hE
  have hown : s.vm.findClass RX2 = some m.cls := hown
  have hl : lv_has ls 2 [(0, .int p0), (1, .int p1)] := hl
  rw [f_X2_isIn] at h
  refine lv_iload_n hx hb dX2_isIn_0 rfl (lv_at hl 1 rfl) ?_
  refine lv_iload_n hx hb dX2_isIn_1 rfl (lv_at hl 0 rfl) ?_
  refine lv_ishr hx hb dX2_isIn_2 ?_
  refine lv_iconst (v := 1) hx hb dX2_isIn_3 (by decide) ?_
  refine lv_iand hx hb dX2_isIn_4 ?_
  refine lv_iconst (v := 1) hx hb dX2_isIn_5 (by decide) ?_
  refine lv_icmp_ne (tgt := 13) hx hb dX2_isIn_6 (by decide) (fun c6 => ?_) (fun c6 => ?_)
  · have h := ing c6 h
    refine lv_iconst (v := 0) hx hb dX2_isIn_13 (by decide) ?_
    cases h
    exact hret (fun _ => 0) _ _ _ _ hP hD hS (nz (Or.inl rfl)) dX2_isIn_14
  · have h := ip c6 h
    refine lv_iconst (v := 1) hx hb dX2_isIn_9 (by decide) ?_
    refine lv_goto (tgt := 14) hx hb dX2_isIn_10 (by decide) ?_
    cases h
    exact hret (fun _ => 0) _ _ _ _ hP hD hS (nz (Or.inr rfl)) dX2_isIn_14
abbrev rm_X2_treesOf : Room := { frames := 1, cells := 0, slots := 0, locals := 21 }
theorem km_X2_treesOf : KM yX2_treesOf cX2_treesOf 7 (some .int) 3 := ⟨co_X2_treesOf, in_RX2, by decide +kernel⟩
set_option maxHeartbeats 4000000 in
set_option maxRecDepth 100000 in
theorem c_X2_treesOf (F : Nat) (l : Launch) (G : GT) (h_fo h_fo_roots h_fo_leftChildren h_fo_rightChildren h_fo_counts : Nat) (fo_operators : Int32) (fo_counts : Nat → Int32) (p1 : Int32) (p2 : Int32) (p3 : Int32) (sz : Nat) (out : Int32) (h : f_X2_treesOf F p1 p2 p3 fo_counts = some out) : Ci G l yX2_treesOf cX2_treesOf 7 (some .int) rm_X2_treesOf [.ref h_fo, .int p1, .int p2, .int p3] [(h_fo, .inr (1, [.int fo_operators, .ref h_fo_roots, .ref h_fo_leftChildren, .ref h_fo_rightChildren, .ref h_fo_counts])), (h_fo_counts, .inl (gI G, 1210, .inl fo_counts))] sz out (fun _ => [(h_fo, .inr (1, [.int fo_operators, .ref h_fo_roots, .ref h_fo_leftChildren, .ref h_fo_rightChildren, .ref h_fo_counts])), (h_fo_counts, .inl (gI G, 1210, .inl fo_counts))]) := by
  refine Ci.start rfl (by decide) (Nat.le_of_ble_eq_true rfl) ?_
  intro p e s m args below meth c A Q H locs ls hB hP hD hS hl hret
  obtain ⟨hx, hb, hmL, hr, hown, hts, hlocks, hnm, hA, hE⟩ := id hB
  obtain ⟨hK, hN, hV, hR, hZ, hZq, hAO⟩ := id hE
  have hown : s.vm.findClass RX2 = some m.cls := hown
  have hl : lv_has ls 7 [(0, .ref h_fo), (1, .int p1), (2, .int p2), (3, .int p3)] := hl
  rw [f_X2_treesOf] at h
  refine lv_iload_n hx hb dX2_treesOf_0 rfl (lv_at hl 1 rfl) ?_
  refine lv_iload_n hx hb dX2_treesOf_1 rfl (lv_at hl 2 rfl) ?_
  refine lv_icmp_lt (tgt := 7) hx hb dX2_treesOf_2 (by decide) (fun c2 => ?_) (fun c2 => ?_)
  · have h := ip c2 h
    refine lv_iload_n hx hb dX2_treesOf_7 rfl (lv_at hl 1 rfl) ?_
    refine lv_iload_n hx hb dX2_treesOf_8 rfl (lv_at hl 2 rfl) ?_
    obtain ⟨o9, e9, h⟩ := bd h
    refine Ci.SN (wr := [(h_fo, .inr (1, [.int fo_operators, .ref h_fo_roots, .ref h_fo_leftChildren, .ref h_fo_rightChildren, .ref h_fo_counts])), (h_fo_counts, .inl (gI G, 1210, .inl fo_counts))]) (c_X7_spanIndex F l G p1 p2 H.size o9 e9) hB km_X7_spanIndex st_X7_spanIndex mn_RX2_68 hP hD hS hl [] [0, 1] ⟨rfl, rfl, ⟨rfl, rfl⟩, by decide⟩ ⟨⟨Nat.le_of_ble_eq_true rfl, Nat.le_of_ble_eq_true rfl⟩, Nat.le_of_ble_eq_true rfl, Nat.le_of_ble_eq_true rfl, Nat.le_of_ble_eq_true rfl⟩ rfl dX2_treesOf_9 (fun z H locs hP hD hS => ?_)
    have hP : va_P (gD G) vwCl [(h_fo, .inr (1, [.int fo_operators, .ref h_fo_roots, .ref h_fo_leftChildren, .ref h_fo_rightChildren, .ref h_fo_counts])), (h_fo_counts, .inl (gI G, 1210, .inl fo_counts))] H := hP
    have hD : va_D A [(h_fo, .inr (1, [.int fo_operators, .ref h_fo_roots, .ref h_fo_leftChildren, .ref h_fo_rightChildren, .ref h_fo_counts])), (h_fo_counts, .inl (gI G, 1210, .inl fo_counts))] := hD
    refine lv_bipush (v := 10) hx hb dX2_treesOf_12 (by decide) ?_
    refine lv_imul hx hb dX2_treesOf_14 ?_
    refine lv_istore (lv' := [(4, .int (o9 * 10)), (0, .ref h_fo), (1, .int p1), (2, .int p2), (3, .int p3)]) hx hb dX2_treesOf_15 hl (by decide) rfl (fun ls hl => ?_)
    refine lv_iconst (v := 0) hx hb dX2_treesOf_17 (by decide) ?_
    refine lv_istore (lv' := [(5, .int 0), (4, .int (o9 * 10)), (0, .ref h_fo), (1, .int p1), (2, .int p2), (3, .int p3)]) hx hb dX2_treesOf_18 hl (by decide) rfl (fun ls hl => ?_)
    refine lv_iload_n hx hb dX2_treesOf_20 rfl (lv_at hl 3 rfl) ?_
    refine lv_istore (lv' := [(6, .int p1), (5, .int 0), (4, .int (o9 * 10)), (0, .ref h_fo), (1, .int p1), (2, .int p2), (3, .int p3)]) hx hb dX2_treesOf_21 hl (by decide) rfl (fun ls hl => ?_)
    have Lp23 : ∀ (n : Nat) (v2 : Int32) (v3 : Int32) (v4 : Int32) (v5 : Int32) (v6 : Int32) (X : Int32 → Option (Int32)) (H : Heap) (locs : List Loc) (ls : Array Slot), va_P (gD G) vwCl [(h_fo, .inr (1, [.int fo_operators, .ref h_fo_roots, .ref h_fo_leftChildren, .ref h_fo_rightChildren, .ref h_fo_counts])), (h_fo_counts, .inl (gI G, 1210, .inl fo_counts))] H → va_D A [(h_fo, .inr (1, [.int fo_operators, .ref h_fo_roots, .ref h_fo_leftChildren, .ref h_fo_rightChildren, .ref h_fo_counts])), (h_fo_counts, .inl (gI G, 1210, .inl fo_counts))] → va_S A s.heap H locs → lv_has ls 7 [(0, .ref h_fo), (2, .int v2), (3, .int v3), (4, .int v4), (5, .int v5), (6, .int v6)] → f_X2_treesOf_l23 F v2 v3 v4 fo_counts n v5 v6 X = some out → (∀ (v5 : Int32) (H : Heap) (locs : List Loc) (ls : Array Slot), va_P (gD G) vwCl [(h_fo, .inr (1, [.int fo_operators, .ref h_fo_roots, .ref h_fo_leftChildren, .ref h_fo_rightChildren, .ref h_fo_counts])), (h_fo_counts, .inl (gI G, 1210, .inl fo_counts))] H → va_D A [(h_fo, .inr (1, [.int fo_operators, .ref h_fo_roots, .ref h_fo_leftChildren, .ref h_fo_rightChildren, .ref h_fo_counts])), (h_fo_counts, .inl (gI G, 1210, .inl fo_counts))] → va_S A s.heap H locs → lv_has ls 7 [(5, .int v5)] → X v5 = some out → W p l e rm_X2_treesOf s m args below meth c H locs 0 0 Q (F0 m 59 ls [])) → W p l e rm_X2_treesOf s m args below meth c H locs 0 0 Q (F0 m 23 ls []) := by
      intro n
      induction n with
      | zero => intro v2 v3 v4 v5 v6 X H locs ls hP hD hS hl h HX; rw [f_X2_treesOf_l23] at h; cases h
      | succ n ih =>
          intro v2 v3 v4 v5 v6 X H locs ls hP hD hS hl h HX
          rw [f_X2_treesOf_l23] at h
          refine lv_iload hx hb dX2_treesOf_23 (lv_at hl 5 rfl) ?_
          refine lv_iload_n hx hb dX2_treesOf_25 rfl (lv_at hl 1 rfl) ?_
          refine lv_icmp_ge (tgt := 59) hx hb dX2_treesOf_26 (by decide) (fun c26 => ?_) (fun c26 => ?_)
          · have h := ip c26 h
            exact HX v5 H locs ls hP hD hS (lv_sub hl [4] rfl) h
          · have h := ing c26 h
            refine lv_iload hx hb dX2_treesOf_29 (lv_at hl 5 rfl) ?_
            refine lv_iload_n hx hb dX2_treesOf_31 rfl (lv_at hl 2 rfl) ?_
            obtain ⟨o32, e32, h⟩ := bd h
            refine Ci.S (wr := [(h_fo, .inr (1, [.int fo_operators, .ref h_fo_roots, .ref h_fo_leftChildren, .ref h_fo_rightChildren, .ref h_fo_counts])), (h_fo_counts, .inl (gI G, 1210, .inl fo_counts))]) (c_X2_isIn F l G v6 v3 H.size o32 e32) hB km_X2_isIn st_X2_isIn ml_RX2_72 hP hD hS hl [] [0, 1] ⟨rfl, rfl, ⟨rfl, rfl⟩, by decide⟩ ⟨⟨Nat.le_of_ble_eq_true rfl, Nat.le_of_ble_eq_true rfl⟩, Nat.le_of_ble_eq_true rfl, Nat.le_of_ble_eq_true rfl, Nat.le_of_ble_eq_true rfl⟩ rfl dX2_treesOf_32 (fun z H locs hP hD hS => ?_)
            have hP : va_P (gD G) vwCl [(h_fo, .inr (1, [.int fo_operators, .ref h_fo_roots, .ref h_fo_leftChildren, .ref h_fo_rightChildren, .ref h_fo_counts])), (h_fo_counts, .inl (gI G, 1210, .inl fo_counts))] H := hP
            have hD : va_D A [(h_fo, .inr (1, [.int fo_operators, .ref h_fo_roots, .ref h_fo_leftChildren, .ref h_fo_rightChildren, .ref h_fo_counts])), (h_fo_counts, .inl (gI G, 1210, .inl fo_counts))] := hD
            refine lv_if_eq (tgt := 53) hx hb dX2_treesOf_35 (by decide) (fun c35 => ?_) (fun c35 => ?_)
            · have h := ip c35 h
              refine lv_iinc (v := (v6 + 1)) (lv' := [(6, .int (v6 + 1)), (0, .ref h_fo), (2, .int v2), (3, .int v3), (4, .int v4), (5, .int v5)]) hx hb dX2_treesOf_53 hl (k := 5) rfl rfl (by decide) rfl (fun ls hl => ?_)
              refine lv_goto (tgt := 23) hx hb dX2_treesOf_56 (by decide) ?_
              exact ih v2 v3 v4 v5 (v6 + 1) X H locs ls hP hD hS (lv_sub hl [1, 2, 3, 4, 5, 0] rfl) h HX
            · have h := ing c35 h
              refine lv_iload hx hb dX2_treesOf_38 (lv_at hl 4 rfl) ?_
              refine lv_aload_n hx hb dX2_treesOf_40 rfl (lv_at hl 0 rfl) ?_
              refine va_get (D := gD G) (ci := 1) (v := .ref h_fo_counts) (C := RX2) (T := TX2) (N := 5) hx hb hts lk_X2 hown hK hP 0 rfl rfl 4 (by decide) (hts _ fl_RX2_25) (fun _ h9 => h9) rfl dX2_treesOf_41 ?_
              refine lv_iload hx hb dX2_treesOf_44 (lv_at hl 3 rfl) ?_
              refine lv_iload hx hb dX2_treesOf_46 (lv_at hl 5 rfl) ?_
              refine lv_iadd hx hb dX2_treesOf_48 ?_
              obtain ⟨g49, h⟩ := gda h
              refine va_iald hx hb hK hP 1 1 rfl rfl g49 dX2_treesOf_49 ?_
              refine lv_iadd hx hb dX2_treesOf_50 ?_
              refine lv_istore (lv' := [(5, .int (v5 + (fo_counts (Int32.toNatClampNeg (v4 + v6))))), (0, .ref h_fo), (2, .int v2), (3, .int v3), (4, .int v4), (6, .int v6)]) hx hb dX2_treesOf_51 hl (by decide) rfl (fun ls hl => ?_)
              refine lv_iinc (v := (v6 + 1)) (lv' := [(6, .int (v6 + 1)), (5, .int (v5 + (fo_counts (Int32.toNatClampNeg (v4 + v6))))), (0, .ref h_fo), (2, .int v2), (3, .int v3), (4, .int v4)]) hx hb dX2_treesOf_53 hl (k := 5) rfl rfl (by decide) rfl (fun ls hl => ?_)
              refine lv_goto (tgt := 23) hx hb dX2_treesOf_56 (by decide) ?_
              exact ih v2 v3 v4 (v5 + (fo_counts (Int32.toNatClampNeg (v4 + v6)))) (v6 + 1) X H locs ls hP hD hS (lv_sub hl [2, 3, 4, 5, 1, 0] rfl) h HX
    refine Lp23 F p2 p3 (o9 * 10) 0 p1 _ H locs ls hP hD hS (lv_sub hl [3, 5, 6, 2, 1, 0] rfl) h (fun v5 H locs ls hP hD hS hl h => ?_)
    refine lv_iload hx hb dX2_treesOf_59 (lv_at hl 0 rfl) ?_
    cases h
    exact hret (fun _ => 0) _ _ _ _ hP hD hS rfl dX2_treesOf_61
  · have h := ing c2 h
    refine lv_iconst (v := 1) hx hb dX2_treesOf_5 (by decide) ?_
    cases h
    exact hret (fun _ => 0) _ _ _ _ hP hD hS rfl dX2_treesOf_6
abbrev rm_X2_derivationsOf : Room := { frames := 1, cells := 0, slots := 0, locals := 21 }
theorem km_X2_derivationsOf : KM yX2_derivationsOf cX2_derivationsOf 5 (some .int) 4 := ⟨co_X2_derivationsOf, in_RX2, by decide +kernel⟩
set_option maxHeartbeats 4000000 in
set_option maxRecDepth 100000 in
theorem c_X2_derivationsOf (F : Nat) (l : Launch) (G : GT) (h_fo h_fo_roots h_fo_leftChildren h_fo_rightChildren h_fo_counts : Nat) (fo_operators : Int32) (fo_counts : Nat → Int32) (p1 : Int32) (p2 : Int32) (p3 : Int32) (p4 : Int32) (sz : Nat) (out : Int32) (h : f_X2_derivationsOf F p1 p2 p3 p4 fo_counts = some out) : Ci G l yX2_derivationsOf cX2_derivationsOf 5 (some .int) rm_X2_derivationsOf [.ref h_fo, .int p1, .int p2, .int p3, .int p4] [(h_fo, .inr (1, [.int fo_operators, .ref h_fo_roots, .ref h_fo_leftChildren, .ref h_fo_rightChildren, .ref h_fo_counts])), (h_fo_counts, .inl (gI G, 1210, .inl fo_counts))] sz out (fun _ => [(h_fo, .inr (1, [.int fo_operators, .ref h_fo_roots, .ref h_fo_leftChildren, .ref h_fo_rightChildren, .ref h_fo_counts])), (h_fo_counts, .inl (gI G, 1210, .inl fo_counts))]) := by
  refine Ci.start rfl (by decide) (Nat.le_of_ble_eq_true rfl) ?_
  intro p e s m args below meth c A Q H locs ls hB hP hD hS hl hret
  obtain ⟨hx, hb, hmL, hr, hown, hts, hlocks, hnm, hA, hE⟩ := id hB
  obtain ⟨hK, hN, hV, hR, hZ, hZq, hAO⟩ := id hE
  have hown : s.vm.findClass RX2 = some m.cls := hown
  have hl : lv_has ls 5 [(0, .ref h_fo), (1, .int p1), (2, .int p2), (3, .int p3), (4, .int p4)] := hl
  rw [f_X2_derivationsOf] at h
  refine lv_iload_n hx hb dX2_derivationsOf_0 rfl (lv_at hl 3 rfl) ?_
  refine lv_iload hx hb dX2_derivationsOf_1 (lv_at hl 4 rfl) ?_
  obtain ⟨o3, e3, h⟩ := bd h
  refine Ci.S (wr := [(h_fo, .inr (1, [.int fo_operators, .ref h_fo_roots, .ref h_fo_leftChildren, .ref h_fo_rightChildren, .ref h_fo_counts])), (h_fo_counts, .inl (gI G, 1210, .inl fo_counts))]) (c_X2_isIn F l G p3 p4 H.size o3 e3) hB km_X2_isIn st_X2_isIn ml_RX2_72 hP hD hS hl [] [0, 1] ⟨rfl, rfl, ⟨rfl, rfl⟩, by decide⟩ ⟨⟨Nat.le_of_ble_eq_true rfl, Nat.le_of_ble_eq_true rfl⟩, Nat.le_of_ble_eq_true rfl, Nat.le_of_ble_eq_true rfl, Nat.le_of_ble_eq_true rfl⟩ rfl dX2_derivationsOf_3 (fun z H locs hP hD hS => ?_)
  have hP : va_P (gD G) vwCl [(h_fo, .inr (1, [.int fo_operators, .ref h_fo_roots, .ref h_fo_leftChildren, .ref h_fo_rightChildren, .ref h_fo_counts])), (h_fo_counts, .inl (gI G, 1210, .inl fo_counts))] H := hP
  have hD : va_D A [(h_fo, .inr (1, [.int fo_operators, .ref h_fo_roots, .ref h_fo_leftChildren, .ref h_fo_rightChildren, .ref h_fo_counts])), (h_fo_counts, .inl (gI G, 1210, .inl fo_counts))] := hD
  refine lv_if_eq (tgt := 27) hx hb dX2_derivationsOf_6 (by decide) (fun c6 => ?_) (fun c6 => ?_)
  · have h := ip c6 h
    refine lv_iconst (v := 0) hx hb dX2_derivationsOf_27 (by decide) ?_
    cases h
    exact hret (fun _ => 0) _ _ _ _ hP hD hS rfl dX2_derivationsOf_28
  · have h := ing c6 h
    refine lv_aload_n hx hb dX2_derivationsOf_9 rfl (lv_at hl 0 rfl) ?_
    refine va_get (D := gD G) (ci := 1) (v := .ref h_fo_counts) (C := RX2) (T := TX2) (N := 5) hx hb hts lk_X2 hown hK hP 0 rfl rfl 4 (by decide) (hts _ fl_RX2_25) (fun _ h9 => h9) rfl dX2_derivationsOf_10 ?_
    refine lv_iload_n hx hb dX2_derivationsOf_13 rfl (lv_at hl 1 rfl) ?_
    refine lv_iload_n hx hb dX2_derivationsOf_14 rfl (lv_at hl 2 rfl) ?_
    obtain ⟨o15, e15, h⟩ := bd h
    refine Ci.SN (wr := [(h_fo, .inr (1, [.int fo_operators, .ref h_fo_roots, .ref h_fo_leftChildren, .ref h_fo_rightChildren, .ref h_fo_counts])), (h_fo_counts, .inl (gI G, 1210, .inl fo_counts))]) (c_X7_spanIndex F l G p1 p2 H.size o15 e15) hB km_X7_spanIndex st_X7_spanIndex mn_RX2_68 hP hD hS hl [] [0, 1] ⟨rfl, rfl, ⟨rfl, rfl⟩, by decide⟩ ⟨⟨Nat.le_of_ble_eq_true rfl, Nat.le_of_ble_eq_true rfl⟩, Nat.le_of_ble_eq_true rfl, Nat.le_of_ble_eq_true rfl, Nat.le_of_ble_eq_true rfl⟩ rfl dX2_derivationsOf_15 (fun z H locs hP hD hS => ?_)
    have hP : va_P (gD G) vwCl [(h_fo, .inr (1, [.int fo_operators, .ref h_fo_roots, .ref h_fo_leftChildren, .ref h_fo_rightChildren, .ref h_fo_counts])), (h_fo_counts, .inl (gI G, 1210, .inl fo_counts))] H := hP
    have hD : va_D A [(h_fo, .inr (1, [.int fo_operators, .ref h_fo_roots, .ref h_fo_leftChildren, .ref h_fo_rightChildren, .ref h_fo_counts])), (h_fo_counts, .inl (gI G, 1210, .inl fo_counts))] := hD
    refine lv_bipush (v := 10) hx hb dX2_derivationsOf_18 (by decide) ?_
    refine lv_imul hx hb dX2_derivationsOf_20 ?_
    refine lv_iload_n hx hb dX2_derivationsOf_21 rfl (lv_at hl 3 rfl) ?_
    refine lv_iadd hx hb dX2_derivationsOf_22 ?_
    obtain ⟨g23, h⟩ := gda h
    refine va_iald hx hb hK hP 1 1 rfl rfl g23 dX2_derivationsOf_23 ?_
    refine lv_goto (tgt := 28) hx hb dX2_derivationsOf_24 (by decide) ?_
    cases h
    exact hret (fun _ => 0) _ _ _ _ hP hD hS rfl dX2_derivationsOf_28
abbrev rm_X2_allowsRoot : Room := { frames := 1, cells := 0, slots := 0, locals := 21 }
theorem km_X2_allowsRoot : KM yX2_allowsRoot cX2_allowsRoot 4 (some .boolean) 3 := ⟨co_X2_allowsRoot, in_RX2, by decide +kernel⟩
set_option maxHeartbeats 4000000 in
set_option maxRecDepth 100000 in
theorem c_X2_allowsRoot (F : Nat) (l : Launch) (G : GT) (h_fo h_fo_roots h_fo_leftChildren h_fo_rightChildren h_fo_counts : Nat) (fo_operators : Int32) (fo_roots : Nat → Int32) (p1 : Int32) (p2 : Int32) (p3 : Int32) (sz : Nat) (out : Int32) (h : f_X2_allowsRoot F p1 p2 p3 fo_roots = some out) : Ci G l yX2_allowsRoot cX2_allowsRoot 4 (some .boolean) rm_X2_allowsRoot [.ref h_fo, .int p1, .int p2, .int p3] [(h_fo, .inr (1, [.int fo_operators, .ref h_fo_roots, .ref h_fo_leftChildren, .ref h_fo_rightChildren, .ref h_fo_counts])), (h_fo_roots, .inl (gI G, 121, .inl fo_roots))] sz out (fun _ => [(h_fo, .inr (1, [.int fo_operators, .ref h_fo_roots, .ref h_fo_leftChildren, .ref h_fo_rightChildren, .ref h_fo_counts])), (h_fo_roots, .inl (gI G, 121, .inl fo_roots))]) := by
  refine Ci.start rfl (by decide) (Nat.le_of_ble_eq_true rfl) ?_
  intro p e s m args below meth c A Q H locs ls hB hP hD hS hl hret
  obtain ⟨hx, hb, hmL, hr, hown, hts, hlocks, hnm, hA, hE⟩ := id hB
  obtain ⟨hK, hN, hV, hR, hZ, hZq, hAO⟩ := id hE
  have hown : s.vm.findClass RX2 = some m.cls := hown
  have hl : lv_has ls 4 [(0, .ref h_fo), (1, .int p1), (2, .int p2), (3, .int p3)] := hl
  rw [f_X2_allowsRoot] at h
  refine lv_iload_n hx hb dX2_allowsRoot_0 rfl (lv_at hl 3 rfl) ?_
  refine lv_aload_n hx hb dX2_allowsRoot_1 rfl (lv_at hl 0 rfl) ?_
  refine va_get (D := gD G) (ci := 1) (v := .ref h_fo_roots) (C := RX2) (T := TX2) (N := 5) hx hb hts lk_X2 hown hK hP 0 rfl rfl 1 (by decide) (hts _ fl_RX2_15) (fun _ h9 => h9) rfl dX2_allowsRoot_2 ?_
  refine lv_iload_n hx hb dX2_allowsRoot_5 rfl (lv_at hl 1 rfl) ?_
  refine lv_iload_n hx hb dX2_allowsRoot_6 rfl (lv_at hl 2 rfl) ?_
  obtain ⟨o7, e7, h⟩ := bd h
  refine Ci.SN (wr := [(h_fo, .inr (1, [.int fo_operators, .ref h_fo_roots, .ref h_fo_leftChildren, .ref h_fo_rightChildren, .ref h_fo_counts])), (h_fo_roots, .inl (gI G, 121, .inl fo_roots))]) (c_X7_spanIndex F l G p1 p2 H.size o7 e7) hB km_X7_spanIndex st_X7_spanIndex mn_RX2_68 hP hD hS hl [] [0, 1] ⟨rfl, rfl, ⟨rfl, rfl⟩, by decide⟩ ⟨⟨Nat.le_of_ble_eq_true rfl, Nat.le_of_ble_eq_true rfl⟩, Nat.le_of_ble_eq_true rfl, Nat.le_of_ble_eq_true rfl, Nat.le_of_ble_eq_true rfl⟩ rfl dX2_allowsRoot_7 (fun z H locs hP hD hS => ?_)
  have hP : va_P (gD G) vwCl [(h_fo, .inr (1, [.int fo_operators, .ref h_fo_roots, .ref h_fo_leftChildren, .ref h_fo_rightChildren, .ref h_fo_counts])), (h_fo_roots, .inl (gI G, 121, .inl fo_roots))] H := hP
  have hD : va_D A [(h_fo, .inr (1, [.int fo_operators, .ref h_fo_roots, .ref h_fo_leftChildren, .ref h_fo_rightChildren, .ref h_fo_counts])), (h_fo_roots, .inl (gI G, 121, .inl fo_roots))] := hD
  obtain ⟨g10, h⟩ := gda h
  refine va_iald hx hb hK hP 1 1 rfl rfl g10 dX2_allowsRoot_10 ?_
  obtain ⟨o11, e11, h⟩ := bd h
  refine Ci.S (wr := [(h_fo, .inr (1, [.int fo_operators, .ref h_fo_roots, .ref h_fo_leftChildren, .ref h_fo_rightChildren, .ref h_fo_counts])), (h_fo_roots, .inl (gI G, 121, .inl fo_roots))]) (c_X2_isIn F l G p3 (fo_roots (Int32.toNatClampNeg o7)) H.size o11 e11) hB km_X2_isIn st_X2_isIn ml_RX2_72 hP hD hS hl [] [0, 1] ⟨rfl, rfl, ⟨rfl, rfl⟩, by decide⟩ ⟨⟨Nat.le_of_ble_eq_true rfl, Nat.le_of_ble_eq_true rfl⟩, Nat.le_of_ble_eq_true rfl, Nat.le_of_ble_eq_true rfl, Nat.le_of_ble_eq_true rfl⟩ rfl dX2_allowsRoot_11 (fun z H locs hP hD hS => ?_)
  have hP : va_P (gD G) vwCl [(h_fo, .inr (1, [.int fo_operators, .ref h_fo_roots, .ref h_fo_leftChildren, .ref h_fo_rightChildren, .ref h_fo_counts])), (h_fo_roots, .inl (gI G, 121, .inl fo_roots))] H := hP
  have hD : va_D A [(h_fo, .inr (1, [.int fo_operators, .ref h_fo_roots, .ref h_fo_leftChildren, .ref h_fo_rightChildren, .ref h_fo_counts])), (h_fo_roots, .inl (gI G, 121, .inl fo_roots))] := hD
  obtain ⟨gz, h⟩ := gdb h
  cases h
  exact hret (fun _ => 0) _ _ _ _ hP hD hS (nz gz) dX2_allowsRoot_14
abbrev rm_X2_countSpan : Room := { frames := 2, cells := 0, slots := 0, locals := 47 }
theorem km_X2_countSpan : KM yX2_countSpan cX2_countSpan 6 none 2 := ⟨co_X2_countSpan, in_RX2, by decide +kernel⟩
set_option maxHeartbeats 4000000 in
set_option maxRecDepth 100000 in
theorem c_X2_countSpan (F : Nat) (l : Launch) (G : GT) (h_fo h_fo_roots h_fo_leftChildren h_fo_rightChildren h_fo_counts : Nat) (fo_operators : Int32) (fo_counts : Nat → Int32) (fo_leftChildren : Nat → Int32) (fo_rightChildren : Nat → Int32) (fo_roots : Nat → Int32) (p1 : Int32) (p2 : Int32) (sz : Nat) (out : (Nat → Int32)) (h : f_X2_countSpan F p1 p2 fo_counts fo_leftChildren fo_rightChildren fo_roots = some out) : Cv G l yX2_countSpan cX2_countSpan 6 none rm_X2_countSpan [.ref h_fo, .int p1, .int p2] [(h_fo, .inr (1, [.int fo_operators, .ref h_fo_roots, .ref h_fo_leftChildren, .ref h_fo_rightChildren, .ref h_fo_counts])), (h_fo_counts, .inl (gI G, 1210, .inl fo_counts)), (h_fo_leftChildren, .inl (gI G, 10, .inl fo_leftChildren)), (h_fo_rightChildren, .inl (gI G, 10, .inl fo_rightChildren)), (h_fo_roots, .inl (gI G, 121, .inl fo_roots))] sz (fun _ => [(h_fo, .inr (1, [.int fo_operators, .ref h_fo_roots, .ref h_fo_leftChildren, .ref h_fo_rightChildren, .ref h_fo_counts])), (h_fo_counts, .inl (gI G, 1210, .inl out)), (h_fo_leftChildren, .inl (gI G, 10, .inl fo_leftChildren)), (h_fo_rightChildren, .inl (gI G, 10, .inl fo_rightChildren)), (h_fo_roots, .inl (gI G, 121, .inl fo_roots))]) := by
  refine Cv.start (by decide) (Nat.le_of_ble_eq_true rfl) ?_
  intro p e s m args below meth c A Q H locs ls hB hP hD hS hl hret
  obtain ⟨hx, hb, hmL, hr, hown, hts, hlocks, hnm, hA, hE⟩ := id hB
  obtain ⟨hK, hN, hV, hR, hZ, hZq, hAO⟩ := id hE
  have hown : s.vm.findClass RX2 = some m.cls := hown
  have hl : lv_has ls 6 [(0, .ref h_fo), (1, .int p1), (2, .int p2)] := hl
  rw [f_X2_countSpan] at h
  refine lv_iload_n hx hb dX2_countSpan_0 rfl (lv_at hl 1 rfl) ?_
  refine lv_iload_n hx hb dX2_countSpan_1 rfl (lv_at hl 2 rfl) ?_
  obtain ⟨o2, e2, h⟩ := bd h
  refine Ci.SN (wr := [(h_fo, .inr (1, [.int fo_operators, .ref h_fo_roots, .ref h_fo_leftChildren, .ref h_fo_rightChildren, .ref h_fo_counts])), (h_fo_counts, .inl (gI G, 1210, .inl fo_counts)), (h_fo_leftChildren, .inl (gI G, 10, .inl fo_leftChildren)), (h_fo_rightChildren, .inl (gI G, 10, .inl fo_rightChildren)), (h_fo_roots, .inl (gI G, 121, .inl fo_roots))]) (c_X7_spanIndex F l G p1 p2 H.size o2 e2) hB km_X7_spanIndex st_X7_spanIndex mn_RX2_68 hP hD hS hl [] [0, 1, 2, 3, 4] ⟨rfl, rfl, ⟨rfl, rfl⟩, by decide⟩ ⟨⟨Nat.le_of_ble_eq_true rfl, Nat.le_of_ble_eq_true rfl⟩, Nat.le_of_ble_eq_true rfl, Nat.le_of_ble_eq_true rfl, Nat.le_of_ble_eq_true rfl⟩ rfl dX2_countSpan_2 (fun z H locs hP hD hS => ?_)
  have hP : va_P (gD G) vwCl [(h_fo, .inr (1, [.int fo_operators, .ref h_fo_roots, .ref h_fo_leftChildren, .ref h_fo_rightChildren, .ref h_fo_counts])), (h_fo_counts, .inl (gI G, 1210, .inl fo_counts)), (h_fo_leftChildren, .inl (gI G, 10, .inl fo_leftChildren)), (h_fo_rightChildren, .inl (gI G, 10, .inl fo_rightChildren)), (h_fo_roots, .inl (gI G, 121, .inl fo_roots))] H := hP
  have hD : va_D A [(h_fo, .inr (1, [.int fo_operators, .ref h_fo_roots, .ref h_fo_leftChildren, .ref h_fo_rightChildren, .ref h_fo_counts])), (h_fo_counts, .inl (gI G, 1210, .inl fo_counts)), (h_fo_leftChildren, .inl (gI G, 10, .inl fo_leftChildren)), (h_fo_rightChildren, .inl (gI G, 10, .inl fo_rightChildren)), (h_fo_roots, .inl (gI G, 121, .inl fo_roots))] := hD
  refine lv_istore_n (lv' := [(3, .int o2), (0, .ref h_fo), (1, .int p1), (2, .int p2)]) hx hb dX2_countSpan_5 rfl hl (by decide) rfl (fun ls hl => ?_)
  refine lv_iload_n hx hb dX2_countSpan_6 rfl (lv_at hl 2 rfl) ?_
  refine lv_istore (lv' := [(4, .int p1), (3, .int o2), (0, .ref h_fo), (1, .int p1), (2, .int p2)]) hx hb dX2_countSpan_7 hl (by decide) rfl (fun ls hl => ?_)
  have Lp9 : ∀ (n : Nat) (v1 : Int32) (v2 : Int32) (v3 : Int32) (v4 : Int32) (fo_counts : Nat → Int32) (X : (Nat → Int32) → Option ((Nat → Int32))) (H : Heap) (locs : List Loc) (ls : Array Slot), va_P (gD G) vwCl [(h_fo, .inr (1, [.int fo_operators, .ref h_fo_roots, .ref h_fo_leftChildren, .ref h_fo_rightChildren, .ref h_fo_counts])), (h_fo_counts, .inl (gI G, 1210, .inl fo_counts)), (h_fo_leftChildren, .inl (gI G, 10, .inl fo_leftChildren)), (h_fo_rightChildren, .inl (gI G, 10, .inl fo_rightChildren)), (h_fo_roots, .inl (gI G, 121, .inl fo_roots))] H → va_D A [(h_fo, .inr (1, [.int fo_operators, .ref h_fo_roots, .ref h_fo_leftChildren, .ref h_fo_rightChildren, .ref h_fo_counts])), (h_fo_counts, .inl (gI G, 1210, .inl fo_counts)), (h_fo_leftChildren, .inl (gI G, 10, .inl fo_leftChildren)), (h_fo_rightChildren, .inl (gI G, 10, .inl fo_rightChildren)), (h_fo_roots, .inl (gI G, 121, .inl fo_roots))] → va_S A s.heap H locs → lv_has ls 6 [(0, .ref h_fo), (1, .int v1), (2, .int v2), (3, .int v3), (4, .int v4)] → f_X2_countSpan_l9 F v1 v2 v3 fo_leftChildren fo_rightChildren fo_roots n v4 fo_counts X = some out → (∀ (fo_counts : Nat → Int32) (H : Heap) (locs : List Loc) (ls : Array Slot), va_P (gD G) vwCl [(h_fo, .inr (1, [.int fo_operators, .ref h_fo_roots, .ref h_fo_leftChildren, .ref h_fo_rightChildren, .ref h_fo_counts])), (h_fo_counts, .inl (gI G, 1210, .inl fo_counts)), (h_fo_leftChildren, .inl (gI G, 10, .inl fo_leftChildren)), (h_fo_rightChildren, .inl (gI G, 10, .inl fo_rightChildren)), (h_fo_roots, .inl (gI G, 121, .inl fo_roots))] H → va_D A [(h_fo, .inr (1, [.int fo_operators, .ref h_fo_roots, .ref h_fo_leftChildren, .ref h_fo_rightChildren, .ref h_fo_counts])), (h_fo_counts, .inl (gI G, 1210, .inl fo_counts)), (h_fo_leftChildren, .inl (gI G, 10, .inl fo_leftChildren)), (h_fo_rightChildren, .inl (gI G, 10, .inl fo_rightChildren)), (h_fo_roots, .inl (gI G, 121, .inl fo_roots))] → va_S A s.heap H locs → lv_has ls 6 [] → X fo_counts = some out → W p l e rm_X2_countSpan s m args below meth c H locs 0 0 Q (F0 m 85 ls [])) → W p l e rm_X2_countSpan s m args below meth c H locs 0 0 Q (F0 m 9 ls []) := by
    intro n
    induction n with
    | zero => intro v1 v2 v3 v4 fo_counts X H locs ls hP hD hS hl h HX; rw [f_X2_countSpan_l9] at h; cases h
    | succ n ih =>
        intro v1 v2 v3 v4 fo_counts X H locs ls hP hD hS hl h HX
        rw [f_X2_countSpan_l9] at h
        refine lv_iload hx hb dX2_countSpan_9 (lv_at hl 4 rfl) ?_
        refine lv_iload_n hx hb dX2_countSpan_11 rfl (lv_at hl 2 rfl) ?_
        refine lv_icmp_ge (tgt := 85) hx hb dX2_countSpan_12 (by decide) (fun c12 => ?_) (fun c12 => ?_)
        · have h := ip c12 h
          exact HX fo_counts H locs ls hP hD hS (lv_sub hl [] rfl) h
        · have h := ing c12 h
          refine lv_iconst (v := 0) hx hb dX2_countSpan_15 (by decide) ?_
          refine lv_istore (lv' := [(5, .int 0), (0, .ref h_fo), (1, .int v1), (2, .int v2), (3, .int v3), (4, .int v4)]) hx hb dX2_countSpan_16 hl (by decide) rfl (fun ls hl => ?_)
          refine lv_iload hx hb dX2_countSpan_18 (lv_at hl 5 rfl) ?_
          refine lv_aload_n hx hb dX2_countSpan_20 rfl (lv_at hl 1 rfl) ?_
          refine va_get (D := gD G) (ci := 1) (v := .ref h_fo_roots) (C := RX2) (T := TX2) (N := 5) hx hb hts lk_X2 hown hK hP 0 rfl rfl 1 (by decide) (hts _ fl_RX2_15) (fun _ h9 => h9) rfl dX2_countSpan_21 ?_
          refine lv_iload_n hx hb dX2_countSpan_24 rfl (lv_at hl 4 rfl) ?_
          obtain ⟨g25, h⟩ := gda h
          refine va_iald hx hb hK hP 4 1 rfl rfl g25 dX2_countSpan_25 ?_
          obtain ⟨o26, e26, h⟩ := bd h
          refine Ci.S (wr := [(h_fo, .inr (1, [.int fo_operators, .ref h_fo_roots, .ref h_fo_leftChildren, .ref h_fo_rightChildren, .ref h_fo_counts])), (h_fo_counts, .inl (gI G, 1210, .inl fo_counts)), (h_fo_leftChildren, .inl (gI G, 10, .inl fo_leftChildren)), (h_fo_rightChildren, .inl (gI G, 10, .inl fo_rightChildren)), (h_fo_roots, .inl (gI G, 121, .inl fo_roots))]) (c_X2_isIn F l G v4 (fo_roots (Int32.toNatClampNeg v3)) H.size o26 e26) hB km_X2_isIn st_X2_isIn ml_RX2_72 hP hD hS hl [] [0, 1, 2, 3, 4] ⟨rfl, rfl, ⟨rfl, rfl⟩, by decide⟩ ⟨⟨Nat.le_of_ble_eq_true rfl, Nat.le_of_ble_eq_true rfl⟩, Nat.le_of_ble_eq_true rfl, Nat.le_of_ble_eq_true rfl, Nat.le_of_ble_eq_true rfl⟩ rfl dX2_countSpan_26 (fun z H locs hP hD hS => ?_)
          have hP : va_P (gD G) vwCl [(h_fo, .inr (1, [.int fo_operators, .ref h_fo_roots, .ref h_fo_leftChildren, .ref h_fo_rightChildren, .ref h_fo_counts])), (h_fo_counts, .inl (gI G, 1210, .inl fo_counts)), (h_fo_leftChildren, .inl (gI G, 10, .inl fo_leftChildren)), (h_fo_rightChildren, .inl (gI G, 10, .inl fo_rightChildren)), (h_fo_roots, .inl (gI G, 121, .inl fo_roots))] H := hP
          have hD : va_D A [(h_fo, .inr (1, [.int fo_operators, .ref h_fo_roots, .ref h_fo_leftChildren, .ref h_fo_rightChildren, .ref h_fo_counts])), (h_fo_counts, .inl (gI G, 1210, .inl fo_counts)), (h_fo_leftChildren, .inl (gI G, 10, .inl fo_leftChildren)), (h_fo_rightChildren, .inl (gI G, 10, .inl fo_rightChildren)), (h_fo_roots, .inl (gI G, 121, .inl fo_roots))] := hD
          refine lv_if_eq (tgt := 65) hx hb dX2_countSpan_29 (by decide) (fun c29 => ?_) (fun c29 => ?_)
          · have h := ip c29 h
            refine lv_aload_n hx hb dX2_countSpan_65 rfl (lv_at hl 1 rfl) ?_
            refine va_get (D := gD G) (ci := 1) (v := .ref h_fo_counts) (C := RX2) (T := TX2) (N := 5) hx hb hts lk_X2 hown hK hP 0 rfl rfl 4 (by decide) (hts _ fl_RX2_25) (fun _ h9 => h9) rfl dX2_countSpan_66 ?_
            refine lv_iload_n hx hb dX2_countSpan_69 rfl (lv_at hl 4 rfl) ?_
            refine lv_bipush (v := 10) hx hb dX2_countSpan_70 (by decide) ?_
            refine lv_imul hx hb dX2_countSpan_72 ?_
            refine lv_iload hx hb dX2_countSpan_73 (lv_at hl 5 rfl) ?_
            refine lv_iadd hx hb dX2_countSpan_75 ?_
            refine lv_iload hx hb dX2_countSpan_76 (lv_at hl 0 rfl) ?_
            obtain ⟨g78, h⟩ := gda h
            refine va_iast hx hb hK hP hD hS 1 1 rfl rfl g78 dX2_countSpan_78 (fun H locs hP hD hS => ?_)
            have hP : va_P (gD G) vwCl [(h_fo, .inr (1, [.int fo_operators, .ref h_fo_roots, .ref h_fo_leftChildren, .ref h_fo_rightChildren, .ref h_fo_counts])), (h_fo_counts, .inl (gI G, 1210, .inl (upd fo_counts (Int32.toNatClampNeg ((v3 * 10) + v4)) 0))), (h_fo_leftChildren, .inl (gI G, 10, .inl fo_leftChildren)), (h_fo_rightChildren, .inl (gI G, 10, .inl fo_rightChildren)), (h_fo_roots, .inl (gI G, 121, .inl fo_roots))] H := hP
            have hD : va_D A [(h_fo, .inr (1, [.int fo_operators, .ref h_fo_roots, .ref h_fo_leftChildren, .ref h_fo_rightChildren, .ref h_fo_counts])), (h_fo_counts, .inl (gI G, 1210, .inl (upd fo_counts (Int32.toNatClampNeg ((v3 * 10) + v4)) 0))), (h_fo_leftChildren, .inl (gI G, 10, .inl fo_leftChildren)), (h_fo_rightChildren, .inl (gI G, 10, .inl fo_rightChildren)), (h_fo_roots, .inl (gI G, 121, .inl fo_roots))] := hD
            refine lv_iinc (v := (v4 + 1)) (lv' := [(4, .int (v4 + 1)), (5, .int 0), (0, .ref h_fo), (1, .int v1), (2, .int v2), (3, .int v3)]) hx hb dX2_countSpan_79 hl (k := 5) rfl rfl (by decide) rfl (fun ls hl => ?_)
            refine lv_goto (tgt := 9) hx hb dX2_countSpan_82 (by decide) ?_
            exact ih v1 v2 v3 (v4 + 1) (upd fo_counts (Int32.toNatClampNeg ((v3 * 10) + v4)) 0) X H locs ls hP hD hS (lv_sub hl [2, 3, 4, 5, 0] rfl) h HX
          · have h := ing c29 h
            refine lv_aload_n hx hb dX2_countSpan_32 rfl (lv_at hl 1 rfl) ?_
            refine lv_iload_n hx hb dX2_countSpan_33 rfl (lv_at hl 2 rfl) ?_
            refine lv_iload hx hb dX2_countSpan_34 (lv_at hl 5 rfl) ?_
            refine lv_aload_n hx hb dX2_countSpan_36 rfl (lv_at hl 1 rfl) ?_
            refine va_get (D := gD G) (ci := 1) (v := .ref h_fo_leftChildren) (C := RX2) (T := TX2) (N := 5) hx hb hts lk_X2 hown hK hP 0 rfl rfl 2 (by decide) (hts _ fl_RX2_19) (fun _ h9 => h9) rfl dX2_countSpan_37 ?_
            refine lv_iload hx hb dX2_countSpan_40 (lv_at hl 5 rfl) ?_
            obtain ⟨g42, h⟩ := gda h
            refine va_iald hx hb hK hP 2 1 rfl rfl g42 dX2_countSpan_42 ?_
            obtain ⟨o43, e43, h⟩ := bd h
            refine Ci.V (wr := [(h_fo_leftChildren, .inl (gI G, 10, .inl fo_leftChildren)), (h_fo_rightChildren, .inl (gI G, 10, .inl fo_rightChildren)), (h_fo_roots, .inl (gI G, 121, .inl fo_roots))]) (c_X2_treesOf F l G h_fo h_fo_roots h_fo_leftChildren h_fo_rightChildren h_fo_counts fo_operators fo_counts v1 v4 (fo_leftChildren (Int32.toNatClampNeg v4)) H.size o43 e43) hB km_X2_treesOf ⟨im_X2_treesOf, sl_X2_treesOf⟩ ml_RX2_64 hP hD hS hl ⟨0, 1, _, _, rfl, rfl, rfl⟩ [0, 1] [2, 3, 4] ⟨rfl, rfl, ⟨rfl, rfl⟩, by decide⟩ ⟨⟨Nat.le_of_ble_eq_true rfl, Nat.le_of_ble_eq_true rfl⟩, Nat.le_of_ble_eq_true rfl, Nat.le_of_ble_eq_true rfl, Nat.le_of_ble_eq_true rfl⟩ rfl dX2_countSpan_43 (fun z H locs hP hD hS => ?_)
            have hP : va_P (gD G) vwCl [(h_fo_leftChildren, .inl (gI G, 10, .inl fo_leftChildren)), (h_fo_rightChildren, .inl (gI G, 10, .inl fo_rightChildren)), (h_fo_roots, .inl (gI G, 121, .inl fo_roots)), (h_fo, .inr (1, [.int fo_operators, .ref h_fo_roots, .ref h_fo_leftChildren, .ref h_fo_rightChildren, .ref h_fo_counts])), (h_fo_counts, .inl (gI G, 1210, .inl fo_counts))] H := hP
            have hD : va_D A [(h_fo_leftChildren, .inl (gI G, 10, .inl fo_leftChildren)), (h_fo_rightChildren, .inl (gI G, 10, .inl fo_rightChildren)), (h_fo_roots, .inl (gI G, 121, .inl fo_roots)), (h_fo, .inr (1, [.int fo_operators, .ref h_fo_roots, .ref h_fo_leftChildren, .ref h_fo_rightChildren, .ref h_fo_counts])), (h_fo_counts, .inl (gI G, 1210, .inl fo_counts))] := hD
            refine lv_aload_n hx hb dX2_countSpan_46 rfl (lv_at hl 1 rfl) ?_
            refine lv_iload hx hb dX2_countSpan_47 (lv_at hl 5 rfl) ?_
            refine lv_iconst (v := 1) hx hb dX2_countSpan_49 (by decide) ?_
            refine lv_iadd hx hb dX2_countSpan_50 ?_
            refine lv_iload_n hx hb dX2_countSpan_51 rfl (lv_at hl 3 rfl) ?_
            refine lv_aload_n hx hb dX2_countSpan_52 rfl (lv_at hl 1 rfl) ?_
            refine va_get (D := gD G) (ci := 1) (v := .ref h_fo_rightChildren) (C := RX2) (T := TX2) (N := 5) hx hb hts lk_X2 hown hK hP 3 rfl rfl 3 (by decide) (hts _ fl_RX2_22) (fun _ h9 => h9) rfl dX2_countSpan_53 ?_
            refine lv_iload hx hb dX2_countSpan_56 (lv_at hl 5 rfl) ?_
            obtain ⟨g58, h⟩ := gda h
            refine va_iald hx hb hK hP 1 1 rfl rfl g58 dX2_countSpan_58 ?_
            obtain ⟨o59, e59, h⟩ := bd h
            refine Ci.V (wr := [(h_fo_leftChildren, .inl (gI G, 10, .inl fo_leftChildren)), (h_fo_rightChildren, .inl (gI G, 10, .inl fo_rightChildren)), (h_fo_roots, .inl (gI G, 121, .inl fo_roots))]) (c_X2_treesOf F l G h_fo h_fo_roots h_fo_leftChildren h_fo_rightChildren h_fo_counts fo_operators fo_counts (v4 + 1) v2 (fo_rightChildren (Int32.toNatClampNeg v4)) H.size o59 e59) hB km_X2_treesOf ⟨im_X2_treesOf, sl_X2_treesOf⟩ ml_RX2_64 hP hD hS hl ⟨0, 1, _, _, rfl, rfl, rfl⟩ [3, 4] [0, 1, 2] ⟨rfl, rfl, ⟨rfl, rfl⟩, by decide⟩ ⟨⟨Nat.le_of_ble_eq_true rfl, Nat.le_of_ble_eq_true rfl⟩, Nat.le_of_ble_eq_true rfl, Nat.le_of_ble_eq_true rfl, Nat.le_of_ble_eq_true rfl⟩ rfl dX2_countSpan_59 (fun z H locs hP hD hS => ?_)
            have hP : va_P (gD G) vwCl [(h_fo_leftChildren, .inl (gI G, 10, .inl fo_leftChildren)), (h_fo_rightChildren, .inl (gI G, 10, .inl fo_rightChildren)), (h_fo_roots, .inl (gI G, 121, .inl fo_roots)), (h_fo, .inr (1, [.int fo_operators, .ref h_fo_roots, .ref h_fo_leftChildren, .ref h_fo_rightChildren, .ref h_fo_counts])), (h_fo_counts, .inl (gI G, 1210, .inl fo_counts))] H := hP
            have hD : va_D A [(h_fo_leftChildren, .inl (gI G, 10, .inl fo_leftChildren)), (h_fo_rightChildren, .inl (gI G, 10, .inl fo_rightChildren)), (h_fo_roots, .inl (gI G, 121, .inl fo_roots)), (h_fo, .inr (1, [.int fo_operators, .ref h_fo_roots, .ref h_fo_leftChildren, .ref h_fo_rightChildren, .ref h_fo_counts])), (h_fo_counts, .inl (gI G, 1210, .inl fo_counts))] := hD
            refine lv_imul hx hb dX2_countSpan_62 ?_
            refine lv_istore (lv' := [(5, .int (o43 * o59)), (0, .ref h_fo), (1, .int v1), (2, .int v2), (3, .int v3), (4, .int v4)]) hx hb dX2_countSpan_63 hl (by decide) rfl (fun ls hl => ?_)
            refine lv_aload_n hx hb dX2_countSpan_65 rfl (lv_at hl 1 rfl) ?_
            refine va_get (D := gD G) (ci := 1) (v := .ref h_fo_counts) (C := RX2) (T := TX2) (N := 5) hx hb hts lk_X2 hown hK hP 3 rfl rfl 4 (by decide) (hts _ fl_RX2_25) (fun _ h9 => h9) rfl dX2_countSpan_66 ?_
            refine lv_iload_n hx hb dX2_countSpan_69 rfl (lv_at hl 4 rfl) ?_
            refine lv_bipush (v := 10) hx hb dX2_countSpan_70 (by decide) ?_
            refine lv_imul hx hb dX2_countSpan_72 ?_
            refine lv_iload hx hb dX2_countSpan_73 (lv_at hl 5 rfl) ?_
            refine lv_iadd hx hb dX2_countSpan_75 ?_
            refine lv_iload hx hb dX2_countSpan_76 (lv_at hl 0 rfl) ?_
            obtain ⟨g78, h⟩ := gda h
            refine va_iast hx hb hK hP hD hS 4 1 rfl rfl g78 dX2_countSpan_78 (fun H locs hP hD hS => ?_)
            have hP : va_P (gD G) vwCl [(h_fo_leftChildren, .inl (gI G, 10, .inl fo_leftChildren)), (h_fo_rightChildren, .inl (gI G, 10, .inl fo_rightChildren)), (h_fo_roots, .inl (gI G, 121, .inl fo_roots)), (h_fo, .inr (1, [.int fo_operators, .ref h_fo_roots, .ref h_fo_leftChildren, .ref h_fo_rightChildren, .ref h_fo_counts])), (h_fo_counts, .inl (gI G, 1210, .inl (upd fo_counts (Int32.toNatClampNeg ((v3 * 10) + v4)) (o43 * o59))))] H := hP
            have hD : va_D A [(h_fo_leftChildren, .inl (gI G, 10, .inl fo_leftChildren)), (h_fo_rightChildren, .inl (gI G, 10, .inl fo_rightChildren)), (h_fo_roots, .inl (gI G, 121, .inl fo_roots)), (h_fo, .inr (1, [.int fo_operators, .ref h_fo_roots, .ref h_fo_leftChildren, .ref h_fo_rightChildren, .ref h_fo_counts])), (h_fo_counts, .inl (gI G, 1210, .inl (upd fo_counts (Int32.toNatClampNeg ((v3 * 10) + v4)) (o43 * o59))))] := hD
            refine lv_iinc (v := (v4 + 1)) (lv' := [(4, .int (v4 + 1)), (5, .int (o43 * o59)), (0, .ref h_fo), (1, .int v1), (2, .int v2), (3, .int v3)]) hx hb dX2_countSpan_79 hl (k := 5) rfl rfl (by decide) rfl (fun ls hl => ?_)
            refine lv_goto (tgt := 9) hx hb dX2_countSpan_82 (by decide) ?_
            exact ih v1 v2 v3 (v4 + 1) (upd fo_counts (Int32.toNatClampNeg ((v3 * 10) + v4)) (o43 * o59)) X H locs ls (hP.sub [3, 4, 0, 1, 2] rfl) (hD.sub [3, 4, 0, 1, 2] (by decide) rfl) hS (lv_sub hl [2, 3, 4, 5, 0] rfl) h HX
  refine Lp9 F p1 p2 o2 p1 fo_counts _ H locs ls hP hD hS (lv_sub hl [2, 3, 4, 1, 0] rfl) h (fun fo_counts H locs ls hP hD hS hl h => ?_)
  cases h
  exact hret (fun _ => 0) _ _ _ _ hP hD hS dX2_countSpan_85
abbrev rm_X2_countTrees : Room := { frames := 3, cells := 0, slots := 0, locals := 72 }
theorem km_X2_countTrees : KM yX2_countTrees cX2_countTrees 3 (some .int) 0 := ⟨co_X2_countTrees, in_RX2, by decide +kernel⟩
set_option maxHeartbeats 4000000 in
set_option maxRecDepth 100000 in
theorem c_X2_countTrees (F : Nat) (l : Launch) (G : GT) (h_fo h_fo_roots h_fo_leftChildren h_fo_rightChildren h_fo_counts : Nat) (fo_operators : Int32) (fo_counts : Nat → Int32) (fo_leftChildren : Nat → Int32) (fo_rightChildren : Nat → Int32) (fo_roots : Nat → Int32) (sz : Nat) (out : Int32 × (Nat → Int32)) (h : f_X2_countTrees F fo_counts fo_leftChildren fo_operators fo_rightChildren fo_roots = some out) : Ci G l yX2_countTrees cX2_countTrees 3 (some .int) rm_X2_countTrees [.ref h_fo] [(h_fo, .inr (1, [.int fo_operators, .ref h_fo_roots, .ref h_fo_leftChildren, .ref h_fo_rightChildren, .ref h_fo_counts])), (h_fo_counts, .inl (gI G, 1210, .inl fo_counts)), (h_fo_leftChildren, .inl (gI G, 10, .inl fo_leftChildren)), (h_fo_rightChildren, .inl (gI G, 10, .inl fo_rightChildren)), (h_fo_roots, .inl (gI G, 121, .inl fo_roots))] sz (out.1) (fun _ => [(h_fo, .inr (1, [.int fo_operators, .ref h_fo_roots, .ref h_fo_leftChildren, .ref h_fo_rightChildren, .ref h_fo_counts])), (h_fo_counts, .inl (gI G, 1210, .inl (out.2))), (h_fo_leftChildren, .inl (gI G, 10, .inl fo_leftChildren)), (h_fo_rightChildren, .inl (gI G, 10, .inl fo_rightChildren)), (h_fo_roots, .inl (gI G, 121, .inl fo_roots))]) := by
  refine Ci.start rfl (by decide) (Nat.le_of_ble_eq_true rfl) ?_
  intro p e s m args below meth c A Q H locs ls hB hP hD hS hl hret
  obtain ⟨hx, hb, hmL, hr, hown, hts, hlocks, hnm, hA, hE⟩ := id hB
  obtain ⟨hK, hN, hV, hR, hZ, hZq, hAO⟩ := id hE
  have hown : s.vm.findClass RX2 = some m.cls := hown
  have hl : lv_has ls 3 [(0, .ref h_fo)] := hl
  rw [f_X2_countTrees] at h
  refine lv_iconst (v := 1) hx hb dX2_countTrees_0 (by decide) ?_
  refine lv_istore_n (lv' := [(1, .int 1), (0, .ref h_fo)]) hx hb dX2_countTrees_1 rfl hl (by decide) rfl (fun ls hl => ?_)
  have Lp2 : ∀ (n : Nat) (v1 : Int32) (fo_counts : Nat → Int32) (X : (Nat → Int32) → Option (Int32 × (Nat → Int32))) (H : Heap) (locs : List Loc) (ls : Array Slot), va_P (gD G) vwCl [(h_fo, .inr (1, [.int fo_operators, .ref h_fo_roots, .ref h_fo_leftChildren, .ref h_fo_rightChildren, .ref h_fo_counts])), (h_fo_counts, .inl (gI G, 1210, .inl fo_counts)), (h_fo_leftChildren, .inl (gI G, 10, .inl fo_leftChildren)), (h_fo_rightChildren, .inl (gI G, 10, .inl fo_rightChildren)), (h_fo_roots, .inl (gI G, 121, .inl fo_roots))] H → va_D A [(h_fo, .inr (1, [.int fo_operators, .ref h_fo_roots, .ref h_fo_leftChildren, .ref h_fo_rightChildren, .ref h_fo_counts])), (h_fo_counts, .inl (gI G, 1210, .inl fo_counts)), (h_fo_leftChildren, .inl (gI G, 10, .inl fo_leftChildren)), (h_fo_rightChildren, .inl (gI G, 10, .inl fo_rightChildren)), (h_fo_roots, .inl (gI G, 121, .inl fo_roots))] → va_S A s.heap H locs → lv_has ls 3 [(0, .ref h_fo), (1, .int v1)] → f_X2_countTrees_l2 F fo_leftChildren fo_operators fo_rightChildren fo_roots n v1 fo_counts X = some out → (∀ (fo_counts : Nat → Int32) (H : Heap) (locs : List Loc) (ls : Array Slot), va_P (gD G) vwCl [(h_fo, .inr (1, [.int fo_operators, .ref h_fo_roots, .ref h_fo_leftChildren, .ref h_fo_rightChildren, .ref h_fo_counts])), (h_fo_counts, .inl (gI G, 1210, .inl fo_counts)), (h_fo_leftChildren, .inl (gI G, 10, .inl fo_leftChildren)), (h_fo_rightChildren, .inl (gI G, 10, .inl fo_rightChildren)), (h_fo_roots, .inl (gI G, 121, .inl fo_roots))] H → va_D A [(h_fo, .inr (1, [.int fo_operators, .ref h_fo_roots, .ref h_fo_leftChildren, .ref h_fo_rightChildren, .ref h_fo_counts])), (h_fo_counts, .inl (gI G, 1210, .inl fo_counts)), (h_fo_leftChildren, .inl (gI G, 10, .inl fo_leftChildren)), (h_fo_rightChildren, .inl (gI G, 10, .inl fo_rightChildren)), (h_fo_roots, .inl (gI G, 121, .inl fo_roots))] → va_S A s.heap H locs → lv_has ls 3 [(0, .ref h_fo)] → X fo_counts = some out → W p l e rm_X2_countTrees s m args below meth c H locs 0 0 Q (F0 m 42 ls [])) → W p l e rm_X2_countTrees s m args below meth c H locs 0 0 Q (F0 m 2 ls []) := by
    intro n
    induction n with
    | zero => intro v1 fo_counts X H locs ls hP hD hS hl h HX; rw [f_X2_countTrees_l2] at h; cases h
    | succ n ih =>
        intro v1 fo_counts X H locs ls hP hD hS hl h HX
        rw [f_X2_countTrees_l2] at h
        refine lv_iload_n hx hb dX2_countTrees_2 rfl (lv_at hl 1 rfl) ?_
        refine lv_aload_n hx hb dX2_countTrees_3 rfl (lv_at hl 0 rfl) ?_
        refine va_get (D := gD G) (ci := 1) (v := .int fo_operators) (C := RX2) (T := TX2) (N := 5) hx hb hts lk_X2 hown hK hP 0 rfl rfl 0 (by decide) (hts _ fl_RX2_9) (fun _ h9 => h9) rfl dX2_countTrees_4 ?_
        refine lv_icmp_gt (tgt := 42) hx hb dX2_countTrees_7 (by decide) (fun c7 => ?_) (fun c7 => ?_)
        · have h := ip c7 h
          exact HX fo_counts H locs ls hP hD hS (lv_sub hl [0] rfl) h
        · have h := ing c7 h
          refine lv_iconst (v := 0) hx hb dX2_countTrees_10 (by decide) ?_
          refine lv_istore_n (lv' := [(2, .int 0), (0, .ref h_fo), (1, .int v1)]) hx hb dX2_countTrees_11 rfl hl (by decide) rfl (fun ls hl => ?_)
          have Lp12 : ∀ (n : Nat) (v1 : Int32) (v2 : Int32) (fo_counts : Nat → Int32) (X : (Nat → Int32) → Option (Int32 × (Nat → Int32))) (H : Heap) (locs : List Loc) (ls : Array Slot), va_P (gD G) vwCl [(h_fo, .inr (1, [.int fo_operators, .ref h_fo_roots, .ref h_fo_leftChildren, .ref h_fo_rightChildren, .ref h_fo_counts])), (h_fo_counts, .inl (gI G, 1210, .inl fo_counts)), (h_fo_leftChildren, .inl (gI G, 10, .inl fo_leftChildren)), (h_fo_rightChildren, .inl (gI G, 10, .inl fo_rightChildren)), (h_fo_roots, .inl (gI G, 121, .inl fo_roots))] H → va_D A [(h_fo, .inr (1, [.int fo_operators, .ref h_fo_roots, .ref h_fo_leftChildren, .ref h_fo_rightChildren, .ref h_fo_counts])), (h_fo_counts, .inl (gI G, 1210, .inl fo_counts)), (h_fo_leftChildren, .inl (gI G, 10, .inl fo_leftChildren)), (h_fo_rightChildren, .inl (gI G, 10, .inl fo_rightChildren)), (h_fo_roots, .inl (gI G, 121, .inl fo_roots))] → va_S A s.heap H locs → lv_has ls 3 [(0, .ref h_fo), (1, .int v1), (2, .int v2)] → f_X2_countTrees_l12 F v1 fo_leftChildren fo_operators fo_rightChildren fo_roots n v2 fo_counts X = some out → (∀ (fo_counts : Nat → Int32) (H : Heap) (locs : List Loc) (ls : Array Slot), va_P (gD G) vwCl [(h_fo, .inr (1, [.int fo_operators, .ref h_fo_roots, .ref h_fo_leftChildren, .ref h_fo_rightChildren, .ref h_fo_counts])), (h_fo_counts, .inl (gI G, 1210, .inl fo_counts)), (h_fo_leftChildren, .inl (gI G, 10, .inl fo_leftChildren)), (h_fo_rightChildren, .inl (gI G, 10, .inl fo_rightChildren)), (h_fo_roots, .inl (gI G, 121, .inl fo_roots))] H → va_D A [(h_fo, .inr (1, [.int fo_operators, .ref h_fo_roots, .ref h_fo_leftChildren, .ref h_fo_rightChildren, .ref h_fo_counts])), (h_fo_counts, .inl (gI G, 1210, .inl fo_counts)), (h_fo_leftChildren, .inl (gI G, 10, .inl fo_leftChildren)), (h_fo_rightChildren, .inl (gI G, 10, .inl fo_rightChildren)), (h_fo_roots, .inl (gI G, 121, .inl fo_roots))] → va_S A s.heap H locs → lv_has ls 3 [(0, .ref h_fo), (1, .int v1)] → X fo_counts = some out → W p l e rm_X2_countTrees s m args below meth c H locs 0 0 Q (F0 m 36 ls [])) → W p l e rm_X2_countTrees s m args below meth c H locs 0 0 Q (F0 m 12 ls []) := by
            intro n
            induction n with
            | zero => intro v1 v2 fo_counts X H locs ls hP hD hS hl h HX; rw [f_X2_countTrees_l12] at h; cases h
            | succ n ih =>
                intro v1 v2 fo_counts X H locs ls hP hD hS hl h HX
                rw [f_X2_countTrees_l12] at h
                refine lv_iload_n hx hb dX2_countTrees_12 rfl (lv_at hl 2 rfl) ?_
                refine lv_iload_n hx hb dX2_countTrees_13 rfl (lv_at hl 1 rfl) ?_
                refine lv_iadd hx hb dX2_countTrees_14 ?_
                refine lv_aload_n hx hb dX2_countTrees_15 rfl (lv_at hl 0 rfl) ?_
                refine va_get (D := gD G) (ci := 1) (v := .int fo_operators) (C := RX2) (T := TX2) (N := 5) hx hb hts lk_X2 hown hK hP 0 rfl rfl 0 (by decide) (hts _ fl_RX2_9) (fun _ h9 => h9) rfl dX2_countTrees_16 ?_
                refine lv_icmp_gt (tgt := 36) hx hb dX2_countTrees_19 (by decide) (fun c19 => ?_) (fun c19 => ?_)
                · have h := ip c19 h
                  exact HX fo_counts H locs ls hP hD hS (lv_sub hl [0, 1] rfl) h
                · have h := ing c19 h
                  refine lv_aload_n hx hb dX2_countTrees_22 rfl (lv_at hl 0 rfl) ?_
                  refine lv_iload_n hx hb dX2_countTrees_23 rfl (lv_at hl 2 rfl) ?_
                  refine lv_iload_n hx hb dX2_countTrees_24 rfl (lv_at hl 2 rfl) ?_
                  refine lv_iload_n hx hb dX2_countTrees_25 rfl (lv_at hl 1 rfl) ?_
                  refine lv_iadd hx hb dX2_countTrees_26 ?_
                  obtain ⟨o27, e27, h⟩ := bd h
                  refine Cv.V (wr := []) (c_X2_countSpan F l G h_fo h_fo_roots h_fo_leftChildren h_fo_rightChildren h_fo_counts fo_operators fo_counts fo_leftChildren fo_rightChildren fo_roots v2 (v2 + v1) H.size o27 e27) hB km_X2_countSpan ⟨im_X2_countSpan, sl_X2_countSpan⟩ ml_RX2_60 hP hD hS hl ⟨0, 1, _, _, rfl, rfl, rfl⟩ [0, 1, 2, 3, 4] [] ⟨rfl, rfl, ⟨rfl, rfl⟩, by decide⟩ ⟨⟨Nat.le_of_ble_eq_true rfl, Nat.le_of_ble_eq_true rfl⟩, Nat.le_of_ble_eq_true rfl, Nat.le_of_ble_eq_true rfl, Nat.le_of_ble_eq_true rfl⟩ rfl dX2_countTrees_27 (fun z H locs hP hD hS => ?_)
                  have hP : va_P (gD G) vwCl [(h_fo, .inr (1, [.int fo_operators, .ref h_fo_roots, .ref h_fo_leftChildren, .ref h_fo_rightChildren, .ref h_fo_counts])), (h_fo_counts, .inl (gI G, 1210, .inl o27)), (h_fo_leftChildren, .inl (gI G, 10, .inl fo_leftChildren)), (h_fo_rightChildren, .inl (gI G, 10, .inl fo_rightChildren)), (h_fo_roots, .inl (gI G, 121, .inl fo_roots))] H := hP
                  have hD : va_D A [(h_fo, .inr (1, [.int fo_operators, .ref h_fo_roots, .ref h_fo_leftChildren, .ref h_fo_rightChildren, .ref h_fo_counts])), (h_fo_counts, .inl (gI G, 1210, .inl o27)), (h_fo_leftChildren, .inl (gI G, 10, .inl fo_leftChildren)), (h_fo_rightChildren, .inl (gI G, 10, .inl fo_rightChildren)), (h_fo_roots, .inl (gI G, 121, .inl fo_roots))] := hD
                  refine lv_iinc (v := (v2 + 1)) (lv' := [(2, .int (v2 + 1)), (0, .ref h_fo), (1, .int v1)]) hx hb dX2_countTrees_30 hl (k := 2) rfl rfl (by decide) rfl (fun ls hl => ?_)
                  refine lv_goto (tgt := 12) hx hb dX2_countTrees_33 (by decide) ?_
                  exact ih v1 (v2 + 1) o27 X H locs ls hP hD hS (lv_sub hl [1, 2, 0] rfl) h HX
          refine Lp12 F v1 0 fo_counts _ H locs ls hP hD hS (lv_sub hl [1, 2, 0] rfl) h (fun fo_counts H locs ls hP hD hS hl h => ?_)
          refine lv_iinc (v := (v1 + 1)) (lv' := [(1, .int (v1 + 1)), (0, .ref h_fo)]) hx hb dX2_countTrees_36 hl (k := 1) rfl rfl (by decide) rfl (fun ls hl => ?_)
          refine lv_goto (tgt := 2) hx hb dX2_countTrees_39 (by decide) ?_
          exact ih (v1 + 1) fo_counts X H locs ls hP hD hS (lv_sub hl [1, 0] rfl) h HX
  refine Lp2 F 1 fo_counts _ H locs ls hP hD hS (lv_sub hl [1, 0] rfl) h (fun fo_counts H locs ls hP hD hS hl h => ?_)
  refine lv_aload_n hx hb dX2_countTrees_42 rfl (lv_at hl 0 rfl) ?_
  refine lv_iconst (v := 0) hx hb dX2_countTrees_43 (by decide) ?_
  refine lv_aload_n hx hb dX2_countTrees_44 rfl (lv_at hl 0 rfl) ?_
  refine va_get (D := gD G) (ci := 1) (v := .int fo_operators) (C := RX2) (T := TX2) (N := 5) hx hb hts lk_X2 hown hK hP 0 rfl rfl 0 (by decide) (hts _ fl_RX2_9) (fun _ h9 => h9) rfl dX2_countTrees_45 ?_
  refine lv_iconst (v := (-1)) hx hb dX2_countTrees_48 (by decide) ?_
  obtain ⟨o49, e49, h⟩ := bd h
  refine Ci.V (wr := [(h_fo_leftChildren, .inl (gI G, 10, .inl fo_leftChildren)), (h_fo_rightChildren, .inl (gI G, 10, .inl fo_rightChildren)), (h_fo_roots, .inl (gI G, 121, .inl fo_roots))]) (c_X2_treesOf F l G h_fo h_fo_roots h_fo_leftChildren h_fo_rightChildren h_fo_counts fo_operators fo_counts 0 fo_operators (-1) H.size o49 e49) hB km_X2_treesOf ⟨im_X2_treesOf, sl_X2_treesOf⟩ ml_RX2_64 hP hD hS hl ⟨0, 1, _, _, rfl, rfl, rfl⟩ [0, 1] [2, 3, 4] ⟨rfl, rfl, ⟨rfl, rfl⟩, by decide⟩ ⟨⟨Nat.le_of_ble_eq_true rfl, Nat.le_of_ble_eq_true rfl⟩, Nat.le_of_ble_eq_true rfl, Nat.le_of_ble_eq_true rfl, Nat.le_of_ble_eq_true rfl⟩ rfl dX2_countTrees_49 (fun z H locs hP hD hS => ?_)
  have hP : va_P (gD G) vwCl [(h_fo_leftChildren, .inl (gI G, 10, .inl fo_leftChildren)), (h_fo_rightChildren, .inl (gI G, 10, .inl fo_rightChildren)), (h_fo_roots, .inl (gI G, 121, .inl fo_roots)), (h_fo, .inr (1, [.int fo_operators, .ref h_fo_roots, .ref h_fo_leftChildren, .ref h_fo_rightChildren, .ref h_fo_counts])), (h_fo_counts, .inl (gI G, 1210, .inl fo_counts))] H := hP
  have hD : va_D A [(h_fo_leftChildren, .inl (gI G, 10, .inl fo_leftChildren)), (h_fo_rightChildren, .inl (gI G, 10, .inl fo_rightChildren)), (h_fo_roots, .inl (gI G, 121, .inl fo_roots)), (h_fo, .inr (1, [.int fo_operators, .ref h_fo_roots, .ref h_fo_leftChildren, .ref h_fo_rightChildren, .ref h_fo_counts])), (h_fo_counts, .inl (gI G, 1210, .inl fo_counts))] := hD
  cases h
  exact hret (fun _ => 0) _ _ _ _ (hP.sub [3, 4, 0, 1, 2] rfl) (hD.sub [3, 4, 0, 1, 2] (by decide) rfl) hS rfl dX2_countTrees_52
abbrev rm_X2_keepRoots : Room := { frames := 3, cells := 0, slots := 0, locals := 72 }
theorem km_X2_keepRoots : KM yX2_keepRoots cX2_keepRoots 5 none 1 := ⟨co_X2_keepRoots, in_RX2, by decide +kernel⟩
set_option maxHeartbeats 4000000 in
set_option maxRecDepth 100000 in
theorem c_X2_keepRoots (F : Nat) (l : Launch) (G : GT) (h_fo h_fo_roots h_fo_leftChildren h_fo_rightChildren h_fo_counts : Nat) (fo_operators : Int32) (fo_counts : Nat → Int32) (fo_leftChildren : Nat → Int32) (fo_rightChildren : Nat → Int32) (fo_roots : Nat → Int32) (p1 : Int32) (sz : Nat) (out : (Nat → Int32) × (Nat → Int32)) (h : f_X2_keepRoots F p1 fo_counts fo_leftChildren fo_operators fo_rightChildren fo_roots = some out) : Cv G l yX2_keepRoots cX2_keepRoots 5 none rm_X2_keepRoots [.ref h_fo, .int p1] [(h_fo, .inr (1, [.int fo_operators, .ref h_fo_roots, .ref h_fo_leftChildren, .ref h_fo_rightChildren, .ref h_fo_counts])), (h_fo_counts, .inl (gI G, 1210, .inl fo_counts)), (h_fo_leftChildren, .inl (gI G, 10, .inl fo_leftChildren)), (h_fo_rightChildren, .inl (gI G, 10, .inl fo_rightChildren)), (h_fo_roots, .inl (gI G, 121, .inl fo_roots))] sz (fun _ => [(h_fo, .inr (1, [.int fo_operators, .ref h_fo_roots, .ref h_fo_leftChildren, .ref h_fo_rightChildren, .ref h_fo_counts])), (h_fo_counts, .inl (gI G, 1210, .inl (out.1))), (h_fo_leftChildren, .inl (gI G, 10, .inl fo_leftChildren)), (h_fo_rightChildren, .inl (gI G, 10, .inl fo_rightChildren)), (h_fo_roots, .inl (gI G, 121, .inl (out.2)))]) := by
  refine Cv.start (by decide) (Nat.le_of_ble_eq_true rfl) ?_
  intro p e s m args below meth c A Q H locs ls hB hP hD hS hl hret
  obtain ⟨hx, hb, hmL, hr, hown, hts, hlocks, hnm, hA, hE⟩ := id hB
  obtain ⟨hK, hN, hV, hR, hZ, hZq, hAO⟩ := id hE
  have hown : s.vm.findClass RX2 = some m.cls := hown
  have hl : lv_has ls 5 [(0, .ref h_fo), (1, .int p1)] := hl
  rw [f_X2_keepRoots] at h
  refine lv_iconst (v := 1) hx hb dX2_keepRoots_0 (by decide) ?_
  refine lv_istore_n (lv' := [(2, .int 1), (0, .ref h_fo), (1, .int p1)]) hx hb dX2_keepRoots_1 rfl hl (by decide) rfl (fun ls hl => ?_)
  have Lp2 : ∀ (n : Nat) (v1 : Int32) (v2 : Int32) (fo_counts : Nat → Int32) (fo_roots : Nat → Int32) (X : (Nat → Int32) → (Nat → Int32) → Option ((Nat → Int32) × (Nat → Int32))) (H : Heap) (locs : List Loc) (ls : Array Slot), va_P (gD G) vwCl [(h_fo, .inr (1, [.int fo_operators, .ref h_fo_roots, .ref h_fo_leftChildren, .ref h_fo_rightChildren, .ref h_fo_counts])), (h_fo_counts, .inl (gI G, 1210, .inl fo_counts)), (h_fo_leftChildren, .inl (gI G, 10, .inl fo_leftChildren)), (h_fo_rightChildren, .inl (gI G, 10, .inl fo_rightChildren)), (h_fo_roots, .inl (gI G, 121, .inl fo_roots))] H → va_D A [(h_fo, .inr (1, [.int fo_operators, .ref h_fo_roots, .ref h_fo_leftChildren, .ref h_fo_rightChildren, .ref h_fo_counts])), (h_fo_counts, .inl (gI G, 1210, .inl fo_counts)), (h_fo_leftChildren, .inl (gI G, 10, .inl fo_leftChildren)), (h_fo_rightChildren, .inl (gI G, 10, .inl fo_rightChildren)), (h_fo_roots, .inl (gI G, 121, .inl fo_roots))] → va_S A s.heap H locs → lv_has ls 5 [(0, .ref h_fo), (1, .int v1), (2, .int v2)] → f_X2_keepRoots_l2 F v1 fo_leftChildren fo_operators fo_rightChildren n v2 fo_counts fo_roots X = some out → (∀ (fo_counts : Nat → Int32) (fo_roots : Nat → Int32) (H : Heap) (locs : List Loc) (ls : Array Slot), va_P (gD G) vwCl [(h_fo, .inr (1, [.int fo_operators, .ref h_fo_roots, .ref h_fo_leftChildren, .ref h_fo_rightChildren, .ref h_fo_counts])), (h_fo_counts, .inl (gI G, 1210, .inl fo_counts)), (h_fo_leftChildren, .inl (gI G, 10, .inl fo_leftChildren)), (h_fo_rightChildren, .inl (gI G, 10, .inl fo_rightChildren)), (h_fo_roots, .inl (gI G, 121, .inl fo_roots))] H → va_D A [(h_fo, .inr (1, [.int fo_operators, .ref h_fo_roots, .ref h_fo_leftChildren, .ref h_fo_rightChildren, .ref h_fo_counts])), (h_fo_counts, .inl (gI G, 1210, .inl fo_counts)), (h_fo_leftChildren, .inl (gI G, 10, .inl fo_leftChildren)), (h_fo_rightChildren, .inl (gI G, 10, .inl fo_rightChildren)), (h_fo_roots, .inl (gI G, 121, .inl fo_roots))] → va_S A s.heap H locs → lv_has ls 5 [] → X fo_counts fo_roots = some out → W p l e rm_X2_keepRoots s m args below meth c H locs 0 0 Q (F0 m 79 ls [])) → W p l e rm_X2_keepRoots s m args below meth c H locs 0 0 Q (F0 m 2 ls []) := by
    intro n
    induction n with
    | zero => intro v1 v2 fo_counts fo_roots X H locs ls hP hD hS hl h HX; rw [f_X2_keepRoots_l2] at h; cases h
    | succ n ih =>
        intro v1 v2 fo_counts fo_roots X H locs ls hP hD hS hl h HX
        rw [f_X2_keepRoots_l2] at h
        refine lv_iload_n hx hb dX2_keepRoots_2 rfl (lv_at hl 2 rfl) ?_
        refine lv_aload_n hx hb dX2_keepRoots_3 rfl (lv_at hl 0 rfl) ?_
        refine va_get (D := gD G) (ci := 1) (v := .int fo_operators) (C := RX2) (T := TX2) (N := 5) hx hb hts lk_X2 hown hK hP 0 rfl rfl 0 (by decide) (hts _ fl_RX2_9) (fun _ h9 => h9) rfl dX2_keepRoots_4 ?_
        refine lv_icmp_gt (tgt := 79) hx hb dX2_keepRoots_7 (by decide) (fun c7 => ?_) (fun c7 => ?_)
        · have h := ip c7 h
          exact HX fo_counts fo_roots H locs ls hP hD hS (lv_sub hl [] rfl) h
        · have h := ing c7 h
          refine lv_iconst (v := 0) hx hb dX2_keepRoots_10 (by decide) ?_
          refine lv_istore_n (lv' := [(3, .int 0), (0, .ref h_fo), (1, .int v1), (2, .int v2)]) hx hb dX2_keepRoots_11 rfl hl (by decide) rfl (fun ls hl => ?_)
          have Lp12 : ∀ (n : Nat) (v1 : Int32) (v2 : Int32) (v3 : Int32) (fo_counts : Nat → Int32) (fo_roots : Nat → Int32) (X : (Nat → Int32) → (Nat → Int32) → Option ((Nat → Int32) × (Nat → Int32))) (H : Heap) (locs : List Loc) (ls : Array Slot), va_P (gD G) vwCl [(h_fo, .inr (1, [.int fo_operators, .ref h_fo_roots, .ref h_fo_leftChildren, .ref h_fo_rightChildren, .ref h_fo_counts])), (h_fo_counts, .inl (gI G, 1210, .inl fo_counts)), (h_fo_leftChildren, .inl (gI G, 10, .inl fo_leftChildren)), (h_fo_rightChildren, .inl (gI G, 10, .inl fo_rightChildren)), (h_fo_roots, .inl (gI G, 121, .inl fo_roots))] H → va_D A [(h_fo, .inr (1, [.int fo_operators, .ref h_fo_roots, .ref h_fo_leftChildren, .ref h_fo_rightChildren, .ref h_fo_counts])), (h_fo_counts, .inl (gI G, 1210, .inl fo_counts)), (h_fo_leftChildren, .inl (gI G, 10, .inl fo_leftChildren)), (h_fo_rightChildren, .inl (gI G, 10, .inl fo_rightChildren)), (h_fo_roots, .inl (gI G, 121, .inl fo_roots))] → va_S A s.heap H locs → lv_has ls 5 [(0, .ref h_fo), (1, .int v1), (2, .int v2), (3, .int v3)] → f_X2_keepRoots_l12 F v1 v2 fo_leftChildren fo_operators fo_rightChildren n v3 fo_counts fo_roots X = some out → (∀ (fo_counts : Nat → Int32) (fo_roots : Nat → Int32) (H : Heap) (locs : List Loc) (ls : Array Slot), va_P (gD G) vwCl [(h_fo, .inr (1, [.int fo_operators, .ref h_fo_roots, .ref h_fo_leftChildren, .ref h_fo_rightChildren, .ref h_fo_counts])), (h_fo_counts, .inl (gI G, 1210, .inl fo_counts)), (h_fo_leftChildren, .inl (gI G, 10, .inl fo_leftChildren)), (h_fo_rightChildren, .inl (gI G, 10, .inl fo_rightChildren)), (h_fo_roots, .inl (gI G, 121, .inl fo_roots))] H → va_D A [(h_fo, .inr (1, [.int fo_operators, .ref h_fo_roots, .ref h_fo_leftChildren, .ref h_fo_rightChildren, .ref h_fo_counts])), (h_fo_counts, .inl (gI G, 1210, .inl fo_counts)), (h_fo_leftChildren, .inl (gI G, 10, .inl fo_leftChildren)), (h_fo_rightChildren, .inl (gI G, 10, .inl fo_rightChildren)), (h_fo_roots, .inl (gI G, 121, .inl fo_roots))] → va_S A s.heap H locs → lv_has ls 5 [(0, .ref h_fo), (1, .int v1), (2, .int v2)] → X fo_counts fo_roots = some out → W p l e rm_X2_keepRoots s m args below meth c H locs 0 0 Q (F0 m 73 ls [])) → W p l e rm_X2_keepRoots s m args below meth c H locs 0 0 Q (F0 m 12 ls []) := by
            intro n
            induction n with
            | zero => intro v1 v2 v3 fo_counts fo_roots X H locs ls hP hD hS hl h HX; rw [f_X2_keepRoots_l12] at h; cases h
            | succ n ih =>
                intro v1 v2 v3 fo_counts fo_roots X H locs ls hP hD hS hl h HX
                rw [f_X2_keepRoots_l12] at h
                refine lv_iload_n hx hb dX2_keepRoots_12 rfl (lv_at hl 3 rfl) ?_
                refine lv_iload_n hx hb dX2_keepRoots_13 rfl (lv_at hl 2 rfl) ?_
                refine lv_iadd hx hb dX2_keepRoots_14 ?_
                refine lv_aload_n hx hb dX2_keepRoots_15 rfl (lv_at hl 0 rfl) ?_
                refine va_get (D := gD G) (ci := 1) (v := .int fo_operators) (C := RX2) (T := TX2) (N := 5) hx hb hts lk_X2 hown hK hP 0 rfl rfl 0 (by decide) (hts _ fl_RX2_9) (fun _ h9 => h9) rfl dX2_keepRoots_16 ?_
                refine lv_icmp_gt (tgt := 73) hx hb dX2_keepRoots_19 (by decide) (fun c19 => ?_) (fun c19 => ?_)
                · have h := ip c19 h
                  exact HX fo_counts fo_roots H locs ls hP hD hS (lv_sub hl [0, 1, 2] rfl) h
                · have h := ing c19 h
                  refine lv_iload_n hx hb dX2_keepRoots_22 rfl (lv_at hl 3 rfl) ?_
                  refine lv_iload_n hx hb dX2_keepRoots_23 rfl (lv_at hl 2 rfl) ?_
                  refine lv_iadd hx hb dX2_keepRoots_24 ?_
                  refine lv_istore (lv' := [(4, .int (v3 + v2)), (0, .ref h_fo), (1, .int v1), (2, .int v2), (3, .int v3)]) hx hb dX2_keepRoots_25 hl (by decide) rfl (fun ls hl => ?_)
                  refine lv_aload_n hx hb dX2_keepRoots_27 rfl (lv_at hl 1 rfl) ?_
                  refine lv_iload_n hx hb dX2_keepRoots_28 rfl (lv_at hl 4 rfl) ?_
                  refine lv_iload hx hb dX2_keepRoots_29 (lv_at hl 0 rfl) ?_
                  obtain ⟨o31, e31, h⟩ := bd h
                  refine Cv.V (wr := []) (c_X2_countSpan F l G h_fo h_fo_roots h_fo_leftChildren h_fo_rightChildren h_fo_counts fo_operators fo_counts fo_leftChildren fo_rightChildren fo_roots v3 (v3 + v2) H.size o31 e31) hB km_X2_countSpan ⟨im_X2_countSpan, sl_X2_countSpan⟩ ml_RX2_60 hP hD hS hl ⟨0, 1, _, _, rfl, rfl, rfl⟩ [0, 1, 2, 3, 4] [] ⟨rfl, rfl, ⟨rfl, rfl⟩, by decide⟩ ⟨⟨Nat.le_of_ble_eq_true rfl, Nat.le_of_ble_eq_true rfl⟩, Nat.le_of_ble_eq_true rfl, Nat.le_of_ble_eq_true rfl, Nat.le_of_ble_eq_true rfl⟩ rfl dX2_keepRoots_31 (fun z H locs hP hD hS => ?_)
                  have hP : va_P (gD G) vwCl [(h_fo, .inr (1, [.int fo_operators, .ref h_fo_roots, .ref h_fo_leftChildren, .ref h_fo_rightChildren, .ref h_fo_counts])), (h_fo_counts, .inl (gI G, 1210, .inl o31)), (h_fo_leftChildren, .inl (gI G, 10, .inl fo_leftChildren)), (h_fo_rightChildren, .inl (gI G, 10, .inl fo_rightChildren)), (h_fo_roots, .inl (gI G, 121, .inl fo_roots))] H := hP
                  have hD : va_D A [(h_fo, .inr (1, [.int fo_operators, .ref h_fo_roots, .ref h_fo_leftChildren, .ref h_fo_rightChildren, .ref h_fo_counts])), (h_fo_counts, .inl (gI G, 1210, .inl o31)), (h_fo_leftChildren, .inl (gI G, 10, .inl fo_leftChildren)), (h_fo_rightChildren, .inl (gI G, 10, .inl fo_rightChildren)), (h_fo_roots, .inl (gI G, 121, .inl fo_roots))] := hD
                  refine lv_aload_n hx hb dX2_keepRoots_34 rfl (lv_at hl 1 rfl) ?_
                  refine lv_iload_n hx hb dX2_keepRoots_35 rfl (lv_at hl 4 rfl) ?_
                  refine lv_iload hx hb dX2_keepRoots_36 (lv_at hl 0 rfl) ?_
                  refine lv_iload_n hx hb dX2_keepRoots_38 rfl (lv_at hl 2 rfl) ?_
                  obtain ⟨o39, e39, h⟩ := bd h
                  refine Ci.V (wr := [(h_fo_leftChildren, .inl (gI G, 10, .inl fo_leftChildren)), (h_fo_rightChildren, .inl (gI G, 10, .inl fo_rightChildren)), (h_fo_roots, .inl (gI G, 121, .inl fo_roots))]) (c_X2_treesOf F l G h_fo h_fo_roots h_fo_leftChildren h_fo_rightChildren h_fo_counts fo_operators o31 v3 (v3 + v2) v1 H.size o39 e39) hB km_X2_treesOf ⟨im_X2_treesOf, sl_X2_treesOf⟩ ml_RX2_64 hP hD hS hl ⟨0, 1, _, _, rfl, rfl, rfl⟩ [0, 1] [2, 3, 4] ⟨rfl, rfl, ⟨rfl, rfl⟩, by decide⟩ ⟨⟨Nat.le_of_ble_eq_true rfl, Nat.le_of_ble_eq_true rfl⟩, Nat.le_of_ble_eq_true rfl, Nat.le_of_ble_eq_true rfl, Nat.le_of_ble_eq_true rfl⟩ rfl dX2_keepRoots_39 (fun z H locs hP hD hS => ?_)
                  have hP : va_P (gD G) vwCl [(h_fo_leftChildren, .inl (gI G, 10, .inl fo_leftChildren)), (h_fo_rightChildren, .inl (gI G, 10, .inl fo_rightChildren)), (h_fo_roots, .inl (gI G, 121, .inl fo_roots)), (h_fo, .inr (1, [.int fo_operators, .ref h_fo_roots, .ref h_fo_leftChildren, .ref h_fo_rightChildren, .ref h_fo_counts])), (h_fo_counts, .inl (gI G, 1210, .inl o31))] H := hP
                  have hD : va_D A [(h_fo_leftChildren, .inl (gI G, 10, .inl fo_leftChildren)), (h_fo_rightChildren, .inl (gI G, 10, .inl fo_rightChildren)), (h_fo_roots, .inl (gI G, 121, .inl fo_roots)), (h_fo, .inr (1, [.int fo_operators, .ref h_fo_roots, .ref h_fo_leftChildren, .ref h_fo_rightChildren, .ref h_fo_counts])), (h_fo_counts, .inl (gI G, 1210, .inl o31))] := hD
                  refine lv_if_le (tgt := 67) hx hb dX2_keepRoots_42 (by decide) (fun c42 => ?_) (fun c42 => ?_)
                  · have h := ip c42 h
                    refine lv_iinc (v := (v3 + 1)) (lv' := [(3, .int (v3 + 1)), (4, .int (v3 + v2)), (0, .ref h_fo), (1, .int v1), (2, .int v2)]) hx hb dX2_keepRoots_67 hl (k := 4) rfl rfl (by decide) rfl (fun ls hl => ?_)
                    refine lv_goto (tgt := 12) hx hb dX2_keepRoots_70 (by decide) ?_
                    exact ih v1 v2 (v3 + 1) o31 fo_roots X H locs ls (hP.sub [3, 4, 0, 1, 2] rfl) (hD.sub [3, 4, 0, 1, 2] (by decide) rfl) hS (lv_sub hl [2, 3, 4, 0] rfl) h HX
                  · have h := ing c42 h
                    refine lv_aload_n hx hb dX2_keepRoots_45 rfl (lv_at hl 1 rfl) ?_
                    refine va_get (D := gD G) (ci := 1) (v := .ref h_fo_roots) (C := RX2) (T := TX2) (N := 5) hx hb hts lk_X2 hown hK hP 3 rfl rfl 1 (by decide) (hts _ fl_RX2_15) (fun _ h9 => h9) rfl dX2_keepRoots_46 ?_
                    refine lv_iload_n hx hb dX2_keepRoots_49 rfl (lv_at hl 4 rfl) ?_
                    refine lv_iload hx hb dX2_keepRoots_50 (lv_at hl 0 rfl) ?_
                    obtain ⟨o52, e52, h⟩ := bd h
                    refine Ci.SN (wr := [(h_fo_leftChildren, .inl (gI G, 10, .inl fo_leftChildren)), (h_fo_rightChildren, .inl (gI G, 10, .inl fo_rightChildren)), (h_fo_roots, .inl (gI G, 121, .inl fo_roots)), (h_fo, .inr (1, [.int fo_operators, .ref h_fo_roots, .ref h_fo_leftChildren, .ref h_fo_rightChildren, .ref h_fo_counts])), (h_fo_counts, .inl (gI G, 1210, .inl o31))]) (c_X7_spanIndex F l G v3 (v3 + v2) H.size o52 e52) hB km_X7_spanIndex st_X7_spanIndex mn_RX2_68 hP hD hS hl [] [0, 1, 2, 3, 4] ⟨rfl, rfl, ⟨rfl, rfl⟩, by decide⟩ ⟨⟨Nat.le_of_ble_eq_true rfl, Nat.le_of_ble_eq_true rfl⟩, Nat.le_of_ble_eq_true rfl, Nat.le_of_ble_eq_true rfl, Nat.le_of_ble_eq_true rfl⟩ rfl dX2_keepRoots_52 (fun z H locs hP hD hS => ?_)
                    have hP : va_P (gD G) vwCl [(h_fo_leftChildren, .inl (gI G, 10, .inl fo_leftChildren)), (h_fo_rightChildren, .inl (gI G, 10, .inl fo_rightChildren)), (h_fo_roots, .inl (gI G, 121, .inl fo_roots)), (h_fo, .inr (1, [.int fo_operators, .ref h_fo_roots, .ref h_fo_leftChildren, .ref h_fo_rightChildren, .ref h_fo_counts])), (h_fo_counts, .inl (gI G, 1210, .inl o31))] H := hP
                    have hD : va_D A [(h_fo_leftChildren, .inl (gI G, 10, .inl fo_leftChildren)), (h_fo_rightChildren, .inl (gI G, 10, .inl fo_rightChildren)), (h_fo_roots, .inl (gI G, 121, .inl fo_roots)), (h_fo, .inr (1, [.int fo_operators, .ref h_fo_roots, .ref h_fo_leftChildren, .ref h_fo_rightChildren, .ref h_fo_counts])), (h_fo_counts, .inl (gI G, 1210, .inl o31))] := hD
                    refine lv_dup2_11 hx hb dX2_keepRoots_55 rfl rfl ?_
                    obtain ⟨g56, h⟩ := gda h
                    refine va_iald hx hb hK hP 2 1 rfl rfl g56 dX2_keepRoots_56 ?_
                    refine lv_iload_n hx hb dX2_keepRoots_57 rfl (lv_at hl 2 rfl) ?_
                    refine lv_iand hx hb dX2_keepRoots_58 ?_
                    obtain ⟨g59, h⟩ := gda h
                    refine va_iast hx hb hK hP hD hS 2 1 rfl rfl g59 dX2_keepRoots_59 (fun H locs hP hD hS => ?_)
                    have hP : va_P (gD G) vwCl [(h_fo_leftChildren, .inl (gI G, 10, .inl fo_leftChildren)), (h_fo_rightChildren, .inl (gI G, 10, .inl fo_rightChildren)), (h_fo_roots, .inl (gI G, 121, .inl (upd fo_roots (Int32.toNatClampNeg o52) ((fo_roots (Int32.toNatClampNeg o52)) &&& v1)))), (h_fo, .inr (1, [.int fo_operators, .ref h_fo_roots, .ref h_fo_leftChildren, .ref h_fo_rightChildren, .ref h_fo_counts])), (h_fo_counts, .inl (gI G, 1210, .inl o31))] H := hP
                    have hD : va_D A [(h_fo_leftChildren, .inl (gI G, 10, .inl fo_leftChildren)), (h_fo_rightChildren, .inl (gI G, 10, .inl fo_rightChildren)), (h_fo_roots, .inl (gI G, 121, .inl (upd fo_roots (Int32.toNatClampNeg o52) ((fo_roots (Int32.toNatClampNeg o52)) &&& v1)))), (h_fo, .inr (1, [.int fo_operators, .ref h_fo_roots, .ref h_fo_leftChildren, .ref h_fo_rightChildren, .ref h_fo_counts])), (h_fo_counts, .inl (gI G, 1210, .inl o31))] := hD
                    refine lv_aload_n hx hb dX2_keepRoots_60 rfl (lv_at hl 1 rfl) ?_
                    refine lv_iload_n hx hb dX2_keepRoots_61 rfl (lv_at hl 4 rfl) ?_
                    refine lv_iload hx hb dX2_keepRoots_62 (lv_at hl 0 rfl) ?_
                    obtain ⟨o64, e64, h⟩ := bd h
                    refine Cv.V (wr := []) (c_X2_countSpan F l G h_fo h_fo_roots h_fo_leftChildren h_fo_rightChildren h_fo_counts fo_operators o31 fo_leftChildren fo_rightChildren (upd fo_roots (Int32.toNatClampNeg o52) ((fo_roots (Int32.toNatClampNeg o52)) &&& v1)) v3 (v3 + v2) H.size o64 e64) hB km_X2_countSpan ⟨im_X2_countSpan, sl_X2_countSpan⟩ ml_RX2_60 hP hD hS hl ⟨0, 1, _, _, rfl, rfl, rfl⟩ [3, 4, 0, 1, 2] [] ⟨rfl, rfl, ⟨rfl, rfl⟩, by decide⟩ ⟨⟨Nat.le_of_ble_eq_true rfl, Nat.le_of_ble_eq_true rfl⟩, Nat.le_of_ble_eq_true rfl, Nat.le_of_ble_eq_true rfl, Nat.le_of_ble_eq_true rfl⟩ rfl dX2_keepRoots_64 (fun z H locs hP hD hS => ?_)
                    have hP : va_P (gD G) vwCl [(h_fo, .inr (1, [.int fo_operators, .ref h_fo_roots, .ref h_fo_leftChildren, .ref h_fo_rightChildren, .ref h_fo_counts])), (h_fo_counts, .inl (gI G, 1210, .inl o64)), (h_fo_leftChildren, .inl (gI G, 10, .inl fo_leftChildren)), (h_fo_rightChildren, .inl (gI G, 10, .inl fo_rightChildren)), (h_fo_roots, .inl (gI G, 121, .inl (upd fo_roots (Int32.toNatClampNeg o52) ((fo_roots (Int32.toNatClampNeg o52)) &&& v1))))] H := hP
                    have hD : va_D A [(h_fo, .inr (1, [.int fo_operators, .ref h_fo_roots, .ref h_fo_leftChildren, .ref h_fo_rightChildren, .ref h_fo_counts])), (h_fo_counts, .inl (gI G, 1210, .inl o64)), (h_fo_leftChildren, .inl (gI G, 10, .inl fo_leftChildren)), (h_fo_rightChildren, .inl (gI G, 10, .inl fo_rightChildren)), (h_fo_roots, .inl (gI G, 121, .inl (upd fo_roots (Int32.toNatClampNeg o52) ((fo_roots (Int32.toNatClampNeg o52)) &&& v1))))] := hD
                    refine lv_iinc (v := (v3 + 1)) (lv' := [(3, .int (v3 + 1)), (4, .int (v3 + v2)), (0, .ref h_fo), (1, .int v1), (2, .int v2)]) hx hb dX2_keepRoots_67 hl (k := 4) rfl rfl (by decide) rfl (fun ls hl => ?_)
                    refine lv_goto (tgt := 12) hx hb dX2_keepRoots_70 (by decide) ?_
                    exact ih v1 v2 (v3 + 1) o64 (upd fo_roots (Int32.toNatClampNeg o52) ((fo_roots (Int32.toNatClampNeg o52)) &&& v1)) X H locs ls hP hD hS (lv_sub hl [2, 3, 4, 0] rfl) h HX
          refine Lp12 F v1 v2 0 fo_counts fo_roots _ H locs ls hP hD hS (lv_sub hl [1, 2, 3, 0] rfl) h (fun fo_counts fo_roots H locs ls hP hD hS hl h => ?_)
          refine lv_iinc (v := (v2 + 1)) (lv' := [(2, .int (v2 + 1)), (0, .ref h_fo), (1, .int v1)]) hx hb dX2_keepRoots_73 hl (k := 2) rfl rfl (by decide) rfl (fun ls hl => ?_)
          refine lv_goto (tgt := 2) hx hb dX2_keepRoots_76 (by decide) ?_
          exact ih v1 (v2 + 1) fo_counts fo_roots X H locs ls hP hD hS (lv_sub hl [1, 2, 0] rfl) h HX
  refine Lp2 F p1 1 fo_counts fo_roots _ H locs ls hP hD hS (lv_sub hl [1, 2, 0] rfl) h (fun fo_counts fo_roots H locs ls hP hD hS hl h => ?_)
  cases h
  exact hret (fun _ => 0) _ _ _ _ hP hD hS dX2_keepRoots_79
abbrev rm_X1_of : Room := { frames := 0, cells := 0, slots := 0, locals := 0 }
theorem km_X1_of : KM yX1_of cX1_of 5 (some .int) 4 := ⟨co_X1_of, in_RX1, by decide +kernel⟩
set_option maxHeartbeats 4000000 in
set_option maxRecDepth 100000 in
theorem c_X1_of (F : Nat) (l : Launch) (G : GT)  (p0 : Int32) (p1 : Int32) (p2 : Int32) (p3 : Int32) (sz : Nat) (out : Int32) (h : f_X1_of F p0 p1 p2 p3 = some out) : Ci G l yX1_of cX1_of 5 (some .int) rm_X1_of [.int p0, .int p1, .int p2, .int p3] [] sz out (fun _ => []) := by
  refine Ci.start rfl (by decide) (Nat.le_of_ble_eq_true rfl) ?_
  intro p e s m args below meth c A Q H locs ls hB hP hD hS hl hret
  obtain ⟨hx, hb, hmL, hr, hown, hts, hlocks, hnm, hA, hE⟩ := id hB
  obtain ⟨hK, hN, hV, hR, hZ, hZq, hAO⟩ := id hE
  have hown : s.vm.findClass RX1 = some m.cls := hown
  have hl : lv_has ls 5 [(0, .int p0), (1, .int p1), (2, .int p2), (3, .int p3)] := hl
  rw [f_X1_of] at h
  have Bk9 : ∀ (v0 : Int32) (v1 : Int32) (v2 : Int32) (s0 : Int32) (H : Heap) (locs : List Loc) (ls : Array Slot), va_P (gD G) vwCl [] H → va_D A [] → va_S A s.heap H locs → lv_has ls 5 [(0, .int v0), (1, .int v1), (2, .int v2)] → f_X1_of_b9 F v0 v1 v2 s0 = some out → W p l e rm_X1_of s m args below meth c H locs 0 0 Q (F0 m 9 ls [.int s0]) := by
    intro v0 v1 v2 s0 H locs ls hP hD hS hl h
    rw [f_X1_of_b9] at h
    refine lv_istore (lv' := [(4, .int s0), (0, .int v0), (1, .int v1), (2, .int v2)]) hx hb dX1_of_9 hl (by decide) rfl (fun ls hl => ?_)
    refine lv_iload_n hx hb dX1_of_11 rfl (lv_at hl 1 rfl) ?_
    refine lv_iload_n hx hb dX1_of_12 rfl (lv_at hl 2 rfl) ?_
    refine lv_iconst (v := 4) hx hb dX1_of_13 (by decide) ?_
    refine lv_ishl hx hb dX1_of_14 ?_
    refine lv_ior hx hb dX1_of_15 ?_
    refine lv_iload_n hx hb dX1_of_16 rfl (lv_at hl 3 rfl) ?_
    refine lv_bipush (v := 8) hx hb dX1_of_17 (by decide) ?_
    refine lv_ishl hx hb dX1_of_19 ?_
    refine lv_ior hx hb dX1_of_20 ?_
    refine lv_iload hx hb dX1_of_21 (lv_at hl 0 rfl) ?_
    refine lv_bipush (v := 12) hx hb dX1_of_23 (by decide) ?_
    refine lv_ishl hx hb dX1_of_25 ?_
    refine lv_ior hx hb dX1_of_26 ?_
    cases h
    exact hret (fun _ => 0) _ _ _ _ hP hD hS rfl dX1_of_27
  refine lv_iload_n hx hb dX1_of_0 rfl (lv_at hl 3 rfl) ?_
  refine lv_if_eq (tgt := 8) hx hb dX1_of_1 (by decide) (fun c1 => ?_) (fun c1 => ?_)
  · have h := ip c1 h
    refine lv_iconst (v := 0) hx hb dX1_of_8 (by decide) ?_
    exact Bk9 p0 p1 p2 0 H locs ls hP hD hS (lv_sub hl [0, 1, 2] rfl) h
  · have h := ing c1 h
    refine lv_iconst (v := 1) hx hb dX1_of_4 (by decide) ?_
    refine lv_goto (tgt := 9) hx hb dX1_of_5 (by decide) ?_
    exact Bk9 p0 p1 p2 1 H locs ls hP hD hS (lv_sub hl [0, 1, 2] rfl) h
abbrev rm_X1_kind : Room := { frames := 0, cells := 0, slots := 0, locals := 0 }
theorem km_X1_kind : KM yX1_kind cX1_kind 1 (some .int) 1 := ⟨co_X1_kind, in_RX1, by decide +kernel⟩
set_option maxHeartbeats 4000000 in
set_option maxRecDepth 100000 in
theorem c_X1_kind (F : Nat) (l : Launch) (G : GT)  (p0 : Int32) (sz : Nat) (out : Int32) (h : f_X1_kind F p0 = some out) : Ci G l yX1_kind cX1_kind 1 (some .int) rm_X1_kind [.int p0] [] sz out (fun _ => []) := by
  refine Ci.start rfl (by decide) (Nat.le_of_ble_eq_true rfl) ?_
  intro p e s m args below meth c A Q H locs ls hB hP hD hS hl hret
  obtain ⟨hx, hb, hmL, hr, hown, hts, hlocks, hnm, hA, hE⟩ := id hB
  obtain ⟨hK, hN, hV, hR, hZ, hZq, hAO⟩ := id hE
  have hown : s.vm.findClass RX1 = some m.cls := hown
  have hl : lv_has ls 1 [(0, .int p0)] := hl
  rw [f_X1_kind] at h
  refine lv_iload_n hx hb dX1_kind_0 rfl (lv_at hl 0 rfl) ?_
  refine lv_bipush (v := 15) hx hb dX1_kind_1 (by decide) ?_
  refine lv_iand hx hb dX1_kind_3 ?_
  cases h
  exact hret (fun _ => 0) _ _ _ _ hP hD hS rfl dX1_kind_4
abbrev rm_X1_symbol : Room := { frames := 0, cells := 0, slots := 0, locals := 0 }
theorem km_X1_symbol : KM yX1_symbol cX1_symbol 1 (some .int) 1 := ⟨co_X1_symbol, in_RX1, by decide +kernel⟩
set_option maxHeartbeats 4000000 in
set_option maxRecDepth 100000 in
theorem c_X1_symbol (F : Nat) (l : Launch) (G : GT)  (p0 : Int32) (sz : Nat) (out : Int32) (h : f_X1_symbol F p0 = some out) : Ci G l yX1_symbol cX1_symbol 1 (some .int) rm_X1_symbol [.int p0] [] sz out (fun _ => []) := by
  refine Ci.start rfl (by decide) (Nat.le_of_ble_eq_true rfl) ?_
  intro p e s m args below meth c A Q H locs ls hB hP hD hS hl hret
  obtain ⟨hx, hb, hmL, hr, hown, hts, hlocks, hnm, hA, hE⟩ := id hB
  obtain ⟨hK, hN, hV, hR, hZ, hZq, hAO⟩ := id hE
  have hown : s.vm.findClass RX1 = some m.cls := hown
  have hl : lv_has ls 1 [(0, .int p0)] := hl
  rw [f_X1_symbol] at h
  refine lv_iload_n hx hb dX1_symbol_0 rfl (lv_at hl 0 rfl) ?_
  refine lv_iconst (v := 4) hx hb dX1_symbol_1 (by decide) ?_
  refine lv_ishr hx hb dX1_symbol_2 ?_
  refine lv_bipush (v := 15) hx hb dX1_symbol_3 (by decide) ?_
  refine lv_iand hx hb dX1_symbol_5 ?_
  cases h
  exact hret (fun _ => 0) _ _ _ _ hP hD hS rfl dX1_symbol_6
abbrev rm_X1_childSymbol : Room := { frames := 0, cells := 0, slots := 0, locals := 0 }
theorem km_X1_childSymbol : KM yX1_childSymbol cX1_childSymbol 1 (some .int) 1 := ⟨co_X1_childSymbol, in_RX1, by decide +kernel⟩
set_option maxHeartbeats 4000000 in
set_option maxRecDepth 100000 in
theorem c_X1_childSymbol (F : Nat) (l : Launch) (G : GT)  (p0 : Int32) (sz : Nat) (out : Int32) (h : f_X1_childSymbol F p0 = some out) : Ci G l yX1_childSymbol cX1_childSymbol 1 (some .int) rm_X1_childSymbol [.int p0] [] sz out (fun _ => []) := by
  refine Ci.start rfl (by decide) (Nat.le_of_ble_eq_true rfl) ?_
  intro p e s m args below meth c A Q H locs ls hB hP hD hS hl hret
  obtain ⟨hx, hb, hmL, hr, hown, hts, hlocks, hnm, hA, hE⟩ := id hB
  obtain ⟨hK, hN, hV, hR, hZ, hZq, hAO⟩ := id hE
  have hown : s.vm.findClass RX1 = some m.cls := hown
  have hl : lv_has ls 1 [(0, .int p0)] := hl
  rw [f_X1_childSymbol] at h
  refine lv_iload_n hx hb dX1_childSymbol_0 rfl (lv_at hl 0 rfl) ?_
  refine lv_bipush (v := 8) hx hb dX1_childSymbol_1 (by decide) ?_
  refine lv_ishr hx hb dX1_childSymbol_3 ?_
  refine lv_bipush (v := 15) hx hb dX1_childSymbol_4 (by decide) ?_
  refine lv_iand hx hb dX1_childSymbol_6 ?_
  cases h
  exact hret (fun _ => 0) _ _ _ _ hP hD hS rfl dX1_childSymbol_7
abbrev rm_X1_isRightSide : Room := { frames := 0, cells := 0, slots := 0, locals := 0 }
theorem km_X1_isRightSide : KM yX1_isRightSide cX1_isRightSide 1 (some .boolean) 1 := ⟨co_X1_isRightSide, in_RX1, by decide +kernel⟩
set_option maxHeartbeats 4000000 in
set_option maxRecDepth 100000 in
theorem c_X1_isRightSide (F : Nat) (l : Launch) (G : GT)  (p0 : Int32) (sz : Nat) (out : Int32) (h : f_X1_isRightSide F p0 = some out) : Ci G l yX1_isRightSide cX1_isRightSide 1 (some .boolean) rm_X1_isRightSide [.int p0] [] sz out (fun _ => []) := by
  refine Ci.start rfl (by decide) (Nat.le_of_ble_eq_true rfl) ?_
  intro p e s m args below meth c A Q H locs ls hB hP hD hS hl hret
  obtain ⟨hx, hb, hmL, hr, hown, hts, hlocks, hnm, hA, hE⟩ := id hB
  obtain ⟨hK, hN, hV, hR, hZ, hZq, hAO⟩ := id hE
  have hown : s.vm.findClass RX1 = some m.cls := hown
  have hl : lv_has ls 1 [(0, .int p0)] := hl
  rw [f_X1_isRightSide] at h
  refine lv_iload_n hx hb dX1_isRightSide_0 rfl (lv_at hl 0 rfl) ?_
  refine lv_bipush (v := 12) hx hb dX1_isRightSide_1 (by decide) ?_
  refine lv_ishr hx hb dX1_isRightSide_3 ?_
  refine lv_bipush (v := 15) hx hb dX1_isRightSide_4 (by decide) ?_
  refine lv_iand hx hb dX1_isRightSide_6 ?_
  refine lv_iconst (v := 1) hx hb dX1_isRightSide_7 (by decide) ?_
  refine lv_icmp_ne (tgt := 15) hx hb dX1_isRightSide_8 (by decide) (fun c8 => ?_) (fun c8 => ?_)
  · have h := ing c8 h
    refine lv_iconst (v := 0) hx hb dX1_isRightSide_15 (by decide) ?_
    cases h
    exact hret (fun _ => 0) _ _ _ _ hP hD hS (nz (Or.inl rfl)) dX1_isRightSide_16
  · have h := ip c8 h
    refine lv_iconst (v := 1) hx hb dX1_isRightSide_11 (by decide) ?_
    refine lv_goto (tgt := 16) hx hb dX1_isRightSide_12 (by decide) ?_
    cases h
    exact hret (fun _ => 0) _ _ _ _ hP hD hS (nz (Or.inr rfl)) dX1_isRightSide_16
abbrev rm_X1_forbids : Room := { frames := 1, cells := 0, slots := 0, locals := 20 }
theorem km_X1_forbids : KM yX1_forbids cX1_forbids 10 (some .boolean) 5 := ⟨co_X1_forbids, in_RX1, by decide +kernel⟩
set_option maxHeartbeats 4000000 in
set_option maxRecDepth 100000 in
theorem c_X1_forbids (F : Nat) (l : Launch) (G : GT) (h_se h_se_priorities h_se_associativities h_se_symbols h_se_letters : Nat) (se_operands : Int32) (se_associativities : Nat → Int32) (se_priorities : Nat → Int32) (se_symbols : Nat → Int32) (p0 : Int32) (p2 : Int32) (p3 : Int32) (p4 : Int32) (sz : Nat) (out : Int32) (h : f_X1_forbids F p0 p2 p3 p4 se_associativities se_priorities se_symbols = some out) : Ci G l yX1_forbids cX1_forbids 10 (some .boolean) rm_X1_forbids [.int p0, .ref h_se, .int p2, .int p3, .int p4] [(h_se, .inr (3, [.ref h_se_priorities, .ref h_se_associativities, .ref h_se_symbols, .ref h_se_letters, .int se_operands])), (h_se_associativities, .inl (gI G, 9, .inl se_associativities)), (h_se_priorities, .inl (gI G, 9, .inl se_priorities)), (h_se_symbols, .inl (gI G, 10, .inl se_symbols))] sz out (fun _ => [(h_se, .inr (3, [.ref h_se_priorities, .ref h_se_associativities, .ref h_se_symbols, .ref h_se_letters, .int se_operands])), (h_se_associativities, .inl (gI G, 9, .inl se_associativities)), (h_se_priorities, .inl (gI G, 9, .inl se_priorities)), (h_se_symbols, .inl (gI G, 10, .inl se_symbols))]) := by
  refine Ci.start rfl (by decide) (Nat.le_of_ble_eq_true rfl) ?_
  intro p e s m args below meth c A Q H locs ls hB hP hD hS hl hret
  obtain ⟨hx, hb, hmL, hr, hown, hts, hlocks, hnm, hA, hE⟩ := id hB
  obtain ⟨hK, hN, hV, hR, hZ, hZq, hAO⟩ := id hE
  have hown : s.vm.findClass RX1 = some m.cls := hown
  have hl : lv_has ls 10 [(0, .int p0), (1, .ref h_se), (2, .int p2), (3, .int p3), (4, .int p4)] := hl
  rw [f_X1_forbids] at h
  have Bk87 : ∀ (v5 : Int32) (v7 : Int32) (v8 : Int32) (s0 : Int32) (H : Heap) (locs : List Loc) (ls : Array Slot), va_P (gD G) vwCl [(h_se, .inr (3, [.ref h_se_priorities, .ref h_se_associativities, .ref h_se_symbols, .ref h_se_letters, .int se_operands])), (h_se_associativities, .inl (gI G, 9, .inl se_associativities)), (h_se_priorities, .inl (gI G, 9, .inl se_priorities)), (h_se_symbols, .inl (gI G, 10, .inl se_symbols))] H → va_D A [(h_se, .inr (3, [.ref h_se_priorities, .ref h_se_associativities, .ref h_se_symbols, .ref h_se_letters, .int se_operands])), (h_se_associativities, .inl (gI G, 9, .inl se_associativities)), (h_se_priorities, .inl (gI G, 9, .inl se_priorities)), (h_se_symbols, .inl (gI G, 10, .inl se_symbols))] → va_S A s.heap H locs → lv_has ls 10 [(1, .ref h_se), (5, .int v5), (7, .int v7), (8, .int v8)] → f_X1_forbids_b87 F v5 v7 v8 s0 se_associativities = some out → W p l e rm_X1_forbids s m args below meth c H locs 0 0 Q (F0 m 87 ls [.int s0]) := by
    intro v5 v7 v8 s0 H locs ls hP hD hS hl h
    rw [f_X1_forbids_b87] at h
    refine lv_istore (lv' := [(9, .int s0), (1, .ref h_se), (5, .int v5), (7, .int v7), (8, .int v8)]) hx hb dX1_forbids_87 hl (by decide) rfl (fun ls hl => ?_)
    refine lv_iload hx hb dX1_forbids_89 (lv_at hl 4 rfl) ?_
    refine lv_iload hx hb dX1_forbids_91 (lv_at hl 3 rfl) ?_
    refine lv_icmp_ne (tgt := 112) hx hb dX1_forbids_93 (by decide) (fun c93 => ?_) (fun c93 => ?_)
    · have h := ing c93 h
      refine lv_iconst (v := 0) hx hb dX1_forbids_112 (by decide) ?_
      cases h
      exact hret (fun _ => 0) _ _ _ _ hP hD hS (nz (Or.inl rfl)) dX1_forbids_113
    · have h := ip c93 h
      refine lv_aload_n hx hb dX1_forbids_96 rfl (lv_at hl 1 rfl) ?_
      refine va_getN (D := gD G) (ci := 3) (v := .ref h_se_associativities) (C := RX4) (T := TX4) (N := 5) hx hb hts lk_X4 hown hK hP 0 rfl rfl 1 (by decide) (va_Nw.use rfl (hN _ fn_RX1_24)) (fun _ h9 => h9) rfl dX1_forbids_97 ?_
      refine lv_iload hx hb dX1_forbids_100 (lv_at hl 2 rfl) ?_
      obtain ⟨g102, h⟩ := gda h
      refine va_iald hx hb hK hP 1 1 rfl rfl g102 dX1_forbids_102 ?_
      refine lv_iload hx hb dX1_forbids_103 (lv_at hl 0 rfl) ?_
      refine lv_icmp_eq (tgt := 112) hx hb dX1_forbids_105 (by decide) (fun c105 => ?_) (fun c105 => ?_)
      · have h := ip c105 h
        refine lv_iconst (v := 0) hx hb dX1_forbids_112 (by decide) ?_
        cases h
        exact hret (fun _ => 0) _ _ _ _ hP hD hS (nz (Or.inl rfl)) dX1_forbids_113
      · have h := ing c105 h
        refine lv_iconst (v := 1) hx hb dX1_forbids_108 (by decide) ?_
        refine lv_goto (tgt := 113) hx hb dX1_forbids_109 (by decide) ?_
        cases h
        exact hret (fun _ => 0) _ _ _ _ hP hD hS (nz (Or.inr rfl)) dX1_forbids_113
  refine lv_aload_n hx hb dX1_forbids_0 rfl (lv_at hl 1 rfl) ?_
  refine va_getN (D := gD G) (ci := 3) (v := .ref h_se_symbols) (C := RX4) (T := TX4) (N := 5) hx hb hts lk_X4 hown hK hP 0 rfl rfl 2 (by decide) (va_Nw.use rfl (hN _ fn_RX1_11)) (fun _ h9 => h9) rfl dX1_forbids_1 ?_
  refine lv_iload_n hx hb dX1_forbids_4 rfl (lv_at hl 2 rfl) ?_
  obtain ⟨g5, h⟩ := gda h
  refine va_iald hx hb hK hP 3 1 rfl rfl g5 dX1_forbids_5 ?_
  refine lv_istore (lv' := [(5, .int (se_symbols (Int32.toNatClampNeg p2))), (0, .int p0), (1, .ref h_se), (2, .int p2), (3, .int p3), (4, .int p4)]) hx hb dX1_forbids_6 hl (by decide) rfl (fun ls hl => ?_)
  refine lv_aload_n hx hb dX1_forbids_8 rfl (lv_at hl 2 rfl) ?_
  refine va_getN (D := gD G) (ci := 3) (v := .ref h_se_symbols) (C := RX4) (T := TX4) (N := 5) hx hb hts lk_X4 hown hK hP 0 rfl rfl 2 (by decide) (va_Nw.use rfl (hN _ fn_RX1_11)) (fun _ h9 => h9) rfl dX1_forbids_9 ?_
  refine lv_iload_n hx hb dX1_forbids_12 rfl (lv_at hl 4 rfl) ?_
  obtain ⟨g13, h⟩ := gda h
  refine va_iald hx hb hK hP 3 1 rfl rfl g13 dX1_forbids_13 ?_
  refine lv_istore (lv' := [(6, .int (se_symbols (Int32.toNatClampNeg p3))), (5, .int (se_symbols (Int32.toNatClampNeg p2))), (0, .int p0), (1, .ref h_se), (2, .int p2), (3, .int p3), (4, .int p4)]) hx hb dX1_forbids_14 hl (by decide) rfl (fun ls hl => ?_)
  refine lv_aload_n hx hb dX1_forbids_16 rfl (lv_at hl 3 rfl) ?_
  refine va_getN (D := gD G) (ci := 3) (v := .ref h_se_priorities) (C := RX4) (T := TX4) (N := 5) hx hb hts lk_X4 hown hK hP 0 rfl rfl 0 (by decide) (va_Nw.use rfl (hN _ fn_RX1_17)) (fun _ h9 => h9) rfl dX1_forbids_17 ?_
  refine lv_iload hx hb dX1_forbids_20 (lv_at hl 1 rfl) ?_
  obtain ⟨g22, h⟩ := gda h
  refine va_iald hx hb hK hP 2 1 rfl rfl g22 dX1_forbids_22 ?_
  refine lv_istore (lv' := [(7, .int (se_priorities (Int32.toNatClampNeg (se_symbols (Int32.toNatClampNeg p2))))), (6, .int (se_symbols (Int32.toNatClampNeg p3))), (5, .int (se_symbols (Int32.toNatClampNeg p2))), (0, .int p0), (1, .ref h_se), (2, .int p2), (3, .int p3), (4, .int p4)]) hx hb dX1_forbids_23 hl (by decide) rfl (fun ls hl => ?_)
  refine lv_aload_n hx hb dX1_forbids_25 rfl (lv_at hl 4 rfl) ?_
  refine va_getN (D := gD G) (ci := 3) (v := .ref h_se_priorities) (C := RX4) (T := TX4) (N := 5) hx hb hts lk_X4 hown hK hP 0 rfl rfl 0 (by decide) (va_Nw.use rfl (hN _ fn_RX1_17)) (fun _ h9 => h9) rfl dX1_forbids_26 ?_
  refine lv_iload hx hb dX1_forbids_29 (lv_at hl 1 rfl) ?_
  obtain ⟨g31, h⟩ := gda h
  refine va_iald hx hb hK hP 2 1 rfl rfl g31 dX1_forbids_31 ?_
  refine lv_istore (lv' := [(8, .int (se_priorities (Int32.toNatClampNeg (se_symbols (Int32.toNatClampNeg p3))))), (7, .int (se_priorities (Int32.toNatClampNeg (se_symbols (Int32.toNatClampNeg p2))))), (6, .int (se_symbols (Int32.toNatClampNeg p3))), (5, .int (se_symbols (Int32.toNatClampNeg p2))), (0, .int p0), (1, .ref h_se), (2, .int p2), (3, .int p3), (4, .int p4)]) hx hb dX1_forbids_32 hl (by decide) rfl (fun ls hl => ?_)
  refine lv_iload_n hx hb dX1_forbids_34 rfl (lv_at hl 4 rfl) ?_
  obtain ⟨o35, e35, h⟩ := bd h
  refine Ci.S (wr := [(h_se, .inr (3, [.ref h_se_priorities, .ref h_se_associativities, .ref h_se_symbols, .ref h_se_letters, .int se_operands])), (h_se_associativities, .inl (gI G, 9, .inl se_associativities)), (h_se_priorities, .inl (gI G, 9, .inl se_priorities)), (h_se_symbols, .inl (gI G, 10, .inl se_symbols))]) (c_X1_kind F l G p0 H.size o35 e35) hB km_X1_kind st_X1_kind ml_RX1_20 hP hD hS hl [] [0, 1, 2, 3] ⟨rfl, rfl, ⟨rfl, rfl⟩, by decide⟩ ⟨⟨Nat.le_of_ble_eq_true rfl, Nat.le_of_ble_eq_true rfl⟩, Nat.le_of_ble_eq_true rfl, Nat.le_of_ble_eq_true rfl, Nat.le_of_ble_eq_true rfl⟩ rfl dX1_forbids_35 (fun z H locs hP hD hS => ?_)
  have hP : va_P (gD G) vwCl [(h_se, .inr (3, [.ref h_se_priorities, .ref h_se_associativities, .ref h_se_symbols, .ref h_se_letters, .int se_operands])), (h_se_associativities, .inl (gI G, 9, .inl se_associativities)), (h_se_priorities, .inl (gI G, 9, .inl se_priorities)), (h_se_symbols, .inl (gI G, 10, .inl se_symbols))] H := hP
  have hD : va_D A [(h_se, .inr (3, [.ref h_se_priorities, .ref h_se_associativities, .ref h_se_symbols, .ref h_se_letters, .int se_operands])), (h_se_associativities, .inl (gI G, 9, .inl se_associativities)), (h_se_priorities, .inl (gI G, 9, .inl se_priorities)), (h_se_symbols, .inl (gI G, 10, .inl se_symbols))] := hD
  by_cases c38_0 : o35 = 0
  · have h := ip c38_0 h
    refine lv_tableIn (off := 26) (tgt := 64) hx hb dX1_forbids_38 (by rw [c38_0]; decide) (by rw [c38_0]; decide) (by rw [c38_0]; decide) (by decide) ?_
    refine lv_iload hx hb dX1_forbids_64 (lv_at hl 0 rfl) ?_
    refine lv_iload hx hb dX1_forbids_66 (lv_at hl 1 rfl) ?_
    refine lv_icmp_ge (tgt := 75) hx hb dX1_forbids_68 (by decide) (fun c68 => ?_) (fun c68 => ?_)
    · have h := ip c68 h
      refine lv_iconst (v := 0) hx hb dX1_forbids_75 (by decide) ?_
      cases h
      exact hret (fun _ => 0) _ _ _ _ hP hD hS (nz (Or.inl rfl)) dX1_forbids_76
    · have h := ing c68 h
      refine lv_iconst (v := 1) hx hb dX1_forbids_71 (by decide) ?_
      refine lv_goto (tgt := 76) hx hb dX1_forbids_72 (by decide) ?_
      cases h
      exact hret (fun _ => 0) _ _ _ _ hP hD hS (nz (Or.inr rfl)) dX1_forbids_76
  have h := ing c38_0 h
  by_cases c38_1 : o35 = 1
  · have h := ip c38_1 h
    refine lv_tableIn (off := 39) (tgt := 77) hx hb dX1_forbids_38 (by rw [c38_1]; decide) (by rw [c38_1]; decide) (by rw [c38_1]; decide) (by decide) ?_
    refine lv_iload hx hb dX1_forbids_77 (lv_at hl 8 rfl) ?_
    refine lv_if_eq (tgt := 86) hx hb dX1_forbids_79 (by decide) (fun c79 => ?_) (fun c79 => ?_)
    · have h := ip c79 h
      refine lv_iconst (v := 0) hx hb dX1_forbids_86 (by decide) ?_
      exact Bk87 (se_symbols (Int32.toNatClampNeg p2)) (se_priorities (Int32.toNatClampNeg (se_symbols (Int32.toNatClampNeg p2)))) (se_priorities (Int32.toNatClampNeg (se_symbols (Int32.toNatClampNeg p3)))) 0 H locs ls hP hD hS (lv_sub hl [5, 3, 1, 0] rfl) h
    · have h := ing c79 h
      refine lv_iconst (v := 1) hx hb dX1_forbids_82 (by decide) ?_
      refine lv_goto (tgt := 87) hx hb dX1_forbids_83 (by decide) ?_
      exact Bk87 (se_symbols (Int32.toNatClampNeg p2)) (se_priorities (Int32.toNatClampNeg (se_symbols (Int32.toNatClampNeg p2)))) (se_priorities (Int32.toNatClampNeg (se_symbols (Int32.toNatClampNeg p3)))) 1 H locs ls hP hD hS (lv_sub hl [5, 3, 1, 0] rfl) h
  have h := ing c38_1 h
  by_cases c38_2 : o35 = 2
  · have h := ip c38_2 h
    refine lv_tableIn (off := 76) (tgt := 114) hx hb dX1_forbids_38 (by rw [c38_2]; decide) (by rw [c38_2]; decide) (by rw [c38_2]; decide) (by decide) ?_
    refine lv_iload hx hb dX1_forbids_114 (lv_at hl 8 rfl) ?_
    refine lv_iload_n hx hb dX1_forbids_116 rfl (lv_at hl 4 rfl) ?_
    obtain ⟨o117, e117, h⟩ := bd h
    refine Ci.S (wr := [(h_se, .inr (3, [.ref h_se_priorities, .ref h_se_associativities, .ref h_se_symbols, .ref h_se_letters, .int se_operands])), (h_se_associativities, .inl (gI G, 9, .inl se_associativities)), (h_se_priorities, .inl (gI G, 9, .inl se_priorities)), (h_se_symbols, .inl (gI G, 10, .inl se_symbols))]) (c_X1_isRightSide F l G p0 H.size o117 e117) hB km_X1_isRightSide st_X1_isRightSide ml_RX1_27 hP hD hS hl [] [0, 1, 2, 3] ⟨rfl, rfl, ⟨rfl, rfl⟩, by decide⟩ ⟨⟨Nat.le_of_ble_eq_true rfl, Nat.le_of_ble_eq_true rfl⟩, Nat.le_of_ble_eq_true rfl, Nat.le_of_ble_eq_true rfl, Nat.le_of_ble_eq_true rfl⟩ rfl dX1_forbids_117 (fun z H locs hP hD hS => ?_)
    have hP : va_P (gD G) vwCl [(h_se, .inr (3, [.ref h_se_priorities, .ref h_se_associativities, .ref h_se_symbols, .ref h_se_letters, .int se_operands])), (h_se_associativities, .inl (gI G, 9, .inl se_associativities)), (h_se_priorities, .inl (gI G, 9, .inl se_priorities)), (h_se_symbols, .inl (gI G, 10, .inl se_symbols))] H := hP
    have hD : va_D A [(h_se, .inr (3, [.ref h_se_priorities, .ref h_se_associativities, .ref h_se_symbols, .ref h_se_letters, .int se_operands])), (h_se_associativities, .inl (gI G, 9, .inl se_associativities)), (h_se_priorities, .inl (gI G, 9, .inl se_priorities)), (h_se_symbols, .inl (gI G, 10, .inl se_symbols))] := hD
    refine lv_icmp_ne (tgt := 145) hx hb dX1_forbids_120 (by decide) (fun c120 => ?_) (fun c120 => ?_)
    · have h := ing c120 h
      refine lv_iconst (v := 0) hx hb dX1_forbids_145 (by decide) ?_
      cases h
      exact hret (fun _ => 0) _ _ _ _ hP hD hS (nz (Or.inl rfl)) dX1_forbids_146
    · have h := ip c120 h
      refine lv_iload hx hb dX1_forbids_123 (lv_at hl 3 rfl) ?_
      refine lv_iload_n hx hb dX1_forbids_125 rfl (lv_at hl 4 rfl) ?_
      obtain ⟨o126, e126, h⟩ := bd h
      refine Ci.S (wr := [(h_se, .inr (3, [.ref h_se_priorities, .ref h_se_associativities, .ref h_se_symbols, .ref h_se_letters, .int se_operands])), (h_se_associativities, .inl (gI G, 9, .inl se_associativities)), (h_se_priorities, .inl (gI G, 9, .inl se_priorities)), (h_se_symbols, .inl (gI G, 10, .inl se_symbols))]) (c_X1_symbol F l G p0 H.size o126 e126) hB km_X1_symbol st_X1_symbol ml_RX1_31 hP hD hS hl [] [0, 1, 2, 3] ⟨rfl, rfl, ⟨rfl, rfl⟩, by decide⟩ ⟨⟨Nat.le_of_ble_eq_true rfl, Nat.le_of_ble_eq_true rfl⟩, Nat.le_of_ble_eq_true rfl, Nat.le_of_ble_eq_true rfl, Nat.le_of_ble_eq_true rfl⟩ rfl dX1_forbids_126 (fun z H locs hP hD hS => ?_)
      have hP : va_P (gD G) vwCl [(h_se, .inr (3, [.ref h_se_priorities, .ref h_se_associativities, .ref h_se_symbols, .ref h_se_letters, .int se_operands])), (h_se_associativities, .inl (gI G, 9, .inl se_associativities)), (h_se_priorities, .inl (gI G, 9, .inl se_priorities)), (h_se_symbols, .inl (gI G, 10, .inl se_symbols))] H := hP
      have hD : va_D A [(h_se, .inr (3, [.ref h_se_priorities, .ref h_se_associativities, .ref h_se_symbols, .ref h_se_letters, .int se_operands])), (h_se_associativities, .inl (gI G, 9, .inl se_associativities)), (h_se_priorities, .inl (gI G, 9, .inl se_priorities)), (h_se_symbols, .inl (gI G, 10, .inl se_symbols))] := hD
      refine lv_icmp_ne (tgt := 145) hx hb dX1_forbids_129 (by decide) (fun c129 => ?_) (fun c129 => ?_)
      · have h := ing c129 h
        refine lv_iconst (v := 0) hx hb dX1_forbids_145 (by decide) ?_
        cases h
        exact hret (fun _ => 0) _ _ _ _ hP hD hS (nz (Or.inl rfl)) dX1_forbids_146
      · have h := ip c129 h
        refine lv_iload hx hb dX1_forbids_132 (lv_at hl 2 rfl) ?_
        refine lv_iload_n hx hb dX1_forbids_134 rfl (lv_at hl 4 rfl) ?_
        obtain ⟨o135, e135, h⟩ := bd h
        refine Ci.S (wr := [(h_se, .inr (3, [.ref h_se_priorities, .ref h_se_associativities, .ref h_se_symbols, .ref h_se_letters, .int se_operands])), (h_se_associativities, .inl (gI G, 9, .inl se_associativities)), (h_se_priorities, .inl (gI G, 9, .inl se_priorities)), (h_se_symbols, .inl (gI G, 10, .inl se_symbols))]) (c_X1_childSymbol F l G p0 H.size o135 e135) hB km_X1_childSymbol st_X1_childSymbol ml_RX1_34 hP hD hS hl [] [0, 1, 2, 3] ⟨rfl, rfl, ⟨rfl, rfl⟩, by decide⟩ ⟨⟨Nat.le_of_ble_eq_true rfl, Nat.le_of_ble_eq_true rfl⟩, Nat.le_of_ble_eq_true rfl, Nat.le_of_ble_eq_true rfl, Nat.le_of_ble_eq_true rfl⟩ rfl dX1_forbids_135 (fun z H locs hP hD hS => ?_)
        have hP : va_P (gD G) vwCl [(h_se, .inr (3, [.ref h_se_priorities, .ref h_se_associativities, .ref h_se_symbols, .ref h_se_letters, .int se_operands])), (h_se_associativities, .inl (gI G, 9, .inl se_associativities)), (h_se_priorities, .inl (gI G, 9, .inl se_priorities)), (h_se_symbols, .inl (gI G, 10, .inl se_symbols))] H := hP
        have hD : va_D A [(h_se, .inr (3, [.ref h_se_priorities, .ref h_se_associativities, .ref h_se_symbols, .ref h_se_letters, .int se_operands])), (h_se_associativities, .inl (gI G, 9, .inl se_associativities)), (h_se_priorities, .inl (gI G, 9, .inl se_priorities)), (h_se_symbols, .inl (gI G, 10, .inl se_symbols))] := hD
        refine lv_icmp_ne (tgt := 145) hx hb dX1_forbids_138 (by decide) (fun c138 => ?_) (fun c138 => ?_)
        · have h := ing c138 h
          refine lv_iconst (v := 0) hx hb dX1_forbids_145 (by decide) ?_
          cases h
          exact hret (fun _ => 0) _ _ _ _ hP hD hS (nz (Or.inl rfl)) dX1_forbids_146
        · have h := ip c138 h
          refine lv_iconst (v := 1) hx hb dX1_forbids_141 (by decide) ?_
          refine lv_goto (tgt := 146) hx hb dX1_forbids_142 (by decide) ?_
          cases h
          exact hret (fun _ => 0) _ _ _ _ hP hD hS (nz (Or.inr rfl)) dX1_forbids_146
  have h := ing c38_2 h
  have q38_0 : (o35).toInt ≠ 0 := fun z => c38_0 (Int32.toInt_inj.mp (z.trans (by decide)))
  have q38_1 : (o35).toInt ≠ 1 := fun z => c38_1 (Int32.toInt_inj.mp (z.trans (by decide)))
  have q38_2 : (o35).toInt ≠ 2 := fun z => c38_2 (Int32.toInt_inj.mp (z.trans (by decide)))
  refine lv_tableOut (tgt := 147) hx hb dX1_forbids_38 (by omega) (by decide) ?_
  refine lv_iconst (v := 0) hx hb dX1_forbids_147 (by decide) ?_
  cases h
  exact hret (fun _ => 0) _ _ _ _ hP hD hS (nz (Or.inl rfl)) dX1_forbids_148
abbrev rm_X4_hasExpression : Room := { frames := 0, cells := 0, slots := 0, locals := 0 }
theorem km_X4_hasExpression : KM yX4_hasExpression cX4_hasExpression 1 (some .boolean) 0 := ⟨co_X4_hasExpression, in_RX4, by decide +kernel⟩
set_option maxHeartbeats 4000000 in
set_option maxRecDepth 100000 in
theorem c_X4_hasExpression (F : Nat) (l : Launch) (G : GT) (h_se h_se_priorities h_se_associativities h_se_symbols h_se_letters : Nat) (se_operands : Int32) (sz : Nat) (out : Int32) (h : f_X4_hasExpression F se_operands = some out) : Ci G l yX4_hasExpression cX4_hasExpression 1 (some .boolean) rm_X4_hasExpression [.ref h_se] [(h_se, .inr (3, [.ref h_se_priorities, .ref h_se_associativities, .ref h_se_symbols, .ref h_se_letters, .int se_operands]))] sz out (fun _ => [(h_se, .inr (3, [.ref h_se_priorities, .ref h_se_associativities, .ref h_se_symbols, .ref h_se_letters, .int se_operands]))]) := by
  refine Ci.start rfl (by decide) (Nat.le_of_ble_eq_true rfl) ?_
  intro p e s m args below meth c A Q H locs ls hB hP hD hS hl hret
  obtain ⟨hx, hb, hmL, hr, hown, hts, hlocks, hnm, hA, hE⟩ := id hB
  obtain ⟨hK, hN, hV, hR, hZ, hZq, hAO⟩ := id hE
  have hown : s.vm.findClass RX4 = some m.cls := hown
  have hl : lv_has ls 1 [(0, .ref h_se)] := hl
  rw [f_X4_hasExpression] at h
  refine lv_aload_n hx hb dX4_hasExpression_0 rfl (lv_at hl 0 rfl) ?_
  refine va_get (D := gD G) (ci := 3) (v := .int se_operands) (C := RX4) (T := TX4) (N := 5) hx hb hts lk_X4 hown hK hP 0 rfl rfl 4 (by decide) (hts _ fl_RX4_24) (fun _ h9 => h9) rfl dX4_hasExpression_1 ?_
  refine lv_if_le (tgt := 11) hx hb dX4_hasExpression_4 (by decide) (fun c4 => ?_) (fun c4 => ?_)
  · have h := ip c4 h
    refine lv_iconst (v := 0) hx hb dX4_hasExpression_11 (by decide) ?_
    cases h
    exact hret (fun _ => 0) _ _ _ _ hP hD hS (nz (Or.inl rfl)) dX4_hasExpression_12
  · have h := ing c4 h
    refine lv_iconst (v := 1) hx hb dX4_hasExpression_7 (by decide) ?_
    refine lv_goto (tgt := 12) hx hb dX4_hasExpression_8 (by decide) ?_
    cases h
    exact hret (fun _ => 0) _ _ _ _ hP hD hS (nz (Or.inr rfl)) dX4_hasExpression_12
abbrev rm_X4_operators : Room := { frames := 1, cells := 0, slots := 0, locals := 20 }
theorem km_X4_operators : KM yX4_operators cX4_operators 1 (some .int) 0 := ⟨co_X4_operators, in_RX4, by decide +kernel⟩
set_option maxHeartbeats 4000000 in
set_option maxRecDepth 100000 in
theorem c_X4_operators (F : Nat) (l : Launch) (G : GT) (h_se h_se_priorities h_se_associativities h_se_symbols h_se_letters : Nat) (se_operands : Int32) (sz : Nat) (out : Int32) (h : f_X4_operators F se_operands = some out) : Ci G l yX4_operators cX4_operators 1 (some .int) rm_X4_operators [.ref h_se] [(h_se, .inr (3, [.ref h_se_priorities, .ref h_se_associativities, .ref h_se_symbols, .ref h_se_letters, .int se_operands]))] sz out (fun _ => [(h_se, .inr (3, [.ref h_se_priorities, .ref h_se_associativities, .ref h_se_symbols, .ref h_se_letters, .int se_operands]))]) := by
  refine Ci.start rfl (by decide) (Nat.le_of_ble_eq_true rfl) ?_
  intro p e s m args below meth c A Q H locs ls hB hP hD hS hl hret
  obtain ⟨hx, hb, hmL, hr, hown, hts, hlocks, hnm, hA, hE⟩ := id hB
  obtain ⟨hK, hN, hV, hR, hZ, hZq, hAO⟩ := id hE
  have hown : s.vm.findClass RX4 = some m.cls := hown
  have hl : lv_has ls 1 [(0, .ref h_se)] := hl
  rw [f_X4_operators] at h
  refine lv_aload_n hx hb dX4_operators_0 rfl (lv_at hl 0 rfl) ?_
  obtain ⟨o1, e1, h⟩ := bd h
  refine Ci.V (wr := []) (c_X4_hasExpression F l G h_se h_se_priorities h_se_associativities h_se_symbols h_se_letters se_operands H.size o1 e1) hB km_X4_hasExpression ⟨im_X4_hasExpression, sl_X4_hasExpression⟩ ml_RX4_40 hP hD hS hl ⟨0, 3, _, _, rfl, rfl, rfl⟩ [0] [] ⟨rfl, rfl, ⟨rfl, rfl⟩, by decide⟩ ⟨⟨Nat.le_of_ble_eq_true rfl, Nat.le_of_ble_eq_true rfl⟩, Nat.le_of_ble_eq_true rfl, Nat.le_of_ble_eq_true rfl, Nat.le_of_ble_eq_true rfl⟩ rfl dX4_operators_1 (fun z H locs hP hD hS => ?_)
  have hP : va_P (gD G) vwCl [(h_se, .inr (3, [.ref h_se_priorities, .ref h_se_associativities, .ref h_se_symbols, .ref h_se_letters, .int se_operands]))] H := hP
  have hD : va_D A [(h_se, .inr (3, [.ref h_se_priorities, .ref h_se_associativities, .ref h_se_symbols, .ref h_se_letters, .int se_operands]))] := hD
  refine lv_if_eq (tgt := 16) hx hb dX4_operators_4 (by decide) (fun c4 => ?_) (fun c4 => ?_)
  · have h := ip c4 h
    refine lv_iconst (v := 0) hx hb dX4_operators_16 (by decide) ?_
    cases h
    exact hret (fun _ => 0) _ _ _ _ hP hD hS rfl dX4_operators_17
  · have h := ing c4 h
    refine lv_aload_n hx hb dX4_operators_7 rfl (lv_at hl 0 rfl) ?_
    refine va_get (D := gD G) (ci := 3) (v := .int se_operands) (C := RX4) (T := TX4) (N := 5) hx hb hts lk_X4 hown hK hP 0 rfl rfl 4 (by decide) (hts _ fl_RX4_24) (fun _ h9 => h9) rfl dX4_operators_8 ?_
    refine lv_iconst (v := 1) hx hb dX4_operators_11 (by decide) ?_
    refine lv_isub hx hb dX4_operators_12 ?_
    refine lv_goto (tgt := 17) hx hb dX4_operators_13 (by decide) ?_
    cases h
    exact hret (fun _ => 0) _ _ _ _ hP hD hS rfl dX4_operators_17
abbrev rm_X4_isDeclared : Room := { frames := 0, cells := 0, slots := 0, locals := 0 }
theorem km_X4_isDeclared : KM yX4_isDeclared cX4_isDeclared 2 (some .boolean) 1 := ⟨co_X4_isDeclared, in_RX4, by decide +kernel⟩
set_option maxHeartbeats 4000000 in
set_option maxRecDepth 100000 in
theorem c_X4_isDeclared (F : Nat) (l : Launch) (G : GT) (h_se h_se_priorities h_se_associativities h_se_symbols h_se_letters : Nat) (se_operands : Int32) (se_priorities : Nat → Int32) (p1 : Int32) (sz : Nat) (out : Int32) (h : f_X4_isDeclared F p1 se_priorities = some out) : Ci G l yX4_isDeclared cX4_isDeclared 2 (some .boolean) rm_X4_isDeclared [.ref h_se, .int p1] [(h_se, .inr (3, [.ref h_se_priorities, .ref h_se_associativities, .ref h_se_symbols, .ref h_se_letters, .int se_operands])), (h_se_priorities, .inl (gI G, 9, .inl se_priorities))] sz out (fun _ => [(h_se, .inr (3, [.ref h_se_priorities, .ref h_se_associativities, .ref h_se_symbols, .ref h_se_letters, .int se_operands])), (h_se_priorities, .inl (gI G, 9, .inl se_priorities))]) := by
  refine Ci.start rfl (by decide) (Nat.le_of_ble_eq_true rfl) ?_
  intro p e s m args below meth c A Q H locs ls hB hP hD hS hl hret
  obtain ⟨hx, hb, hmL, hr, hown, hts, hlocks, hnm, hA, hE⟩ := id hB
  obtain ⟨hK, hN, hV, hR, hZ, hZq, hAO⟩ := id hE
  have hown : s.vm.findClass RX4 = some m.cls := hown
  have hl : lv_has ls 2 [(0, .ref h_se), (1, .int p1)] := hl
  rw [f_X4_isDeclared] at h
  refine lv_aload_n hx hb dX4_isDeclared_0 rfl (lv_at hl 0 rfl) ?_
  refine va_get (D := gD G) (ci := 3) (v := .ref h_se_priorities) (C := RX4) (T := TX4) (N := 5) hx hb hts lk_X4 hown hK hP 0 rfl rfl 0 (by decide) (hts _ fl_RX4_9) (fun _ h9 => h9) rfl dX4_isDeclared_1 ?_
  refine lv_iload_n hx hb dX4_isDeclared_4 rfl (lv_at hl 1 rfl) ?_
  obtain ⟨g5, h⟩ := gda h
  refine va_iald hx hb hK hP 1 1 rfl rfl g5 dX4_isDeclared_5 ?_
  refine lv_iconst (v := (-1)) hx hb dX4_isDeclared_6 (by decide) ?_
  refine lv_icmp_eq (tgt := 14) hx hb dX4_isDeclared_7 (by decide) (fun c7 => ?_) (fun c7 => ?_)
  · have h := ip c7 h
    refine lv_iconst (v := 0) hx hb dX4_isDeclared_14 (by decide) ?_
    cases h
    exact hret (fun _ => 0) _ _ _ _ hP hD hS (nz (Or.inl rfl)) dX4_isDeclared_15
  · have h := ing c7 h
    refine lv_iconst (v := 1) hx hb dX4_isDeclared_10 (by decide) ?_
    refine lv_goto (tgt := 15) hx hb dX4_isDeclared_11 (by decide) ?_
    cases h
    exact hret (fun _ => 0) _ _ _ _ hP hD hS (nz (Or.inr rfl)) dX4_isDeclared_15
abbrev rm_X4_operatorsWith : Room := { frames := 2, cells := 0, slots := 0, locals := 40 }
theorem km_X4_operatorsWith : KM yX4_operatorsWith cX4_operatorsWith 4 (some .int) 1 := ⟨co_X4_operatorsWith, in_RX4, by decide +kernel⟩
set_option maxHeartbeats 4000000 in
set_option maxRecDepth 100000 in
theorem c_X4_operatorsWith (F : Nat) (l : Launch) (G : GT) (h_se h_se_priorities h_se_associativities h_se_symbols h_se_letters : Nat) (se_operands : Int32) (se_symbols : Nat → Int32) (p1 : Int32) (sz : Nat) (out : Int32) (h : f_X4_operatorsWith F p1 se_operands se_symbols = some out) : Ci G l yX4_operatorsWith cX4_operatorsWith 4 (some .int) rm_X4_operatorsWith [.ref h_se, .int p1] [(h_se, .inr (3, [.ref h_se_priorities, .ref h_se_associativities, .ref h_se_symbols, .ref h_se_letters, .int se_operands])), (h_se_symbols, .inl (gI G, 10, .inl se_symbols))] sz out (fun _ => [(h_se, .inr (3, [.ref h_se_priorities, .ref h_se_associativities, .ref h_se_symbols, .ref h_se_letters, .int se_operands])), (h_se_symbols, .inl (gI G, 10, .inl se_symbols))]) := by
  refine Ci.start rfl (by decide) (Nat.le_of_ble_eq_true rfl) ?_
  intro p e s m args below meth c A Q H locs ls hB hP hD hS hl hret
  obtain ⟨hx, hb, hmL, hr, hown, hts, hlocks, hnm, hA, hE⟩ := id hB
  obtain ⟨hK, hN, hV, hR, hZ, hZq, hAO⟩ := id hE
  have hown : s.vm.findClass RX4 = some m.cls := hown
  have hl : lv_has ls 4 [(0, .ref h_se), (1, .int p1)] := hl
  rw [f_X4_operatorsWith] at h
  refine lv_iconst (v := 0) hx hb dX4_operatorsWith_0 (by decide) ?_
  refine lv_istore_n (lv' := [(2, .int 0), (0, .ref h_se), (1, .int p1)]) hx hb dX4_operatorsWith_1 rfl hl (by decide) rfl (fun ls hl => ?_)
  refine lv_iconst (v := 0) hx hb dX4_operatorsWith_2 (by decide) ?_
  refine lv_istore_n (lv' := [(3, .int 0), (2, .int 0), (0, .ref h_se), (1, .int p1)]) hx hb dX4_operatorsWith_3 rfl hl (by decide) rfl (fun ls hl => ?_)
  have Lp4 : ∀ (n : Nat) (v1 : Int32) (v2 : Int32) (v3 : Int32) (X : Int32 → Option (Int32)) (H : Heap) (locs : List Loc) (ls : Array Slot), va_P (gD G) vwCl [(h_se, .inr (3, [.ref h_se_priorities, .ref h_se_associativities, .ref h_se_symbols, .ref h_se_letters, .int se_operands])), (h_se_symbols, .inl (gI G, 10, .inl se_symbols))] H → va_D A [(h_se, .inr (3, [.ref h_se_priorities, .ref h_se_associativities, .ref h_se_symbols, .ref h_se_letters, .int se_operands])), (h_se_symbols, .inl (gI G, 10, .inl se_symbols))] → va_S A s.heap H locs → lv_has ls 4 [(0, .ref h_se), (1, .int v1), (2, .int v2), (3, .int v3)] → f_X4_operatorsWith_l4 F v1 se_operands se_symbols n v2 v3 X = some out → (∀ (v2 : Int32) (H : Heap) (locs : List Loc) (ls : Array Slot), va_P (gD G) vwCl [(h_se, .inr (3, [.ref h_se_priorities, .ref h_se_associativities, .ref h_se_symbols, .ref h_se_letters, .int se_operands])), (h_se_symbols, .inl (gI G, 10, .inl se_symbols))] H → va_D A [(h_se, .inr (3, [.ref h_se_priorities, .ref h_se_associativities, .ref h_se_symbols, .ref h_se_letters, .int se_operands])), (h_se_symbols, .inl (gI G, 10, .inl se_symbols))] → va_S A s.heap H locs → lv_has ls 4 [(2, .int v2)] → X v2 = some out → W p l e rm_X4_operatorsWith s m args below meth c H locs 0 0 Q (F0 m 34 ls [])) → W p l e rm_X4_operatorsWith s m args below meth c H locs 0 0 Q (F0 m 4 ls []) := by
    intro n
    induction n with
    | zero => intro v1 v2 v3 X H locs ls hP hD hS hl h HX; rw [f_X4_operatorsWith_l4] at h; cases h
    | succ n ih =>
        intro v1 v2 v3 X H locs ls hP hD hS hl h HX
        rw [f_X4_operatorsWith_l4] at h
        refine lv_iload_n hx hb dX4_operatorsWith_4 rfl (lv_at hl 3 rfl) ?_
        refine lv_aload_n hx hb dX4_operatorsWith_5 rfl (lv_at hl 0 rfl) ?_
        obtain ⟨o6, e6, h⟩ := bd h
        refine Ci.V (wr := [(h_se_symbols, .inl (gI G, 10, .inl se_symbols))]) (c_X4_operators F l G h_se h_se_priorities h_se_associativities h_se_symbols h_se_letters se_operands H.size o6 e6) hB km_X4_operators ⟨im_X4_operators, sl_X4_operators⟩ ml_RX4_56 hP hD hS hl ⟨0, 3, _, _, rfl, rfl, rfl⟩ [0] [1] ⟨rfl, rfl, ⟨rfl, rfl⟩, by decide⟩ ⟨⟨Nat.le_of_ble_eq_true rfl, Nat.le_of_ble_eq_true rfl⟩, Nat.le_of_ble_eq_true rfl, Nat.le_of_ble_eq_true rfl, Nat.le_of_ble_eq_true rfl⟩ rfl dX4_operatorsWith_6 (fun z H locs hP hD hS => ?_)
        have hP : va_P (gD G) vwCl [(h_se_symbols, .inl (gI G, 10, .inl se_symbols)), (h_se, .inr (3, [.ref h_se_priorities, .ref h_se_associativities, .ref h_se_symbols, .ref h_se_letters, .int se_operands]))] H := hP
        have hD : va_D A [(h_se_symbols, .inl (gI G, 10, .inl se_symbols)), (h_se, .inr (3, [.ref h_se_priorities, .ref h_se_associativities, .ref h_se_symbols, .ref h_se_letters, .int se_operands]))] := hD
        refine lv_icmp_ge (tgt := 34) hx hb dX4_operatorsWith_9 (by decide) (fun c9 => ?_) (fun c9 => ?_)
        · have h := ip c9 h
          exact HX v2 H locs ls (hP.sub [1, 0] rfl) (hD.sub [1, 0] (by decide) rfl) hS (lv_sub hl [2] rfl) h
        · have h := ing c9 h
          refine lv_aload_n hx hb dX4_operatorsWith_12 rfl (lv_at hl 0 rfl) ?_
          refine va_get (D := gD G) (ci := 3) (v := .ref h_se_symbols) (C := RX4) (T := TX4) (N := 5) hx hb hts lk_X4 hown hK hP 1 rfl rfl 2 (by decide) (hts _ fl_RX4_18) (fun _ h9 => h9) rfl dX4_operatorsWith_13 ?_
          refine lv_iload_n hx hb dX4_operatorsWith_16 rfl (lv_at hl 3 rfl) ?_
          obtain ⟨g17, h⟩ := gda h
          refine va_iald hx hb hK hP 0 1 rfl rfl g17 dX4_operatorsWith_17 ?_
          refine lv_iload_n hx hb dX4_operatorsWith_18 rfl (lv_at hl 1 rfl) ?_
          refine lv_icmp_ne (tgt := 28) hx hb dX4_operatorsWith_19 (by decide) (fun c19 => ?_) (fun c19 => ?_)
          · have h := ing c19 h
            refine lv_iinc (v := (v3 + 1)) (lv' := [(3, .int (v3 + 1)), (0, .ref h_se), (1, .int v1), (2, .int v2)]) hx hb dX4_operatorsWith_28 hl (k := 3) rfl rfl (by decide) rfl (fun ls hl => ?_)
            refine lv_goto (tgt := 4) hx hb dX4_operatorsWith_31 (by decide) ?_
            exact ih v1 v2 (v3 + 1) X H locs ls (hP.sub [1, 0] rfl) (hD.sub [1, 0] (by decide) rfl) hS (lv_sub hl [1, 2, 3, 0] rfl) h HX
          · have h := ip c19 h
            refine lv_iload_n hx hb dX4_operatorsWith_22 rfl (lv_at hl 2 rfl) ?_
            refine lv_iconst (v := 1) hx hb dX4_operatorsWith_23 (by decide) ?_
            refine lv_iload_n hx hb dX4_operatorsWith_24 rfl (lv_at hl 3 rfl) ?_
            refine lv_ishl hx hb dX4_operatorsWith_25 ?_
            refine lv_ior hx hb dX4_operatorsWith_26 ?_
            refine lv_istore_n (lv' := [(2, .int (v2 ||| (1 <<< (v3 &&& 31)))), (0, .ref h_se), (1, .int v1), (3, .int v3)]) hx hb dX4_operatorsWith_27 rfl hl (by decide) rfl (fun ls hl => ?_)
            refine lv_iinc (v := (v3 + 1)) (lv' := [(3, .int (v3 + 1)), (2, .int (v2 ||| (1 <<< (v3 &&& 31)))), (0, .ref h_se), (1, .int v1)]) hx hb dX4_operatorsWith_28 hl (k := 3) rfl rfl (by decide) rfl (fun ls hl => ?_)
            refine lv_goto (tgt := 4) hx hb dX4_operatorsWith_31 (by decide) ?_
            exact ih v1 (v2 ||| (1 <<< (v3 &&& 31))) (v3 + 1) X H locs ls (hP.sub [1, 0] rfl) (hD.sub [1, 0] (by decide) rfl) hS (lv_sub hl [2, 3, 1, 0] rfl) h HX
  refine Lp4 F p1 0 0 _ H locs ls hP hD hS (lv_sub hl [2, 3, 1, 0] rfl) h (fun v2 H locs ls hP hD hS hl h => ?_)
  refine lv_iload_n hx hb dX4_operatorsWith_34 rfl (lv_at hl 0 rfl) ?_
  cases h
  exact hret (fun _ => 0) _ _ _ _ hP hD hS rfl dX4_operatorsWith_35
abbrev rm_X2_forbidChildren : Room := { frames := 2, cells := 0, slots := 0, locals := 49 }
theorem km_X2_forbidChildren : KM yX2_forbidChildren cX2_forbidChildren 5 none 2 := ⟨co_X2_forbidChildren, in_RX2, by decide +kernel⟩
set_option maxHeartbeats 4000000 in
set_option maxRecDepth 100000 in
theorem c_X2_forbidChildren (F : Nat) (l : Launch) (G : GT) (h_fo h_fo_roots h_fo_leftChildren h_fo_rightChildren h_fo_counts h_se h_se_priorities h_se_associativities h_se_symbols h_se_letters : Nat) (fo_operators : Int32) (se_operands : Int32) (fo_leftChildren : Nat → Int32) (fo_rightChildren : Nat → Int32) (se_associativities : Nat → Int32) (se_priorities : Nat → Int32) (se_symbols : Nat → Int32) (p2 : Int32) (sz : Nat) (out : (Nat → Int32) × (Nat → Int32)) (h : f_X2_forbidChildren F p2 fo_leftChildren fo_operators fo_rightChildren se_associativities se_priorities se_symbols = some out) : Cv G l yX2_forbidChildren cX2_forbidChildren 5 none rm_X2_forbidChildren [.ref h_fo, .ref h_se, .int p2] [(h_fo, .inr (1, [.int fo_operators, .ref h_fo_roots, .ref h_fo_leftChildren, .ref h_fo_rightChildren, .ref h_fo_counts])), (h_se, .inr (3, [.ref h_se_priorities, .ref h_se_associativities, .ref h_se_symbols, .ref h_se_letters, .int se_operands])), (h_fo_leftChildren, .inl (gI G, 10, .inl fo_leftChildren)), (h_fo_rightChildren, .inl (gI G, 10, .inl fo_rightChildren)), (h_se_associativities, .inl (gI G, 9, .inl se_associativities)), (h_se_priorities, .inl (gI G, 9, .inl se_priorities)), (h_se_symbols, .inl (gI G, 10, .inl se_symbols))] sz (fun _ => [(h_fo, .inr (1, [.int fo_operators, .ref h_fo_roots, .ref h_fo_leftChildren, .ref h_fo_rightChildren, .ref h_fo_counts])), (h_se, .inr (3, [.ref h_se_priorities, .ref h_se_associativities, .ref h_se_symbols, .ref h_se_letters, .int se_operands])), (h_fo_leftChildren, .inl (gI G, 10, .inl (out.1))), (h_fo_rightChildren, .inl (gI G, 10, .inl (out.2))), (h_se_associativities, .inl (gI G, 9, .inl se_associativities)), (h_se_priorities, .inl (gI G, 9, .inl se_priorities)), (h_se_symbols, .inl (gI G, 10, .inl se_symbols))]) := by
  refine Cv.start (by decide) (Nat.le_of_ble_eq_true rfl) ?_
  intro p e s m args below meth c A Q H locs ls hB hP hD hS hl hret
  obtain ⟨hx, hb, hmL, hr, hown, hts, hlocks, hnm, hA, hE⟩ := id hB
  obtain ⟨hK, hN, hV, hR, hZ, hZq, hAO⟩ := id hE
  have hown : s.vm.findClass RX2 = some m.cls := hown
  have hl : lv_has ls 5 [(0, .ref h_fo), (1, .ref h_se), (2, .int p2)] := hl
  rw [f_X2_forbidChildren] at h
  refine lv_iconst (v := 0) hx hb dX2_forbidChildren_0 (by decide) ?_
  refine lv_istore_n (lv' := [(3, .int 0), (0, .ref h_fo), (1, .ref h_se), (2, .int p2)]) hx hb dX2_forbidChildren_1 rfl hl (by decide) rfl (fun ls hl => ?_)
  have Lp2 : ∀ (n : Nat) (v2 : Int32) (v3 : Int32) (fo_leftChildren : Nat → Int32) (fo_rightChildren : Nat → Int32) (X : (Nat → Int32) → (Nat → Int32) → Option ((Nat → Int32) × (Nat → Int32))) (H : Heap) (locs : List Loc) (ls : Array Slot), va_P (gD G) vwCl [(h_fo, .inr (1, [.int fo_operators, .ref h_fo_roots, .ref h_fo_leftChildren, .ref h_fo_rightChildren, .ref h_fo_counts])), (h_se, .inr (3, [.ref h_se_priorities, .ref h_se_associativities, .ref h_se_symbols, .ref h_se_letters, .int se_operands])), (h_fo_leftChildren, .inl (gI G, 10, .inl fo_leftChildren)), (h_fo_rightChildren, .inl (gI G, 10, .inl fo_rightChildren)), (h_se_associativities, .inl (gI G, 9, .inl se_associativities)), (h_se_priorities, .inl (gI G, 9, .inl se_priorities)), (h_se_symbols, .inl (gI G, 10, .inl se_symbols))] H → va_D A [(h_fo, .inr (1, [.int fo_operators, .ref h_fo_roots, .ref h_fo_leftChildren, .ref h_fo_rightChildren, .ref h_fo_counts])), (h_se, .inr (3, [.ref h_se_priorities, .ref h_se_associativities, .ref h_se_symbols, .ref h_se_letters, .int se_operands])), (h_fo_leftChildren, .inl (gI G, 10, .inl fo_leftChildren)), (h_fo_rightChildren, .inl (gI G, 10, .inl fo_rightChildren)), (h_se_associativities, .inl (gI G, 9, .inl se_associativities)), (h_se_priorities, .inl (gI G, 9, .inl se_priorities)), (h_se_symbols, .inl (gI G, 10, .inl se_symbols))] → va_S A s.heap H locs → lv_has ls 5 [(0, .ref h_fo), (1, .ref h_se), (2, .int v2), (3, .int v3)] → f_X2_forbidChildren_l2 F v2 fo_operators se_associativities se_priorities se_symbols n v3 fo_leftChildren fo_rightChildren X = some out → (∀ (fo_leftChildren : Nat → Int32) (fo_rightChildren : Nat → Int32) (H : Heap) (locs : List Loc) (ls : Array Slot), va_P (gD G) vwCl [(h_fo, .inr (1, [.int fo_operators, .ref h_fo_roots, .ref h_fo_leftChildren, .ref h_fo_rightChildren, .ref h_fo_counts])), (h_se, .inr (3, [.ref h_se_priorities, .ref h_se_associativities, .ref h_se_symbols, .ref h_se_letters, .int se_operands])), (h_fo_leftChildren, .inl (gI G, 10, .inl fo_leftChildren)), (h_fo_rightChildren, .inl (gI G, 10, .inl fo_rightChildren)), (h_se_associativities, .inl (gI G, 9, .inl se_associativities)), (h_se_priorities, .inl (gI G, 9, .inl se_priorities)), (h_se_symbols, .inl (gI G, 10, .inl se_symbols))] H → va_D A [(h_fo, .inr (1, [.int fo_operators, .ref h_fo_roots, .ref h_fo_leftChildren, .ref h_fo_rightChildren, .ref h_fo_counts])), (h_se, .inr (3, [.ref h_se_priorities, .ref h_se_associativities, .ref h_se_symbols, .ref h_se_letters, .int se_operands])), (h_fo_leftChildren, .inl (gI G, 10, .inl fo_leftChildren)), (h_fo_rightChildren, .inl (gI G, 10, .inl fo_rightChildren)), (h_se_associativities, .inl (gI G, 9, .inl se_associativities)), (h_se_priorities, .inl (gI G, 9, .inl se_priorities)), (h_se_symbols, .inl (gI G, 10, .inl se_symbols))] → va_S A s.heap H locs → lv_has ls 5 [] → X fo_leftChildren fo_rightChildren = some out → W p l e rm_X2_forbidChildren s m args below meth c H locs 0 0 Q (F0 m 88 ls [])) → W p l e rm_X2_forbidChildren s m args below meth c H locs 0 0 Q (F0 m 2 ls []) := by
    intro n
    induction n with
    | zero => intro v2 v3 fo_leftChildren fo_rightChildren X H locs ls hP hD hS hl h HX; rw [f_X2_forbidChildren_l2] at h; cases h
    | succ n ih =>
        intro v2 v3 fo_leftChildren fo_rightChildren X H locs ls hP hD hS hl h HX
        rw [f_X2_forbidChildren_l2] at h
        refine lv_iload_n hx hb dX2_forbidChildren_2 rfl (lv_at hl 3 rfl) ?_
        refine lv_aload_n hx hb dX2_forbidChildren_3 rfl (lv_at hl 0 rfl) ?_
        refine va_get (D := gD G) (ci := 1) (v := .int fo_operators) (C := RX2) (T := TX2) (N := 5) hx hb hts lk_X2 hown hK hP 0 rfl rfl 0 (by decide) (hts _ fl_RX2_9) (fun _ h9 => h9) rfl dX2_forbidChildren_4 ?_
        refine lv_icmp_ge (tgt := 88) hx hb dX2_forbidChildren_7 (by decide) (fun c7 => ?_) (fun c7 => ?_)
        · have h := ip c7 h
          exact HX fo_leftChildren fo_rightChildren H locs ls hP hD hS (lv_sub hl [] rfl) h
        · have h := ing c7 h
          refine lv_iconst (v := 0) hx hb dX2_forbidChildren_10 (by decide) ?_
          refine lv_istore (lv' := [(4, .int 0), (0, .ref h_fo), (1, .ref h_se), (2, .int v2), (3, .int v3)]) hx hb dX2_forbidChildren_11 hl (by decide) rfl (fun ls hl => ?_)
          have Lp13 : ∀ (n : Nat) (v2 : Int32) (v3 : Int32) (v4 : Int32) (fo_leftChildren : Nat → Int32) (fo_rightChildren : Nat → Int32) (X : (Nat → Int32) → (Nat → Int32) → Option ((Nat → Int32) × (Nat → Int32))) (H : Heap) (locs : List Loc) (ls : Array Slot), va_P (gD G) vwCl [(h_fo, .inr (1, [.int fo_operators, .ref h_fo_roots, .ref h_fo_leftChildren, .ref h_fo_rightChildren, .ref h_fo_counts])), (h_se, .inr (3, [.ref h_se_priorities, .ref h_se_associativities, .ref h_se_symbols, .ref h_se_letters, .int se_operands])), (h_fo_leftChildren, .inl (gI G, 10, .inl fo_leftChildren)), (h_fo_rightChildren, .inl (gI G, 10, .inl fo_rightChildren)), (h_se_associativities, .inl (gI G, 9, .inl se_associativities)), (h_se_priorities, .inl (gI G, 9, .inl se_priorities)), (h_se_symbols, .inl (gI G, 10, .inl se_symbols))] H → va_D A [(h_fo, .inr (1, [.int fo_operators, .ref h_fo_roots, .ref h_fo_leftChildren, .ref h_fo_rightChildren, .ref h_fo_counts])), (h_se, .inr (3, [.ref h_se_priorities, .ref h_se_associativities, .ref h_se_symbols, .ref h_se_letters, .int se_operands])), (h_fo_leftChildren, .inl (gI G, 10, .inl fo_leftChildren)), (h_fo_rightChildren, .inl (gI G, 10, .inl fo_rightChildren)), (h_se_associativities, .inl (gI G, 9, .inl se_associativities)), (h_se_priorities, .inl (gI G, 9, .inl se_priorities)), (h_se_symbols, .inl (gI G, 10, .inl se_symbols))] → va_S A s.heap H locs → lv_has ls 5 [(0, .ref h_fo), (1, .ref h_se), (2, .int v2), (3, .int v3), (4, .int v4)] → f_X2_forbidChildren_l13 F v2 v3 fo_operators se_associativities se_priorities se_symbols n v4 fo_leftChildren fo_rightChildren X = some out → (∀ (fo_leftChildren : Nat → Int32) (fo_rightChildren : Nat → Int32) (H : Heap) (locs : List Loc) (ls : Array Slot), va_P (gD G) vwCl [(h_fo, .inr (1, [.int fo_operators, .ref h_fo_roots, .ref h_fo_leftChildren, .ref h_fo_rightChildren, .ref h_fo_counts])), (h_se, .inr (3, [.ref h_se_priorities, .ref h_se_associativities, .ref h_se_symbols, .ref h_se_letters, .int se_operands])), (h_fo_leftChildren, .inl (gI G, 10, .inl fo_leftChildren)), (h_fo_rightChildren, .inl (gI G, 10, .inl fo_rightChildren)), (h_se_associativities, .inl (gI G, 9, .inl se_associativities)), (h_se_priorities, .inl (gI G, 9, .inl se_priorities)), (h_se_symbols, .inl (gI G, 10, .inl se_symbols))] H → va_D A [(h_fo, .inr (1, [.int fo_operators, .ref h_fo_roots, .ref h_fo_leftChildren, .ref h_fo_rightChildren, .ref h_fo_counts])), (h_se, .inr (3, [.ref h_se_priorities, .ref h_se_associativities, .ref h_se_symbols, .ref h_se_letters, .int se_operands])), (h_fo_leftChildren, .inl (gI G, 10, .inl fo_leftChildren)), (h_fo_rightChildren, .inl (gI G, 10, .inl fo_rightChildren)), (h_se_associativities, .inl (gI G, 9, .inl se_associativities)), (h_se_priorities, .inl (gI G, 9, .inl se_priorities)), (h_se_symbols, .inl (gI G, 10, .inl se_symbols))] → va_S A s.heap H locs → lv_has ls 5 [(0, .ref h_fo), (1, .ref h_se), (2, .int v2), (3, .int v3)] → X fo_leftChildren fo_rightChildren = some out → W p l e rm_X2_forbidChildren s m args below meth c H locs 0 0 Q (F0 m 82 ls [])) → W p l e rm_X2_forbidChildren s m args below meth c H locs 0 0 Q (F0 m 13 ls []) := by
            intro n
            induction n with
            | zero => intro v2 v3 v4 fo_leftChildren fo_rightChildren X H locs ls hP hD hS hl h HX; rw [f_X2_forbidChildren_l13] at h; cases h
            | succ n ih =>
                intro v2 v3 v4 fo_leftChildren fo_rightChildren X H locs ls hP hD hS hl h HX
                rw [f_X2_forbidChildren_l13] at h
                have Bk49 : ∀ (v4 : Int32) (fo_leftChildren : Nat → Int32) (fo_rightChildren : Nat → Int32) (H : Heap) (locs : List Loc) (ls : Array Slot), va_P (gD G) vwCl [(h_fo, .inr (1, [.int fo_operators, .ref h_fo_roots, .ref h_fo_leftChildren, .ref h_fo_rightChildren, .ref h_fo_counts])), (h_se, .inr (3, [.ref h_se_priorities, .ref h_se_associativities, .ref h_se_symbols, .ref h_se_letters, .int se_operands])), (h_fo_leftChildren, .inl (gI G, 10, .inl fo_leftChildren)), (h_fo_rightChildren, .inl (gI G, 10, .inl fo_rightChildren)), (h_se_associativities, .inl (gI G, 9, .inl se_associativities)), (h_se_priorities, .inl (gI G, 9, .inl se_priorities)), (h_se_symbols, .inl (gI G, 10, .inl se_symbols))] H → va_D A [(h_fo, .inr (1, [.int fo_operators, .ref h_fo_roots, .ref h_fo_leftChildren, .ref h_fo_rightChildren, .ref h_fo_counts])), (h_se, .inr (3, [.ref h_se_priorities, .ref h_se_associativities, .ref h_se_symbols, .ref h_se_letters, .int se_operands])), (h_fo_leftChildren, .inl (gI G, 10, .inl fo_leftChildren)), (h_fo_rightChildren, .inl (gI G, 10, .inl fo_rightChildren)), (h_se_associativities, .inl (gI G, 9, .inl se_associativities)), (h_se_priorities, .inl (gI G, 9, .inl se_priorities)), (h_se_symbols, .inl (gI G, 10, .inl se_symbols))] → va_S A s.heap H locs → lv_has ls 5 [(0, .ref h_fo), (1, .ref h_se), (2, .int v2), (3, .int v3), (4, .int v4)] → f_X2_forbidChildren_b49 F v2 v3 v4 fo_leftChildren fo_rightChildren se_associativities se_priorities se_symbols (fun v4 fo_leftChildren fo_rightChildren => f_X2_forbidChildren_l13 F v2 v3 fo_operators se_associativities se_priorities se_symbols n v4 fo_leftChildren fo_rightChildren X) X = some out → W p l e rm_X2_forbidChildren s m args below meth c H locs 0 0 Q (F0 m 49 ls []) := by
                  intro v4 fo_leftChildren fo_rightChildren H locs ls hP hD hS hl h
                  rw [f_X2_forbidChildren_b49] at h
                  refine lv_iload_n hx hb dX2_forbidChildren_49 rfl (lv_at hl 2 rfl) ?_
                  refine lv_aload_n hx hb dX2_forbidChildren_50 rfl (lv_at hl 1 rfl) ?_
                  refine lv_iload_n hx hb dX2_forbidChildren_51 rfl (lv_at hl 3 rfl) ?_
                  refine lv_iload hx hb dX2_forbidChildren_52 (lv_at hl 4 rfl) ?_
                  refine lv_iconst (v := 1) hx hb dX2_forbidChildren_54 (by decide) ?_
                  obtain ⟨o55, e55, h⟩ := bd h
                  refine Ci.S (wr := [(h_fo, .inr (1, [.int fo_operators, .ref h_fo_roots, .ref h_fo_leftChildren, .ref h_fo_rightChildren, .ref h_fo_counts])), (h_fo_leftChildren, .inl (gI G, 10, .inl fo_leftChildren)), (h_fo_rightChildren, .inl (gI G, 10, .inl fo_rightChildren))]) (c_X1_forbids F l G h_se h_se_priorities h_se_associativities h_se_symbols h_se_letters se_operands se_associativities se_priorities se_symbols v2 v3 v4 1 H.size o55 e55) hB km_X1_forbids st_X1_forbids ml_RX2_56 hP hD hS hl [1, 4, 5, 6] [0, 2, 3] ⟨rfl, rfl, ⟨rfl, rfl⟩, by decide⟩ ⟨⟨Nat.le_of_ble_eq_true rfl, Nat.le_of_ble_eq_true rfl⟩, Nat.le_of_ble_eq_true rfl, Nat.le_of_ble_eq_true rfl, Nat.le_of_ble_eq_true rfl⟩ rfl dX2_forbidChildren_55 (fun z H locs hP hD hS => ?_)
                  have hP : va_P (gD G) vwCl [(h_fo, .inr (1, [.int fo_operators, .ref h_fo_roots, .ref h_fo_leftChildren, .ref h_fo_rightChildren, .ref h_fo_counts])), (h_fo_leftChildren, .inl (gI G, 10, .inl fo_leftChildren)), (h_fo_rightChildren, .inl (gI G, 10, .inl fo_rightChildren)), (h_se, .inr (3, [.ref h_se_priorities, .ref h_se_associativities, .ref h_se_symbols, .ref h_se_letters, .int se_operands])), (h_se_associativities, .inl (gI G, 9, .inl se_associativities)), (h_se_priorities, .inl (gI G, 9, .inl se_priorities)), (h_se_symbols, .inl (gI G, 10, .inl se_symbols))] H := hP
                  have hD : va_D A [(h_fo, .inr (1, [.int fo_operators, .ref h_fo_roots, .ref h_fo_leftChildren, .ref h_fo_rightChildren, .ref h_fo_counts])), (h_fo_leftChildren, .inl (gI G, 10, .inl fo_leftChildren)), (h_fo_rightChildren, .inl (gI G, 10, .inl fo_rightChildren)), (h_se, .inr (3, [.ref h_se_priorities, .ref h_se_associativities, .ref h_se_symbols, .ref h_se_letters, .int se_operands])), (h_se_associativities, .inl (gI G, 9, .inl se_associativities)), (h_se_priorities, .inl (gI G, 9, .inl se_priorities)), (h_se_symbols, .inl (gI G, 10, .inl se_symbols))] := hD
                  refine lv_if_eq (tgt := 76) hx hb dX2_forbidChildren_58 (by decide) (fun c58 => ?_) (fun c58 => ?_)
                  · have h := ip c58 h
                    refine lv_iinc (v := (v4 + 1)) (lv' := [(4, .int (v4 + 1)), (0, .ref h_fo), (1, .ref h_se), (2, .int v2), (3, .int v3)]) hx hb dX2_forbidChildren_76 hl (k := 4) rfl rfl (by decide) rfl (fun ls hl => ?_)
                    refine lv_goto (tgt := 13) hx hb dX2_forbidChildren_79 (by decide) ?_
                    exact ih v2 v3 (v4 + 1) fo_leftChildren fo_rightChildren X H locs ls (hP.sub [0, 3, 1, 2, 4, 5, 6] rfl) (hD.sub [0, 3, 1, 2, 4, 5, 6] (by decide) rfl) hS (lv_sub hl [1, 2, 3, 4, 0] rfl) h HX
                  · have h := ing c58 h
                    refine lv_aload_n hx hb dX2_forbidChildren_61 rfl (lv_at hl 0 rfl) ?_
                    refine va_get (D := gD G) (ci := 1) (v := .ref h_fo_rightChildren) (C := RX2) (T := TX2) (N := 5) hx hb hts lk_X2 hown hK hP 0 rfl rfl 3 (by decide) (hts _ fl_RX2_22) (fun _ h9 => h9) rfl dX2_forbidChildren_62 ?_
                    refine lv_iload_n hx hb dX2_forbidChildren_65 rfl (lv_at hl 3 rfl) ?_
                    refine lv_dup2_11 hx hb dX2_forbidChildren_66 rfl rfl ?_
                    obtain ⟨g67, h⟩ := gda h
                    refine va_iald hx hb hK hP 2 1 rfl rfl g67 dX2_forbidChildren_67 ?_
                    refine lv_iconst (v := 1) hx hb dX2_forbidChildren_68 (by decide) ?_
                    refine lv_iload hx hb dX2_forbidChildren_69 (lv_at hl 4 rfl) ?_
                    refine lv_ishl hx hb dX2_forbidChildren_71 ?_
                    refine lv_iconst (v := (-1)) hx hb dX2_forbidChildren_72 (by decide) ?_
                    refine lv_ixor hx hb dX2_forbidChildren_73 ?_
                    refine lv_iand hx hb dX2_forbidChildren_74 ?_
                    obtain ⟨g75, h⟩ := gda h
                    refine va_iast hx hb hK hP hD hS 2 1 rfl rfl g75 dX2_forbidChildren_75 (fun H locs hP hD hS => ?_)
                    have hP : va_P (gD G) vwCl [(h_fo, .inr (1, [.int fo_operators, .ref h_fo_roots, .ref h_fo_leftChildren, .ref h_fo_rightChildren, .ref h_fo_counts])), (h_fo_leftChildren, .inl (gI G, 10, .inl fo_leftChildren)), (h_fo_rightChildren, .inl (gI G, 10, .inl (upd fo_rightChildren (Int32.toNatClampNeg v3) ((fo_rightChildren (Int32.toNatClampNeg v3)) &&& ((1 <<< (v4 &&& 31)) ^^^ (-1)))))), (h_se, .inr (3, [.ref h_se_priorities, .ref h_se_associativities, .ref h_se_symbols, .ref h_se_letters, .int se_operands])), (h_se_associativities, .inl (gI G, 9, .inl se_associativities)), (h_se_priorities, .inl (gI G, 9, .inl se_priorities)), (h_se_symbols, .inl (gI G, 10, .inl se_symbols))] H := hP
                    have hD : va_D A [(h_fo, .inr (1, [.int fo_operators, .ref h_fo_roots, .ref h_fo_leftChildren, .ref h_fo_rightChildren, .ref h_fo_counts])), (h_fo_leftChildren, .inl (gI G, 10, .inl fo_leftChildren)), (h_fo_rightChildren, .inl (gI G, 10, .inl (upd fo_rightChildren (Int32.toNatClampNeg v3) ((fo_rightChildren (Int32.toNatClampNeg v3)) &&& ((1 <<< (v4 &&& 31)) ^^^ (-1)))))), (h_se, .inr (3, [.ref h_se_priorities, .ref h_se_associativities, .ref h_se_symbols, .ref h_se_letters, .int se_operands])), (h_se_associativities, .inl (gI G, 9, .inl se_associativities)), (h_se_priorities, .inl (gI G, 9, .inl se_priorities)), (h_se_symbols, .inl (gI G, 10, .inl se_symbols))] := hD
                    refine lv_iinc (v := (v4 + 1)) (lv' := [(4, .int (v4 + 1)), (0, .ref h_fo), (1, .ref h_se), (2, .int v2), (3, .int v3)]) hx hb dX2_forbidChildren_76 hl (k := 4) rfl rfl (by decide) rfl (fun ls hl => ?_)
                    refine lv_goto (tgt := 13) hx hb dX2_forbidChildren_79 (by decide) ?_
                    exact ih v2 v3 (v4 + 1) fo_leftChildren (upd fo_rightChildren (Int32.toNatClampNeg v3) ((fo_rightChildren (Int32.toNatClampNeg v3)) &&& ((1 <<< (v4 &&& 31)) ^^^ (-1)))) X H locs ls (hP.sub [0, 3, 1, 2, 4, 5, 6] rfl) (hD.sub [0, 3, 1, 2, 4, 5, 6] (by decide) rfl) hS (lv_sub hl [1, 2, 3, 4, 0] rfl) h HX
                refine lv_iload hx hb dX2_forbidChildren_13 (lv_at hl 4 rfl) ?_
                refine lv_aload_n hx hb dX2_forbidChildren_15 rfl (lv_at hl 0 rfl) ?_
                refine va_get (D := gD G) (ci := 1) (v := .int fo_operators) (C := RX2) (T := TX2) (N := 5) hx hb hts lk_X2 hown hK hP 0 rfl rfl 0 (by decide) (hts _ fl_RX2_9) (fun _ h9 => h9) rfl dX2_forbidChildren_16 ?_
                refine lv_icmp_ge (tgt := 82) hx hb dX2_forbidChildren_19 (by decide) (fun c19 => ?_) (fun c19 => ?_)
                · have h := ip c19 h
                  exact HX fo_leftChildren fo_rightChildren H locs ls hP hD hS (lv_sub hl [0, 1, 2, 3] rfl) h
                · have h := ing c19 h
                  refine lv_iload_n hx hb dX2_forbidChildren_22 rfl (lv_at hl 2 rfl) ?_
                  refine lv_aload_n hx hb dX2_forbidChildren_23 rfl (lv_at hl 1 rfl) ?_
                  refine lv_iload_n hx hb dX2_forbidChildren_24 rfl (lv_at hl 3 rfl) ?_
                  refine lv_iload hx hb dX2_forbidChildren_25 (lv_at hl 4 rfl) ?_
                  refine lv_iconst (v := 0) hx hb dX2_forbidChildren_27 (by decide) ?_
                  obtain ⟨o28, e28, h⟩ := bd h
                  refine Ci.S (wr := [(h_fo, .inr (1, [.int fo_operators, .ref h_fo_roots, .ref h_fo_leftChildren, .ref h_fo_rightChildren, .ref h_fo_counts])), (h_fo_leftChildren, .inl (gI G, 10, .inl fo_leftChildren)), (h_fo_rightChildren, .inl (gI G, 10, .inl fo_rightChildren))]) (c_X1_forbids F l G h_se h_se_priorities h_se_associativities h_se_symbols h_se_letters se_operands se_associativities se_priorities se_symbols v2 v3 v4 0 H.size o28 e28) hB km_X1_forbids st_X1_forbids ml_RX2_56 hP hD hS hl [1, 4, 5, 6] [0, 2, 3] ⟨rfl, rfl, ⟨rfl, rfl⟩, by decide⟩ ⟨⟨Nat.le_of_ble_eq_true rfl, Nat.le_of_ble_eq_true rfl⟩, Nat.le_of_ble_eq_true rfl, Nat.le_of_ble_eq_true rfl, Nat.le_of_ble_eq_true rfl⟩ rfl dX2_forbidChildren_28 (fun z H locs hP hD hS => ?_)
                  have hP : va_P (gD G) vwCl [(h_fo, .inr (1, [.int fo_operators, .ref h_fo_roots, .ref h_fo_leftChildren, .ref h_fo_rightChildren, .ref h_fo_counts])), (h_fo_leftChildren, .inl (gI G, 10, .inl fo_leftChildren)), (h_fo_rightChildren, .inl (gI G, 10, .inl fo_rightChildren)), (h_se, .inr (3, [.ref h_se_priorities, .ref h_se_associativities, .ref h_se_symbols, .ref h_se_letters, .int se_operands])), (h_se_associativities, .inl (gI G, 9, .inl se_associativities)), (h_se_priorities, .inl (gI G, 9, .inl se_priorities)), (h_se_symbols, .inl (gI G, 10, .inl se_symbols))] H := hP
                  have hD : va_D A [(h_fo, .inr (1, [.int fo_operators, .ref h_fo_roots, .ref h_fo_leftChildren, .ref h_fo_rightChildren, .ref h_fo_counts])), (h_fo_leftChildren, .inl (gI G, 10, .inl fo_leftChildren)), (h_fo_rightChildren, .inl (gI G, 10, .inl fo_rightChildren)), (h_se, .inr (3, [.ref h_se_priorities, .ref h_se_associativities, .ref h_se_symbols, .ref h_se_letters, .int se_operands])), (h_se_associativities, .inl (gI G, 9, .inl se_associativities)), (h_se_priorities, .inl (gI G, 9, .inl se_priorities)), (h_se_symbols, .inl (gI G, 10, .inl se_symbols))] := hD
                  refine lv_if_eq (tgt := 49) hx hb dX2_forbidChildren_31 (by decide) (fun c31 => ?_) (fun c31 => ?_)
                  · have h := ip c31 h
                    exact Bk49 v4 fo_leftChildren fo_rightChildren H locs ls (hP.sub [0, 3, 1, 2, 4, 5, 6] rfl) (hD.sub [0, 3, 1, 2, 4, 5, 6] (by decide) rfl) hS hl h
                  · have h := ing c31 h
                    refine lv_aload_n hx hb dX2_forbidChildren_34 rfl (lv_at hl 0 rfl) ?_
                    refine va_get (D := gD G) (ci := 1) (v := .ref h_fo_leftChildren) (C := RX2) (T := TX2) (N := 5) hx hb hts lk_X2 hown hK hP 0 rfl rfl 2 (by decide) (hts _ fl_RX2_19) (fun _ h9 => h9) rfl dX2_forbidChildren_35 ?_
                    refine lv_iload_n hx hb dX2_forbidChildren_38 rfl (lv_at hl 3 rfl) ?_
                    refine lv_dup2_11 hx hb dX2_forbidChildren_39 rfl rfl ?_
                    obtain ⟨g40, h⟩ := gda h
                    refine va_iald hx hb hK hP 1 1 rfl rfl g40 dX2_forbidChildren_40 ?_
                    refine lv_iconst (v := 1) hx hb dX2_forbidChildren_41 (by decide) ?_
                    refine lv_iload hx hb dX2_forbidChildren_42 (lv_at hl 4 rfl) ?_
                    refine lv_ishl hx hb dX2_forbidChildren_44 ?_
                    refine lv_iconst (v := (-1)) hx hb dX2_forbidChildren_45 (by decide) ?_
                    refine lv_ixor hx hb dX2_forbidChildren_46 ?_
                    refine lv_iand hx hb dX2_forbidChildren_47 ?_
                    obtain ⟨g48, h⟩ := gda h
                    refine va_iast hx hb hK hP hD hS 1 1 rfl rfl g48 dX2_forbidChildren_48 (fun H locs hP hD hS => ?_)
                    have hP : va_P (gD G) vwCl [(h_fo, .inr (1, [.int fo_operators, .ref h_fo_roots, .ref h_fo_leftChildren, .ref h_fo_rightChildren, .ref h_fo_counts])), (h_fo_leftChildren, .inl (gI G, 10, .inl (upd fo_leftChildren (Int32.toNatClampNeg v3) ((fo_leftChildren (Int32.toNatClampNeg v3)) &&& ((1 <<< (v4 &&& 31)) ^^^ (-1)))))), (h_fo_rightChildren, .inl (gI G, 10, .inl fo_rightChildren)), (h_se, .inr (3, [.ref h_se_priorities, .ref h_se_associativities, .ref h_se_symbols, .ref h_se_letters, .int se_operands])), (h_se_associativities, .inl (gI G, 9, .inl se_associativities)), (h_se_priorities, .inl (gI G, 9, .inl se_priorities)), (h_se_symbols, .inl (gI G, 10, .inl se_symbols))] H := hP
                    have hD : va_D A [(h_fo, .inr (1, [.int fo_operators, .ref h_fo_roots, .ref h_fo_leftChildren, .ref h_fo_rightChildren, .ref h_fo_counts])), (h_fo_leftChildren, .inl (gI G, 10, .inl (upd fo_leftChildren (Int32.toNatClampNeg v3) ((fo_leftChildren (Int32.toNatClampNeg v3)) &&& ((1 <<< (v4 &&& 31)) ^^^ (-1)))))), (h_fo_rightChildren, .inl (gI G, 10, .inl fo_rightChildren)), (h_se, .inr (3, [.ref h_se_priorities, .ref h_se_associativities, .ref h_se_symbols, .ref h_se_letters, .int se_operands])), (h_se_associativities, .inl (gI G, 9, .inl se_associativities)), (h_se_priorities, .inl (gI G, 9, .inl se_priorities)), (h_se_symbols, .inl (gI G, 10, .inl se_symbols))] := hD
                    exact Bk49 v4 (upd fo_leftChildren (Int32.toNatClampNeg v3) ((fo_leftChildren (Int32.toNatClampNeg v3)) &&& ((1 <<< (v4 &&& 31)) ^^^ (-1)))) fo_rightChildren H locs ls (hP.sub [0, 3, 1, 2, 4, 5, 6] rfl) (hD.sub [0, 3, 1, 2, 4, 5, 6] (by decide) rfl) hS hl h
          refine Lp13 F v2 v3 0 fo_leftChildren fo_rightChildren _ H locs ls hP hD hS (lv_sub hl [1, 2, 3, 4, 0] rfl) h (fun fo_leftChildren fo_rightChildren H locs ls hP hD hS hl h => ?_)
          refine lv_iinc (v := (v3 + 1)) (lv' := [(3, .int (v3 + 1)), (0, .ref h_fo), (1, .ref h_se), (2, .int v2)]) hx hb dX2_forbidChildren_82 hl (k := 3) rfl rfl (by decide) rfl (fun ls hl => ?_)
          refine lv_goto (tgt := 2) hx hb dX2_forbidChildren_85 (by decide) ?_
          exact ih v2 (v3 + 1) fo_leftChildren fo_rightChildren X H locs ls hP hD hS (lv_sub hl [1, 2, 3, 0] rfl) h HX
  refine Lp2 F p2 0 fo_leftChildren fo_rightChildren _ H locs ls hP hD hS (lv_sub hl [1, 2, 3, 0] rfl) h (fun fo_leftChildren fo_rightChildren H locs ls hP hD hS hl h => ?_)
  cases h
  exact hret (fun _ => 0) _ _ _ _ hP hD hS dX2_forbidChildren_88
abbrev rm_X2_apply : Room := { frames := 4, cells := 0, slots := 0, locals := 96 }
theorem km_X2_apply : KM yX2_apply cX2_apply 3 none 2 := ⟨co_X2_apply, in_RX2, by decide +kernel⟩
set_option maxHeartbeats 4000000 in
set_option maxRecDepth 100000 in
theorem c_X2_apply (F : Nat) (l : Launch) (G : GT) (h_fo h_fo_roots h_fo_leftChildren h_fo_rightChildren h_fo_counts h_se h_se_priorities h_se_associativities h_se_symbols h_se_letters : Nat) (fo_operators : Int32) (se_operands : Int32) (fo_counts : Nat → Int32) (fo_leftChildren : Nat → Int32) (fo_rightChildren : Nat → Int32) (fo_roots : Nat → Int32) (se_associativities : Nat → Int32) (se_priorities : Nat → Int32) (se_symbols : Nat → Int32) (p2 : Int32) (sz : Nat) (out : (Nat → Int32) × (Nat → Int32) × (Nat → Int32) × (Nat → Int32)) (h : f_X2_apply F p2 fo_counts fo_leftChildren fo_operators fo_rightChildren fo_roots se_associativities se_operands se_priorities se_symbols = some out) : Cv G l yX2_apply cX2_apply 3 none rm_X2_apply [.ref h_fo, .ref h_se, .int p2] [(h_fo, .inr (1, [.int fo_operators, .ref h_fo_roots, .ref h_fo_leftChildren, .ref h_fo_rightChildren, .ref h_fo_counts])), (h_se, .inr (3, [.ref h_se_priorities, .ref h_se_associativities, .ref h_se_symbols, .ref h_se_letters, .int se_operands])), (h_fo_counts, .inl (gI G, 1210, .inl fo_counts)), (h_fo_leftChildren, .inl (gI G, 10, .inl fo_leftChildren)), (h_fo_rightChildren, .inl (gI G, 10, .inl fo_rightChildren)), (h_fo_roots, .inl (gI G, 121, .inl fo_roots)), (h_se_associativities, .inl (gI G, 9, .inl se_associativities)), (h_se_priorities, .inl (gI G, 9, .inl se_priorities)), (h_se_symbols, .inl (gI G, 10, .inl se_symbols))] sz (fun _ => [(h_fo, .inr (1, [.int fo_operators, .ref h_fo_roots, .ref h_fo_leftChildren, .ref h_fo_rightChildren, .ref h_fo_counts])), (h_se, .inr (3, [.ref h_se_priorities, .ref h_se_associativities, .ref h_se_symbols, .ref h_se_letters, .int se_operands])), (h_fo_counts, .inl (gI G, 1210, .inl (out.1))), (h_fo_leftChildren, .inl (gI G, 10, .inl (out.2.1))), (h_fo_rightChildren, .inl (gI G, 10, .inl (out.2.2.1))), (h_fo_roots, .inl (gI G, 121, .inl (out.2.2.2))), (h_se_associativities, .inl (gI G, 9, .inl se_associativities)), (h_se_priorities, .inl (gI G, 9, .inl se_priorities)), (h_se_symbols, .inl (gI G, 10, .inl se_symbols))]) := by
  refine Cv.start (by decide) (Nat.le_of_ble_eq_true rfl) ?_
  intro p e s m args below meth c A Q H locs ls hB hP hD hS hl hret
  obtain ⟨hx, hb, hmL, hr, hown, hts, hlocks, hnm, hA, hE⟩ := id hB
  obtain ⟨hK, hN, hV, hR, hZ, hZq, hAO⟩ := id hE
  have hown : s.vm.findClass RX2 = some m.cls := hown
  have hl : lv_has ls 3 [(0, .ref h_fo), (1, .ref h_se), (2, .int p2)] := hl
  rw [f_X2_apply] at h
  refine lv_iload_n hx hb dX2_apply_0 rfl (lv_at hl 2 rfl) ?_
  obtain ⟨o1, e1, h⟩ := bd h
  refine Ci.S (wr := [(h_fo, .inr (1, [.int fo_operators, .ref h_fo_roots, .ref h_fo_leftChildren, .ref h_fo_rightChildren, .ref h_fo_counts])), (h_se, .inr (3, [.ref h_se_priorities, .ref h_se_associativities, .ref h_se_symbols, .ref h_se_letters, .int se_operands])), (h_fo_counts, .inl (gI G, 1210, .inl fo_counts)), (h_fo_leftChildren, .inl (gI G, 10, .inl fo_leftChildren)), (h_fo_rightChildren, .inl (gI G, 10, .inl fo_rightChildren)), (h_fo_roots, .inl (gI G, 121, .inl fo_roots)), (h_se_associativities, .inl (gI G, 9, .inl se_associativities)), (h_se_priorities, .inl (gI G, 9, .inl se_priorities)), (h_se_symbols, .inl (gI G, 10, .inl se_symbols))]) (c_X1_kind F l G p2 H.size o1 e1) hB km_X1_kind st_X1_kind ml_RX2_34 hP hD hS hl [] [0, 1, 2, 3, 4, 5, 6, 7, 8] ⟨rfl, rfl, ⟨rfl, rfl⟩, by decide⟩ ⟨⟨Nat.le_of_ble_eq_true rfl, Nat.le_of_ble_eq_true rfl⟩, Nat.le_of_ble_eq_true rfl, Nat.le_of_ble_eq_true rfl, Nat.le_of_ble_eq_true rfl⟩ rfl dX2_apply_1 (fun z H locs hP hD hS => ?_)
  have hP : va_P (gD G) vwCl [(h_fo, .inr (1, [.int fo_operators, .ref h_fo_roots, .ref h_fo_leftChildren, .ref h_fo_rightChildren, .ref h_fo_counts])), (h_se, .inr (3, [.ref h_se_priorities, .ref h_se_associativities, .ref h_se_symbols, .ref h_se_letters, .int se_operands])), (h_fo_counts, .inl (gI G, 1210, .inl fo_counts)), (h_fo_leftChildren, .inl (gI G, 10, .inl fo_leftChildren)), (h_fo_rightChildren, .inl (gI G, 10, .inl fo_rightChildren)), (h_fo_roots, .inl (gI G, 121, .inl fo_roots)), (h_se_associativities, .inl (gI G, 9, .inl se_associativities)), (h_se_priorities, .inl (gI G, 9, .inl se_priorities)), (h_se_symbols, .inl (gI G, 10, .inl se_symbols))] H := hP
  have hD : va_D A [(h_fo, .inr (1, [.int fo_operators, .ref h_fo_roots, .ref h_fo_leftChildren, .ref h_fo_rightChildren, .ref h_fo_counts])), (h_se, .inr (3, [.ref h_se_priorities, .ref h_se_associativities, .ref h_se_symbols, .ref h_se_letters, .int se_operands])), (h_fo_counts, .inl (gI G, 1210, .inl fo_counts)), (h_fo_leftChildren, .inl (gI G, 10, .inl fo_leftChildren)), (h_fo_rightChildren, .inl (gI G, 10, .inl fo_rightChildren)), (h_fo_roots, .inl (gI G, 121, .inl fo_roots)), (h_se_associativities, .inl (gI G, 9, .inl se_associativities)), (h_se_priorities, .inl (gI G, 9, .inl se_priorities)), (h_se_symbols, .inl (gI G, 10, .inl se_symbols))] := hD
  by_cases c4_0 : o1 = 3
  · have h := ip c4_0 h
    refine lv_lookup (off := 28) (tgt := 32) hx hb dX2_apply_4 (by decide) (by rw [c4_0]; decide) (by decide) ?_
    refine lv_aload_n hx hb dX2_apply_32 rfl (lv_at hl 0 rfl) ?_
    refine lv_aload_n hx hb dX2_apply_33 rfl (lv_at hl 1 rfl) ?_
    refine lv_iload_n hx hb dX2_apply_34 rfl (lv_at hl 2 rfl) ?_
    obtain ⟨o35, e35, h⟩ := bd h
    refine Ci.S (wr := [(h_fo, .inr (1, [.int fo_operators, .ref h_fo_roots, .ref h_fo_leftChildren, .ref h_fo_rightChildren, .ref h_fo_counts])), (h_se, .inr (3, [.ref h_se_priorities, .ref h_se_associativities, .ref h_se_symbols, .ref h_se_letters, .int se_operands])), (h_fo_counts, .inl (gI G, 1210, .inl fo_counts)), (h_fo_leftChildren, .inl (gI G, 10, .inl fo_leftChildren)), (h_fo_rightChildren, .inl (gI G, 10, .inl fo_rightChildren)), (h_fo_roots, .inl (gI G, 121, .inl fo_roots)), (h_se_associativities, .inl (gI G, 9, .inl se_associativities)), (h_se_priorities, .inl (gI G, 9, .inl se_priorities)), (h_se_symbols, .inl (gI G, 10, .inl se_symbols))]) (c_X1_symbol F l G p2 H.size o35 e35) hB km_X1_symbol st_X1_symbol ml_RX2_40 hP hD hS hl [] [0, 1, 2, 3, 4, 5, 6, 7, 8] ⟨rfl, rfl, ⟨rfl, rfl⟩, by decide⟩ ⟨⟨Nat.le_of_ble_eq_true rfl, Nat.le_of_ble_eq_true rfl⟩, Nat.le_of_ble_eq_true rfl, Nat.le_of_ble_eq_true rfl, Nat.le_of_ble_eq_true rfl⟩ rfl dX2_apply_35 (fun z H locs hP hD hS => ?_)
    have hP : va_P (gD G) vwCl [(h_fo, .inr (1, [.int fo_operators, .ref h_fo_roots, .ref h_fo_leftChildren, .ref h_fo_rightChildren, .ref h_fo_counts])), (h_se, .inr (3, [.ref h_se_priorities, .ref h_se_associativities, .ref h_se_symbols, .ref h_se_letters, .int se_operands])), (h_fo_counts, .inl (gI G, 1210, .inl fo_counts)), (h_fo_leftChildren, .inl (gI G, 10, .inl fo_leftChildren)), (h_fo_rightChildren, .inl (gI G, 10, .inl fo_rightChildren)), (h_fo_roots, .inl (gI G, 121, .inl fo_roots)), (h_se_associativities, .inl (gI G, 9, .inl se_associativities)), (h_se_priorities, .inl (gI G, 9, .inl se_priorities)), (h_se_symbols, .inl (gI G, 10, .inl se_symbols))] H := hP
    have hD : va_D A [(h_fo, .inr (1, [.int fo_operators, .ref h_fo_roots, .ref h_fo_leftChildren, .ref h_fo_rightChildren, .ref h_fo_counts])), (h_se, .inr (3, [.ref h_se_priorities, .ref h_se_associativities, .ref h_se_symbols, .ref h_se_letters, .int se_operands])), (h_fo_counts, .inl (gI G, 1210, .inl fo_counts)), (h_fo_leftChildren, .inl (gI G, 10, .inl fo_leftChildren)), (h_fo_rightChildren, .inl (gI G, 10, .inl fo_rightChildren)), (h_fo_roots, .inl (gI G, 121, .inl fo_roots)), (h_se_associativities, .inl (gI G, 9, .inl se_associativities)), (h_se_priorities, .inl (gI G, 9, .inl se_priorities)), (h_se_symbols, .inl (gI G, 10, .inl se_symbols))] := hD
    obtain ⟨o38, e38, h⟩ := bd h
    refine Ci.V (wr := [(h_fo, .inr (1, [.int fo_operators, .ref h_fo_roots, .ref h_fo_leftChildren, .ref h_fo_rightChildren, .ref h_fo_counts])), (h_fo_counts, .inl (gI G, 1210, .inl fo_counts)), (h_fo_leftChildren, .inl (gI G, 10, .inl fo_leftChildren)), (h_fo_rightChildren, .inl (gI G, 10, .inl fo_rightChildren)), (h_fo_roots, .inl (gI G, 121, .inl fo_roots)), (h_se_associativities, .inl (gI G, 9, .inl se_associativities)), (h_se_priorities, .inl (gI G, 9, .inl se_priorities))]) (c_X4_operatorsWith F l G h_se h_se_priorities h_se_associativities h_se_symbols h_se_letters se_operands se_symbols o35 H.size o38 e38) hB km_X4_operatorsWith ⟨im_X4_operatorsWith, sl_X4_operatorsWith⟩ ml_RX2_43 hP hD hS hl ⟨0, 3, _, _, rfl, rfl, rfl⟩ [1, 8] [0, 2, 3, 4, 5, 6, 7] ⟨rfl, rfl, ⟨rfl, rfl⟩, by decide⟩ ⟨⟨Nat.le_of_ble_eq_true rfl, Nat.le_of_ble_eq_true rfl⟩, Nat.le_of_ble_eq_true rfl, Nat.le_of_ble_eq_true rfl, Nat.le_of_ble_eq_true rfl⟩ rfl dX2_apply_38 (fun z H locs hP hD hS => ?_)
    have hP : va_P (gD G) vwCl [(h_fo, .inr (1, [.int fo_operators, .ref h_fo_roots, .ref h_fo_leftChildren, .ref h_fo_rightChildren, .ref h_fo_counts])), (h_fo_counts, .inl (gI G, 1210, .inl fo_counts)), (h_fo_leftChildren, .inl (gI G, 10, .inl fo_leftChildren)), (h_fo_rightChildren, .inl (gI G, 10, .inl fo_rightChildren)), (h_fo_roots, .inl (gI G, 121, .inl fo_roots)), (h_se_associativities, .inl (gI G, 9, .inl se_associativities)), (h_se_priorities, .inl (gI G, 9, .inl se_priorities)), (h_se, .inr (3, [.ref h_se_priorities, .ref h_se_associativities, .ref h_se_symbols, .ref h_se_letters, .int se_operands])), (h_se_symbols, .inl (gI G, 10, .inl se_symbols))] H := hP
    have hD : va_D A [(h_fo, .inr (1, [.int fo_operators, .ref h_fo_roots, .ref h_fo_leftChildren, .ref h_fo_rightChildren, .ref h_fo_counts])), (h_fo_counts, .inl (gI G, 1210, .inl fo_counts)), (h_fo_leftChildren, .inl (gI G, 10, .inl fo_leftChildren)), (h_fo_rightChildren, .inl (gI G, 10, .inl fo_rightChildren)), (h_fo_roots, .inl (gI G, 121, .inl fo_roots)), (h_se_associativities, .inl (gI G, 9, .inl se_associativities)), (h_se_priorities, .inl (gI G, 9, .inl se_priorities)), (h_se, .inr (3, [.ref h_se_priorities, .ref h_se_associativities, .ref h_se_symbols, .ref h_se_letters, .int se_operands])), (h_se_symbols, .inl (gI G, 10, .inl se_symbols))] := hD
    obtain ⟨o41, e41, h⟩ := bd h
    refine Cv.V (wr := [(h_se_associativities, .inl (gI G, 9, .inl se_associativities)), (h_se_priorities, .inl (gI G, 9, .inl se_priorities)), (h_se, .inr (3, [.ref h_se_priorities, .ref h_se_associativities, .ref h_se_symbols, .ref h_se_letters, .int se_operands])), (h_se_symbols, .inl (gI G, 10, .inl se_symbols))]) (c_X2_keepRoots F l G h_fo h_fo_roots h_fo_leftChildren h_fo_rightChildren h_fo_counts fo_operators fo_counts fo_leftChildren fo_rightChildren fo_roots o38 H.size o41 e41) hB km_X2_keepRoots ⟨im_X2_keepRoots, sl_X2_keepRoots⟩ ml_RX2_48 hP hD hS hl ⟨0, 1, _, _, rfl, rfl, rfl⟩ [0, 1, 2, 3, 4] [5, 6, 7, 8] ⟨rfl, rfl, ⟨rfl, rfl⟩, by decide⟩ ⟨⟨Nat.le_of_ble_eq_true rfl, Nat.le_of_ble_eq_true rfl⟩, Nat.le_of_ble_eq_true rfl, Nat.le_of_ble_eq_true rfl, Nat.le_of_ble_eq_true rfl⟩ rfl dX2_apply_41 (fun z H locs hP hD hS => ?_)
    have hP : va_P (gD G) vwCl [(h_se_associativities, .inl (gI G, 9, .inl se_associativities)), (h_se_priorities, .inl (gI G, 9, .inl se_priorities)), (h_se, .inr (3, [.ref h_se_priorities, .ref h_se_associativities, .ref h_se_symbols, .ref h_se_letters, .int se_operands])), (h_se_symbols, .inl (gI G, 10, .inl se_symbols)), (h_fo, .inr (1, [.int fo_operators, .ref h_fo_roots, .ref h_fo_leftChildren, .ref h_fo_rightChildren, .ref h_fo_counts])), (h_fo_counts, .inl (gI G, 1210, .inl (o41.1))), (h_fo_leftChildren, .inl (gI G, 10, .inl fo_leftChildren)), (h_fo_rightChildren, .inl (gI G, 10, .inl fo_rightChildren)), (h_fo_roots, .inl (gI G, 121, .inl (o41.2)))] H := hP
    have hD : va_D A [(h_se_associativities, .inl (gI G, 9, .inl se_associativities)), (h_se_priorities, .inl (gI G, 9, .inl se_priorities)), (h_se, .inr (3, [.ref h_se_priorities, .ref h_se_associativities, .ref h_se_symbols, .ref h_se_letters, .int se_operands])), (h_se_symbols, .inl (gI G, 10, .inl se_symbols)), (h_fo, .inr (1, [.int fo_operators, .ref h_fo_roots, .ref h_fo_leftChildren, .ref h_fo_rightChildren, .ref h_fo_counts])), (h_fo_counts, .inl (gI G, 1210, .inl (o41.1))), (h_fo_leftChildren, .inl (gI G, 10, .inl fo_leftChildren)), (h_fo_rightChildren, .inl (gI G, 10, .inl fo_rightChildren)), (h_fo_roots, .inl (gI G, 121, .inl (o41.2)))] := hD
    refine lv_goto (tgt := 70) hx hb dX2_apply_44 (by decide) ?_
    cases h
    exact hret (fun _ => 0) _ _ _ _ (hP.sub [4, 2, 5, 6, 7, 8, 0, 1, 3] rfl) (hD.sub [4, 2, 5, 6, 7, 8, 0, 1, 3] (by decide) rfl) hS dX2_apply_70
  have h := ing c4_0 h
  by_cases c4_1 : o1 = 4
  · have h := ip c4_1 h
    refine lv_lookup (off := 43) (tgt := 47) hx hb dX2_apply_4 (by decide) (by rw [c4_1]; decide) (by decide) ?_
    refine lv_aload_n hx hb dX2_apply_47 rfl (lv_at hl 0 rfl) ?_
    refine lv_aload_n hx hb dX2_apply_48 rfl (lv_at hl 1 rfl) ?_
    refine lv_iload_n hx hb dX2_apply_49 rfl (lv_at hl 2 rfl) ?_
    obtain ⟨o50, e50, h⟩ := bd h
    refine Ci.S (wr := [(h_fo, .inr (1, [.int fo_operators, .ref h_fo_roots, .ref h_fo_leftChildren, .ref h_fo_rightChildren, .ref h_fo_counts])), (h_se, .inr (3, [.ref h_se_priorities, .ref h_se_associativities, .ref h_se_symbols, .ref h_se_letters, .int se_operands])), (h_fo_counts, .inl (gI G, 1210, .inl fo_counts)), (h_fo_leftChildren, .inl (gI G, 10, .inl fo_leftChildren)), (h_fo_rightChildren, .inl (gI G, 10, .inl fo_rightChildren)), (h_fo_roots, .inl (gI G, 121, .inl fo_roots)), (h_se_associativities, .inl (gI G, 9, .inl se_associativities)), (h_se_priorities, .inl (gI G, 9, .inl se_priorities)), (h_se_symbols, .inl (gI G, 10, .inl se_symbols))]) (c_X1_symbol F l G p2 H.size o50 e50) hB km_X1_symbol st_X1_symbol ml_RX2_40 hP hD hS hl [] [0, 1, 2, 3, 4, 5, 6, 7, 8] ⟨rfl, rfl, ⟨rfl, rfl⟩, by decide⟩ ⟨⟨Nat.le_of_ble_eq_true rfl, Nat.le_of_ble_eq_true rfl⟩, Nat.le_of_ble_eq_true rfl, Nat.le_of_ble_eq_true rfl, Nat.le_of_ble_eq_true rfl⟩ rfl dX2_apply_50 (fun z H locs hP hD hS => ?_)
    have hP : va_P (gD G) vwCl [(h_fo, .inr (1, [.int fo_operators, .ref h_fo_roots, .ref h_fo_leftChildren, .ref h_fo_rightChildren, .ref h_fo_counts])), (h_se, .inr (3, [.ref h_se_priorities, .ref h_se_associativities, .ref h_se_symbols, .ref h_se_letters, .int se_operands])), (h_fo_counts, .inl (gI G, 1210, .inl fo_counts)), (h_fo_leftChildren, .inl (gI G, 10, .inl fo_leftChildren)), (h_fo_rightChildren, .inl (gI G, 10, .inl fo_rightChildren)), (h_fo_roots, .inl (gI G, 121, .inl fo_roots)), (h_se_associativities, .inl (gI G, 9, .inl se_associativities)), (h_se_priorities, .inl (gI G, 9, .inl se_priorities)), (h_se_symbols, .inl (gI G, 10, .inl se_symbols))] H := hP
    have hD : va_D A [(h_fo, .inr (1, [.int fo_operators, .ref h_fo_roots, .ref h_fo_leftChildren, .ref h_fo_rightChildren, .ref h_fo_counts])), (h_se, .inr (3, [.ref h_se_priorities, .ref h_se_associativities, .ref h_se_symbols, .ref h_se_letters, .int se_operands])), (h_fo_counts, .inl (gI G, 1210, .inl fo_counts)), (h_fo_leftChildren, .inl (gI G, 10, .inl fo_leftChildren)), (h_fo_rightChildren, .inl (gI G, 10, .inl fo_rightChildren)), (h_fo_roots, .inl (gI G, 121, .inl fo_roots)), (h_se_associativities, .inl (gI G, 9, .inl se_associativities)), (h_se_priorities, .inl (gI G, 9, .inl se_priorities)), (h_se_symbols, .inl (gI G, 10, .inl se_symbols))] := hD
    obtain ⟨o53, e53, h⟩ := bd h
    refine Ci.V (wr := [(h_fo, .inr (1, [.int fo_operators, .ref h_fo_roots, .ref h_fo_leftChildren, .ref h_fo_rightChildren, .ref h_fo_counts])), (h_fo_counts, .inl (gI G, 1210, .inl fo_counts)), (h_fo_leftChildren, .inl (gI G, 10, .inl fo_leftChildren)), (h_fo_rightChildren, .inl (gI G, 10, .inl fo_rightChildren)), (h_fo_roots, .inl (gI G, 121, .inl fo_roots)), (h_se_associativities, .inl (gI G, 9, .inl se_associativities)), (h_se_priorities, .inl (gI G, 9, .inl se_priorities))]) (c_X4_operatorsWith F l G h_se h_se_priorities h_se_associativities h_se_symbols h_se_letters se_operands se_symbols o50 H.size o53 e53) hB km_X4_operatorsWith ⟨im_X4_operatorsWith, sl_X4_operatorsWith⟩ ml_RX2_43 hP hD hS hl ⟨0, 3, _, _, rfl, rfl, rfl⟩ [1, 8] [0, 2, 3, 4, 5, 6, 7] ⟨rfl, rfl, ⟨rfl, rfl⟩, by decide⟩ ⟨⟨Nat.le_of_ble_eq_true rfl, Nat.le_of_ble_eq_true rfl⟩, Nat.le_of_ble_eq_true rfl, Nat.le_of_ble_eq_true rfl, Nat.le_of_ble_eq_true rfl⟩ rfl dX2_apply_53 (fun z H locs hP hD hS => ?_)
    have hP : va_P (gD G) vwCl [(h_fo, .inr (1, [.int fo_operators, .ref h_fo_roots, .ref h_fo_leftChildren, .ref h_fo_rightChildren, .ref h_fo_counts])), (h_fo_counts, .inl (gI G, 1210, .inl fo_counts)), (h_fo_leftChildren, .inl (gI G, 10, .inl fo_leftChildren)), (h_fo_rightChildren, .inl (gI G, 10, .inl fo_rightChildren)), (h_fo_roots, .inl (gI G, 121, .inl fo_roots)), (h_se_associativities, .inl (gI G, 9, .inl se_associativities)), (h_se_priorities, .inl (gI G, 9, .inl se_priorities)), (h_se, .inr (3, [.ref h_se_priorities, .ref h_se_associativities, .ref h_se_symbols, .ref h_se_letters, .int se_operands])), (h_se_symbols, .inl (gI G, 10, .inl se_symbols))] H := hP
    have hD : va_D A [(h_fo, .inr (1, [.int fo_operators, .ref h_fo_roots, .ref h_fo_leftChildren, .ref h_fo_rightChildren, .ref h_fo_counts])), (h_fo_counts, .inl (gI G, 1210, .inl fo_counts)), (h_fo_leftChildren, .inl (gI G, 10, .inl fo_leftChildren)), (h_fo_rightChildren, .inl (gI G, 10, .inl fo_rightChildren)), (h_fo_roots, .inl (gI G, 121, .inl fo_roots)), (h_se_associativities, .inl (gI G, 9, .inl se_associativities)), (h_se_priorities, .inl (gI G, 9, .inl se_priorities)), (h_se, .inr (3, [.ref h_se_priorities, .ref h_se_associativities, .ref h_se_symbols, .ref h_se_letters, .int se_operands])), (h_se_symbols, .inl (gI G, 10, .inl se_symbols))] := hD
    refine lv_iconst (v := (-1)) hx hb dX2_apply_56 (by decide) ?_
    refine lv_ixor hx hb dX2_apply_57 ?_
    obtain ⟨o58, e58, h⟩ := bd h
    refine Cv.V (wr := [(h_se_associativities, .inl (gI G, 9, .inl se_associativities)), (h_se_priorities, .inl (gI G, 9, .inl se_priorities)), (h_se, .inr (3, [.ref h_se_priorities, .ref h_se_associativities, .ref h_se_symbols, .ref h_se_letters, .int se_operands])), (h_se_symbols, .inl (gI G, 10, .inl se_symbols))]) (c_X2_keepRoots F l G h_fo h_fo_roots h_fo_leftChildren h_fo_rightChildren h_fo_counts fo_operators fo_counts fo_leftChildren fo_rightChildren fo_roots (o53 ^^^ (-1)) H.size o58 e58) hB km_X2_keepRoots ⟨im_X2_keepRoots, sl_X2_keepRoots⟩ ml_RX2_48 hP hD hS hl ⟨0, 1, _, _, rfl, rfl, rfl⟩ [0, 1, 2, 3, 4] [5, 6, 7, 8] ⟨rfl, rfl, ⟨rfl, rfl⟩, by decide⟩ ⟨⟨Nat.le_of_ble_eq_true rfl, Nat.le_of_ble_eq_true rfl⟩, Nat.le_of_ble_eq_true rfl, Nat.le_of_ble_eq_true rfl, Nat.le_of_ble_eq_true rfl⟩ rfl dX2_apply_58 (fun z H locs hP hD hS => ?_)
    have hP : va_P (gD G) vwCl [(h_se_associativities, .inl (gI G, 9, .inl se_associativities)), (h_se_priorities, .inl (gI G, 9, .inl se_priorities)), (h_se, .inr (3, [.ref h_se_priorities, .ref h_se_associativities, .ref h_se_symbols, .ref h_se_letters, .int se_operands])), (h_se_symbols, .inl (gI G, 10, .inl se_symbols)), (h_fo, .inr (1, [.int fo_operators, .ref h_fo_roots, .ref h_fo_leftChildren, .ref h_fo_rightChildren, .ref h_fo_counts])), (h_fo_counts, .inl (gI G, 1210, .inl (o58.1))), (h_fo_leftChildren, .inl (gI G, 10, .inl fo_leftChildren)), (h_fo_rightChildren, .inl (gI G, 10, .inl fo_rightChildren)), (h_fo_roots, .inl (gI G, 121, .inl (o58.2)))] H := hP
    have hD : va_D A [(h_se_associativities, .inl (gI G, 9, .inl se_associativities)), (h_se_priorities, .inl (gI G, 9, .inl se_priorities)), (h_se, .inr (3, [.ref h_se_priorities, .ref h_se_associativities, .ref h_se_symbols, .ref h_se_letters, .int se_operands])), (h_se_symbols, .inl (gI G, 10, .inl se_symbols)), (h_fo, .inr (1, [.int fo_operators, .ref h_fo_roots, .ref h_fo_leftChildren, .ref h_fo_rightChildren, .ref h_fo_counts])), (h_fo_counts, .inl (gI G, 1210, .inl (o58.1))), (h_fo_leftChildren, .inl (gI G, 10, .inl fo_leftChildren)), (h_fo_rightChildren, .inl (gI G, 10, .inl fo_rightChildren)), (h_fo_roots, .inl (gI G, 121, .inl (o58.2)))] := hD
    refine lv_goto (tgt := 70) hx hb dX2_apply_61 (by decide) ?_
    cases h
    exact hret (fun _ => 0) _ _ _ _ (hP.sub [4, 2, 5, 6, 7, 8, 0, 1, 3] rfl) (hD.sub [4, 2, 5, 6, 7, 8, 0, 1, 3] (by decide) rfl) hS dX2_apply_70
  have h := ing c4_1 h
  have q4_0 : (o1).toInt ≠ 3 := fun z => c4_0 (Int32.toInt_inj.mp (z.trans (by decide)))
  have q4_1 : (o1).toInt ≠ 4 := fun z => c4_1 (Int32.toInt_inj.mp (z.trans (by decide)))
  refine lv_lookup (off := 60) (tgt := 64) hx hb dX2_apply_4 (by decide) (by simp [Op.lookupswitch.offset, q4_0, Ne.symm q4_0, q4_1, Ne.symm q4_1]) (by decide) ?_
  refine lv_aload_n hx hb dX2_apply_64 rfl (lv_at hl 0 rfl) ?_
  refine lv_aload_n hx hb dX2_apply_65 rfl (lv_at hl 1 rfl) ?_
  refine lv_iload_n hx hb dX2_apply_66 rfl (lv_at hl 2 rfl) ?_
  obtain ⟨o67, e67, h⟩ := bd h
  refine Cv.V (wr := [(h_fo_counts, .inl (gI G, 1210, .inl fo_counts)), (h_fo_roots, .inl (gI G, 121, .inl fo_roots))]) (c_X2_forbidChildren F l G h_fo h_fo_roots h_fo_leftChildren h_fo_rightChildren h_fo_counts h_se h_se_priorities h_se_associativities h_se_symbols h_se_letters fo_operators se_operands fo_leftChildren fo_rightChildren se_associativities se_priorities se_symbols p2 H.size o67 e67) hB km_X2_forbidChildren ⟨im_X2_forbidChildren, sl_X2_forbidChildren⟩ ml_RX2_52 hP hD hS hl ⟨0, 1, _, _, rfl, rfl, rfl⟩ [0, 1, 3, 4, 6, 7, 8] [2, 5] ⟨rfl, rfl, ⟨rfl, rfl⟩, by decide⟩ ⟨⟨Nat.le_of_ble_eq_true rfl, Nat.le_of_ble_eq_true rfl⟩, Nat.le_of_ble_eq_true rfl, Nat.le_of_ble_eq_true rfl, Nat.le_of_ble_eq_true rfl⟩ rfl dX2_apply_67 (fun z H locs hP hD hS => ?_)
  have hP : va_P (gD G) vwCl [(h_fo_counts, .inl (gI G, 1210, .inl fo_counts)), (h_fo_roots, .inl (gI G, 121, .inl fo_roots)), (h_fo, .inr (1, [.int fo_operators, .ref h_fo_roots, .ref h_fo_leftChildren, .ref h_fo_rightChildren, .ref h_fo_counts])), (h_se, .inr (3, [.ref h_se_priorities, .ref h_se_associativities, .ref h_se_symbols, .ref h_se_letters, .int se_operands])), (h_fo_leftChildren, .inl (gI G, 10, .inl (o67.1))), (h_fo_rightChildren, .inl (gI G, 10, .inl (o67.2))), (h_se_associativities, .inl (gI G, 9, .inl se_associativities)), (h_se_priorities, .inl (gI G, 9, .inl se_priorities)), (h_se_symbols, .inl (gI G, 10, .inl se_symbols))] H := hP
  have hD : va_D A [(h_fo_counts, .inl (gI G, 1210, .inl fo_counts)), (h_fo_roots, .inl (gI G, 121, .inl fo_roots)), (h_fo, .inr (1, [.int fo_operators, .ref h_fo_roots, .ref h_fo_leftChildren, .ref h_fo_rightChildren, .ref h_fo_counts])), (h_se, .inr (3, [.ref h_se_priorities, .ref h_se_associativities, .ref h_se_symbols, .ref h_se_letters, .int se_operands])), (h_fo_leftChildren, .inl (gI G, 10, .inl (o67.1))), (h_fo_rightChildren, .inl (gI G, 10, .inl (o67.2))), (h_se_associativities, .inl (gI G, 9, .inl se_associativities)), (h_se_priorities, .inl (gI G, 9, .inl se_priorities)), (h_se_symbols, .inl (gI G, 10, .inl se_symbols))] := hD
  cases h
  exact hret (fun _ => 0) _ _ _ _ (hP.sub [2, 3, 0, 4, 5, 1, 6, 7, 8] rfl) (hD.sub [2, 3, 0, 4, 5, 1, 6, 7, 8] (by decide) rfl) hS dX2_apply_70
abbrev rm_J7_fill_53178 : Room := { frames := 0, cells := 0, slots := 0, locals := 0 }
theorem km_J7_fill_53178 : KM yJ7_fill_53178 cJ7_fill_53178 4 none 2 := ⟨co_J7_fill_53178, in_RJ7, by decide +kernel⟩
set_option maxHeartbeats 4000000 in
set_option maxRecDepth 100000 in
theorem c_J7_fill_53178 (F : Nat) (l : Launch) (G : GT) (avn : Nat) (h_av : Nat) (av : Nat → Int32) (p1 : Int32) (sz : Nat) (out : (Nat → Int32)) (h : f_J7_fill_53178 F avn p1 av = some out) : Cv G l yJ7_fill_53178 cJ7_fill_53178 4 none rm_J7_fill_53178 [.ref h_av, .int p1] [(h_av, .inl (gI G, avn, .inl av))] sz (fun _ => [(h_av, .inl (gI G, avn, .inl out))]) := by
  refine Cv.start (by decide) (Nat.le_of_ble_eq_true rfl) ?_
  intro p e s m args below meth c A Q H locs ls hB hP hD hS hl hret
  obtain ⟨hx, hb, hmL, hr, hown, hts, hlocks, hnm, hA, hE⟩ := id hB
  obtain ⟨hK, hN, hV, hR, hZ, hZq, hAO⟩ := id hE
  have hown : s.vm.findClass RJ7 = some m.cls := hown
  have hl : lv_has ls 4 [(0, .ref h_av), (1, .int p1)] := hl
  rw [f_J7_fill_53178] at h
  refine lv_iconst (v := 0) hx hb dJ7_fill_53178_0 (by decide) ?_
  refine lv_istore_n (lv' := [(2, .int 0), (0, .ref h_av), (1, .int p1)]) hx hb dJ7_fill_53178_1 rfl hl (by decide) rfl (fun ls hl => ?_)
  refine lv_aload_n hx hb dJ7_fill_53178_2 rfl (lv_at hl 1 rfl) ?_
  refine va_alen hx hb hK hP 0 1 rfl rfl rfl dJ7_fill_53178_3 ?_
  refine lv_istore_n (lv' := [(3, .int (Int32.ofNat avn)), (2, .int 0), (0, .ref h_av), (1, .int p1)]) hx hb dJ7_fill_53178_4 rfl hl (by decide) rfl (fun ls hl => ?_)
  have Lp5 : ∀ (n : Nat) (v1 : Int32) (v3 : Int32) (v2 : Int32) (av : Nat → Int32) (X : (Nat → Int32) → Option ((Nat → Int32))) (H : Heap) (locs : List Loc) (ls : Array Slot), va_P (gD G) vwCl [(h_av, .inl (gI G, avn, .inl av))] H → va_D A [(h_av, .inl (gI G, avn, .inl av))] → va_S A s.heap H locs → lv_has ls 4 [(0, .ref h_av), (1, .int v1), (2, .int v2), (3, .int v3)] → f_J7_fill_53178_l5 F avn v1 v3 n v2 av X = some out → (∀ (av : Nat → Int32) (H : Heap) (locs : List Loc) (ls : Array Slot), va_P (gD G) vwCl [(h_av, .inl (gI G, avn, .inl av))] H → va_D A [(h_av, .inl (gI G, avn, .inl av))] → va_S A s.heap H locs → lv_has ls 4 [] → X av = some out → W p l e rm_J7_fill_53178 s m args below meth c H locs 0 0 Q (F0 m 20 ls [])) → W p l e rm_J7_fill_53178 s m args below meth c H locs 0 0 Q (F0 m 5 ls []) := by
    intro n
    induction n with
    | zero => intro v1 v3 v2 av X H locs ls hP hD hS hl h HX; rw [f_J7_fill_53178_l5] at h; cases h
    | succ n ih =>
        intro v1 v3 v2 av X H locs ls hP hD hS hl h HX
        rw [f_J7_fill_53178_l5] at h
        refine lv_iload_n hx hb dJ7_fill_53178_5 rfl (lv_at hl 2 rfl) ?_
        refine lv_iload_n hx hb dJ7_fill_53178_6 rfl (lv_at hl 3 rfl) ?_
        refine lv_icmp_ge (tgt := 20) hx hb dJ7_fill_53178_7 (by decide) (fun c7 => ?_) (fun c7 => ?_)
        · have h := ip c7 h
          exact HX av H locs ls hP hD hS (lv_sub hl [] rfl) h
        · have h := ing c7 h
          refine lv_aload_n hx hb dJ7_fill_53178_10 rfl (lv_at hl 0 rfl) ?_
          refine lv_iload_n hx hb dJ7_fill_53178_11 rfl (lv_at hl 2 rfl) ?_
          refine lv_iload_n hx hb dJ7_fill_53178_12 rfl (lv_at hl 1 rfl) ?_
          obtain ⟨g13, h⟩ := gda h
          refine va_iast hx hb hK hP hD hS 0 1 rfl rfl g13 dJ7_fill_53178_13 (fun H locs hP hD hS => ?_)
          have hP : va_P (gD G) vwCl [(h_av, .inl (gI G, avn, .inl (upd av (Int32.toNatClampNeg v2) v1)))] H := hP
          have hD : va_D A [(h_av, .inl (gI G, avn, .inl (upd av (Int32.toNatClampNeg v2) v1)))] := hD
          refine lv_iinc (v := (v2 + 1)) (lv' := [(2, .int (v2 + 1)), (0, .ref h_av), (1, .int v1), (3, .int v3)]) hx hb dJ7_fill_53178_14 hl (k := 2) rfl rfl (by decide) rfl (fun ls hl => ?_)
          refine lv_goto (tgt := 5) hx hb dJ7_fill_53178_17 (by decide) ?_
          exact ih v1 v3 (v2 + 1) (upd av (Int32.toNatClampNeg v2) v1) X H locs ls hP hD hS (lv_sub hl [1, 2, 0, 3] rfl) h HX
  refine Lp5 F p1 (Int32.ofNat avn) 0 av _ H locs ls hP hD hS (lv_sub hl [2, 3, 1, 0] rfl) h (fun av H locs ls hP hD hS hl h => ?_)
  cases h
  exact hret (fun _ => 0) _ _ _ _ hP hD hS dJ7_fill_53178_20
abbrev rm_X2_reset : Room := { frames := 1, cells := 0, slots := 0, locals := 23 }
theorem km_X2_reset : KM yX2_reset cX2_reset 2 none 1 := ⟨co_X2_reset, in_RX2, by decide +kernel⟩
set_option maxHeartbeats 4000000 in
set_option maxRecDepth 100000 in
theorem c_X2_reset (F : Nat) (l : Launch) (G : GT) (h_fo h_fo_roots h_fo_leftChildren h_fo_rightChildren h_fo_counts : Nat) (fo_operators : Int32) (fo_leftChildren : Nat → Int32) (fo_rightChildren : Nat → Int32) (fo_roots : Nat → Int32) (p1 : Int32) (sz : Nat) (out : (Nat → Int32) × Int32 × (Nat → Int32) × (Nat → Int32)) (h : f_X2_reset F p1 fo_leftChildren fo_operators fo_rightChildren fo_roots = some out) : Cv G l yX2_reset cX2_reset 2 none rm_X2_reset [.ref h_fo, .int p1] [(h_fo, .inr (1, [.int fo_operators, .ref h_fo_roots, .ref h_fo_leftChildren, .ref h_fo_rightChildren, .ref h_fo_counts])), (h_fo_leftChildren, .inl (gI G, 10, .inl fo_leftChildren)), (h_fo_rightChildren, .inl (gI G, 10, .inl fo_rightChildren)), (h_fo_roots, .inl (gI G, 121, .inl fo_roots))] sz (fun _ => [(h_fo, .inr (1, [.int (out.2.1), .ref h_fo_roots, .ref h_fo_leftChildren, .ref h_fo_rightChildren, .ref h_fo_counts])), (h_fo_leftChildren, .inl (gI G, 10, .inl (out.1))), (h_fo_rightChildren, .inl (gI G, 10, .inl (out.2.2.1))), (h_fo_roots, .inl (gI G, 121, .inl (out.2.2.2)))]) := by
  refine Cv.start (by decide) (Nat.le_of_ble_eq_true rfl) ?_
  intro p e s m args below meth c A Q H locs ls hB hP hD hS hl hret
  obtain ⟨hx, hb, hmL, hr, hown, hts, hlocks, hnm, hA, hE⟩ := id hB
  obtain ⟨hK, hN, hV, hR, hZ, hZq, hAO⟩ := id hE
  have hown : s.vm.findClass RX2 = some m.cls := hown
  have hl : lv_has ls 2 [(0, .ref h_fo), (1, .int p1)] := hl
  rw [f_X2_reset] at h
  refine lv_aload_n hx hb dX2_reset_0 rfl (lv_at hl 0 rfl) ?_
  refine lv_iload_n hx hb dX2_reset_1 rfl (lv_at hl 1 rfl) ?_
  refine va_put (D := gD G) (ci := 1) (v := .int p1) (ty := .int) (C := RX2) (T := TX2) (N := 5) hx hb hts lk_X2 tyX2 tyX2_ok nmX2 hown hK hP hD hS 0 rfl rfl 0 (by decide) (hts _ fl_RX2_9) (fun _ h9 => h9) rfl (by decide +kernel) rfl rfl (Nat.le_of_ble_eq_true rfl) dX2_reset_2 (fun H locs hP hD hS => ?_)
  have hP : va_P (gD G) vwCl [(h_fo, .inr (1, [.int p1, .ref h_fo_roots, .ref h_fo_leftChildren, .ref h_fo_rightChildren, .ref h_fo_counts])), (h_fo_leftChildren, .inl (gI G, 10, .inl fo_leftChildren)), (h_fo_rightChildren, .inl (gI G, 10, .inl fo_rightChildren)), (h_fo_roots, .inl (gI G, 121, .inl fo_roots))] H := hP
  have hD : va_D A [(h_fo, .inr (1, [.int p1, .ref h_fo_roots, .ref h_fo_leftChildren, .ref h_fo_rightChildren, .ref h_fo_counts])), (h_fo_leftChildren, .inl (gI G, 10, .inl fo_leftChildren)), (h_fo_rightChildren, .inl (gI G, 10, .inl fo_rightChildren)), (h_fo_roots, .inl (gI G, 121, .inl fo_roots))] := hD
  refine lv_aload_n hx hb dX2_reset_5 rfl (lv_at hl 0 rfl) ?_
  refine va_get (D := gD G) (ci := 1) (v := .ref h_fo_roots) (C := RX2) (T := TX2) (N := 5) hx hb hts lk_X2 hown hK hP 0 rfl rfl 1 (by decide) (hts _ fl_RX2_15) (fun _ h9 => h9) rfl dX2_reset_6 ?_
  refine lv_iconst (v := (-1)) hx hb dX2_reset_9 (by decide) ?_
  obtain ⟨o10, e10, h⟩ := bd h
  refine Cv.S (wr := [(h_fo, .inr (1, [.int p1, .ref h_fo_roots, .ref h_fo_leftChildren, .ref h_fo_rightChildren, .ref h_fo_counts])), (h_fo_leftChildren, .inl (gI G, 10, .inl fo_leftChildren)), (h_fo_rightChildren, .inl (gI G, 10, .inl fo_rightChildren))]) (c_J7_fill_53178 F l G 121 h_fo_roots fo_roots (-1) H.size o10 e10) hB km_J7_fill_53178 st_J7_fill_53178 ml_RX2_28 hP hD hS hl [3] [0, 1, 2] ⟨rfl, rfl, ⟨rfl, rfl⟩, by decide⟩ ⟨⟨Nat.le_of_ble_eq_true rfl, Nat.le_of_ble_eq_true rfl⟩, Nat.le_of_ble_eq_true rfl, Nat.le_of_ble_eq_true rfl, Nat.le_of_ble_eq_true rfl⟩ rfl dX2_reset_10 (fun z H locs hP hD hS => ?_)
  have hP : va_P (gD G) vwCl [(h_fo, .inr (1, [.int p1, .ref h_fo_roots, .ref h_fo_leftChildren, .ref h_fo_rightChildren, .ref h_fo_counts])), (h_fo_leftChildren, .inl (gI G, 10, .inl fo_leftChildren)), (h_fo_rightChildren, .inl (gI G, 10, .inl fo_rightChildren)), (h_fo_roots, .inl (gI G, 121, .inl o10))] H := hP
  have hD : va_D A [(h_fo, .inr (1, [.int p1, .ref h_fo_roots, .ref h_fo_leftChildren, .ref h_fo_rightChildren, .ref h_fo_counts])), (h_fo_leftChildren, .inl (gI G, 10, .inl fo_leftChildren)), (h_fo_rightChildren, .inl (gI G, 10, .inl fo_rightChildren)), (h_fo_roots, .inl (gI G, 121, .inl o10))] := hD
  refine lv_aload_n hx hb dX2_reset_13 rfl (lv_at hl 0 rfl) ?_
  refine va_get (D := gD G) (ci := 1) (v := .ref h_fo_leftChildren) (C := RX2) (T := TX2) (N := 5) hx hb hts lk_X2 hown hK hP 0 rfl rfl 2 (by decide) (hts _ fl_RX2_19) (fun _ h9 => h9) rfl dX2_reset_14 ?_
  refine lv_iconst (v := (-1)) hx hb dX2_reset_17 (by decide) ?_
  obtain ⟨o18, e18, h⟩ := bd h
  refine Cv.S (wr := [(h_fo, .inr (1, [.int p1, .ref h_fo_roots, .ref h_fo_leftChildren, .ref h_fo_rightChildren, .ref h_fo_counts])), (h_fo_rightChildren, .inl (gI G, 10, .inl fo_rightChildren)), (h_fo_roots, .inl (gI G, 121, .inl o10))]) (c_J7_fill_53178 F l G 10 h_fo_leftChildren fo_leftChildren (-1) H.size o18 e18) hB km_J7_fill_53178 st_J7_fill_53178 ml_RX2_28 hP hD hS hl [1] [0, 2, 3] ⟨rfl, rfl, ⟨rfl, rfl⟩, by decide⟩ ⟨⟨Nat.le_of_ble_eq_true rfl, Nat.le_of_ble_eq_true rfl⟩, Nat.le_of_ble_eq_true rfl, Nat.le_of_ble_eq_true rfl, Nat.le_of_ble_eq_true rfl⟩ rfl dX2_reset_18 (fun z H locs hP hD hS => ?_)
  have hP : va_P (gD G) vwCl [(h_fo, .inr (1, [.int p1, .ref h_fo_roots, .ref h_fo_leftChildren, .ref h_fo_rightChildren, .ref h_fo_counts])), (h_fo_rightChildren, .inl (gI G, 10, .inl fo_rightChildren)), (h_fo_roots, .inl (gI G, 121, .inl o10)), (h_fo_leftChildren, .inl (gI G, 10, .inl o18))] H := hP
  have hD : va_D A [(h_fo, .inr (1, [.int p1, .ref h_fo_roots, .ref h_fo_leftChildren, .ref h_fo_rightChildren, .ref h_fo_counts])), (h_fo_rightChildren, .inl (gI G, 10, .inl fo_rightChildren)), (h_fo_roots, .inl (gI G, 121, .inl o10)), (h_fo_leftChildren, .inl (gI G, 10, .inl o18))] := hD
  refine lv_aload_n hx hb dX2_reset_21 rfl (lv_at hl 0 rfl) ?_
  refine va_get (D := gD G) (ci := 1) (v := .ref h_fo_rightChildren) (C := RX2) (T := TX2) (N := 5) hx hb hts lk_X2 hown hK hP 0 rfl rfl 3 (by decide) (hts _ fl_RX2_22) (fun _ h9 => h9) rfl dX2_reset_22 ?_
  refine lv_iconst (v := (-1)) hx hb dX2_reset_25 (by decide) ?_
  obtain ⟨o26, e26, h⟩ := bd h
  refine Cv.S (wr := [(h_fo, .inr (1, [.int p1, .ref h_fo_roots, .ref h_fo_leftChildren, .ref h_fo_rightChildren, .ref h_fo_counts])), (h_fo_roots, .inl (gI G, 121, .inl o10)), (h_fo_leftChildren, .inl (gI G, 10, .inl o18))]) (c_J7_fill_53178 F l G 10 h_fo_rightChildren fo_rightChildren (-1) H.size o26 e26) hB km_J7_fill_53178 st_J7_fill_53178 ml_RX2_28 hP hD hS hl [1] [0, 2, 3] ⟨rfl, rfl, ⟨rfl, rfl⟩, by decide⟩ ⟨⟨Nat.le_of_ble_eq_true rfl, Nat.le_of_ble_eq_true rfl⟩, Nat.le_of_ble_eq_true rfl, Nat.le_of_ble_eq_true rfl, Nat.le_of_ble_eq_true rfl⟩ rfl dX2_reset_26 (fun z H locs hP hD hS => ?_)
  have hP : va_P (gD G) vwCl [(h_fo, .inr (1, [.int p1, .ref h_fo_roots, .ref h_fo_leftChildren, .ref h_fo_rightChildren, .ref h_fo_counts])), (h_fo_roots, .inl (gI G, 121, .inl o10)), (h_fo_leftChildren, .inl (gI G, 10, .inl o18)), (h_fo_rightChildren, .inl (gI G, 10, .inl o26))] H := hP
  have hD : va_D A [(h_fo, .inr (1, [.int p1, .ref h_fo_roots, .ref h_fo_leftChildren, .ref h_fo_rightChildren, .ref h_fo_counts])), (h_fo_roots, .inl (gI G, 121, .inl o10)), (h_fo_leftChildren, .inl (gI G, 10, .inl o18)), (h_fo_rightChildren, .inl (gI G, 10, .inl o26))] := hD
  cases h
  exact hret (fun _ => 0) _ _ _ _ (hP.sub [0, 2, 3, 1] rfl) (hD.sub [0, 2, 3, 1] (by decide) rfl) hS dX2_reset_29
