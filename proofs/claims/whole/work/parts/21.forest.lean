def f_X7_spanIndex (F : Nat) (p0 : Int32) (p1 : Int32) : Option (Int32) := (some (((p0 * 11) + p1)))

abbrev rm_X7_spanIndex : Room := { frames := 0, cells := 0, slots := 0, locals := 0 }
theorem km_X7_spanIndex : KM yX7_spanIndex cX7_spanIndex 2 (some .int) 2 := ⟨co_X7_spanIndex, in_RX7, by decide +kernel⟩
set_option maxHeartbeats 4000000 in
set_option maxRecDepth 100000 in
theorem c_X7_spanIndex (F : Nat) (l : Launch) (G : GT)  (p0 : Int32) (p1 : Int32) (sz : Nat) (out : Int32) (h : f_X7_spanIndex F p0 p1 = some out) : Ci G l yX7_spanIndex cX7_spanIndex 2 (some .int) rm_X7_spanIndex [.int p0, .int p1] [] sz out (fun _ => []) := by
  refine Ci.start rfl (by decide) (Nat.le_of_ble_eq_true rfl) ?_
  intro p e s m args below meth c A Q ls hB hP hD hS hl hret
  obtain ⟨hx, hb, hmL, hr, hown, hts, hlocks, hnm, hA, hE⟩ := id hB
  obtain ⟨hK, hN, hV, hR, hZ, hZq⟩ := id hE
  have hown : s.vm.findClass RX7 = some m.cls := hown
  have hl : lv_has ls 2 [(0, .int p0), (1, .int p1)] := hl
  rw [f_X7_spanIndex] at h
  refine lv_iload_n hx hb dX7_spanIndex_0 rfl (lv_at hl 0 rfl) ?_
  refine lv_bipush (v := 11) hx hb dX7_spanIndex_1 (by decide) ?_
  refine lv_imul hx hb dX7_spanIndex_3 ?_
  refine lv_iload_n hx hb dX7_spanIndex_4 rfl (lv_at hl 1 rfl) ?_
  refine lv_iadd hx hb dX7_spanIndex_5 ?_
  cases h
  exact hret (fun _ => 0) _ _ _ _ hP hD hS rfl dX7_spanIndex_6
def f_X2_isIn (F : Nat) (p0 : Int32) (p1 : Int32) : Option (Int32) := (if ((p1 >>> (p0 &&& 31)) &&& 1) = 1 then (some (1)) else (some (0)))

abbrev rm_X2_isIn : Room := { frames := 0, cells := 0, slots := 0, locals := 0 }
theorem km_X2_isIn : KM yX2_isIn cX2_isIn 2 (some .boolean) 2 := ⟨co_X2_isIn, in_RX2, by decide +kernel⟩
set_option maxHeartbeats 4000000 in
set_option maxRecDepth 100000 in
theorem c_X2_isIn (F : Nat) (l : Launch) (G : GT)  (p0 : Int32) (p1 : Int32) (sz : Nat) (out : Int32) (h : f_X2_isIn F p0 p1 = some out) : Ci G l yX2_isIn cX2_isIn 2 (some .boolean) rm_X2_isIn [.int p0, .int p1] [] sz out (fun _ => []) := by
  refine Ci.start rfl (by decide) (Nat.le_of_ble_eq_true rfl) ?_
  intro p e s m args below meth c A Q ls hB hP hD hS hl hret
  obtain ⟨hx, hb, hmL, hr, hown, hts, hlocks, hnm, hA, hE⟩ := id hB
  obtain ⟨hK, hN, hV, hR, hZ, hZq⟩ := id hE
  have hown : s.vm.findClass RX2 = some m.cls := hown
  have hl : lv_has ls 2 [(0, .int p0), (1, .int p1)] := hl
  rw [f_X2_isIn] at h
  refine lv_iload_n hx hb dX2_isIn_0 rfl (lv_at hl 1 rfl) ?_
  refine lv_iload_n hx hb dX2_isIn_1 rfl (lv_at hl 0 rfl) ?_
  refine lv_ishr hx hb dX2_isIn_2 ?_
  refine lv_iconst (v := 1) hx hb dX2_isIn_3 (by decide) ?_
  refine lv_iand hx hb dX2_isIn_4 ?_
  refine lv_iconst (v := 1) hx hb dX2_isIn_5 (by decide) ?_
  refine lv_icmp_ne (tgt := 13) hx hb dX2_isIn_6 (by decide) (fun c6 => ?_) (fun c6 => ?_)
  · have h := ing c6 h
    refine lv_iconst (v := 0) hx hb dX2_isIn_13 (by decide) ?_
    cases h
    exact hret (fun _ => 0) _ _ _ _ hP hD hS rfl dX2_isIn_14
  · have h := ip c6 h
    refine lv_iconst (v := 1) hx hb dX2_isIn_9 (by decide) ?_
    refine lv_goto (tgt := 14) hx hb dX2_isIn_10 (by decide) ?_
    cases h
    exact hret (fun _ => 0) _ _ _ _ hP hD hS rfl dX2_isIn_14
def f_X2_treesOf_l23 (F : Nat) (v2 : Int32) (v3 : Int32) (v4 : Int32) (fo_counts : Nat → Int32) : Nat → Int32 → Int32 → (Int32 → Option (Int32)) → Option (Int32)
  | 0, _, _, _ => none
  | n + 1, v5, v6, X => (if v2 ≤ v6 then (X v5) else ((f_X2_isIn F v6 v3).bind fun o32 => (if o32 = 0 then (f_X2_treesOf_l23 F v2 v3 v4 fo_counts n v5 (v6 + 1) X) else (if vp_in (v4 + v6) 1210 then (f_X2_treesOf_l23 F v2 v3 v4 fo_counts n (v5 + (fo_counts ((v4 + v6)).toNatClampNeg)) (v6 + 1) X) else none))))

def f_X2_treesOf (F : Nat) (p1 : Int32) (p2 : Int32) (p3 : Int32) (fo_counts : Nat → Int32) : Option (Int32) := (if p1 < p2 then ((f_X7_spanIndex F p1 p2).bind fun o9 => (f_X2_treesOf_l23 F p2 p3 (o9 * 10) fo_counts F 0 p1 (fun v5 => (some (v5))))) else (some (1)))

abbrev rm_X2_treesOf : Room := { frames := 1, cells := 0, slots := 0, locals := 21 }
theorem km_X2_treesOf : KM yX2_treesOf cX2_treesOf 7 (some .int) 3 := ⟨co_X2_treesOf, in_RX2, by decide +kernel⟩
set_option maxHeartbeats 4000000 in
set_option maxRecDepth 100000 in
theorem c_X2_treesOf (F : Nat) (l : Launch) (G : GT) (h_fo h_fo_roots h_fo_leftChildren h_fo_rightChildren h_fo_counts : Nat) (fo_operators : Int32) (fo_counts : Nat → Int32) (p1 : Int32) (p2 : Int32) (p3 : Int32) (sz : Nat) (out : Int32) (h : f_X2_treesOf F p1 p2 p3 fo_counts = some out) : Ci G l yX2_treesOf cX2_treesOf 7 (some .int) rm_X2_treesOf [.ref h_fo, .int p1, .int p2, .int p3] [(h_fo, .inr (1, [.int fo_operators, .ref h_fo_roots, .ref h_fo_leftChildren, .ref h_fo_rightChildren, .ref h_fo_counts])), (h_fo_counts, .inl (gI G, 1210, .inl fo_counts))] sz out (fun _ => [(h_fo, .inr (1, [.int fo_operators, .ref h_fo_roots, .ref h_fo_leftChildren, .ref h_fo_rightChildren, .ref h_fo_counts])), (h_fo_counts, .inl (gI G, 1210, .inl fo_counts))]) := by
  refine Ci.start rfl (by decide) (Nat.le_of_ble_eq_true rfl) ?_
  intro p e s m args below meth c A Q ls hB hP hD hS hl hret
  obtain ⟨hx, hb, hmL, hr, hown, hts, hlocks, hnm, hA, hE⟩ := id hB
  obtain ⟨hK, hN, hV, hR, hZ, hZq⟩ := id hE
  have hown : s.vm.findClass RX2 = some m.cls := hown
  have hl : lv_has ls 7 [(0, .ref h_fo), (1, .int p1), (2, .int p2), (3, .int p3)] := hl
  rw [f_X2_treesOf] at h
  refine lv_iload_n hx hb dX2_treesOf_0 rfl (lv_at hl 1 rfl) ?_
  refine lv_iload_n hx hb dX2_treesOf_1 rfl (lv_at hl 2 rfl) ?_
  refine lv_icmp_lt (tgt := 7) hx hb dX2_treesOf_2 (by decide) (fun c2 => ?_) (fun c2 => ?_)
  · have h := ip c2 h
    refine lv_iload_n hx hb dX2_treesOf_7 rfl (lv_at hl 1 rfl) ?_
    refine lv_iload_n hx hb dX2_treesOf_8 rfl (lv_at hl 2 rfl) ?_
    obtain ⟨o9, e9, h⟩ := bd h
    refine Ci.SN (c_X7_spanIndex F l G p1 p2 H.size o9 e9) hB km_X7_spanIndex st_X7_spanIndex mn_RX2_68 hP hD hS hl [] [0, 1] ⟨rfl, rfl, ⟨rfl, rfl⟩, by decide⟩ ⟨⟨Nat.le_of_ble_eq_true rfl, Nat.le_of_ble_eq_true rfl⟩, Nat.le_of_ble_eq_true rfl, Nat.le_of_ble_eq_true rfl, Nat.le_of_ble_eq_true rfl⟩ rfl dX2_treesOf_9 (fun z H locs hP hD hS => ?_)
    have hP : va_P (gD G) vwCl [(h_fo, .inr (1, [.int fo_operators, .ref h_fo_roots, .ref h_fo_leftChildren, .ref h_fo_rightChildren, .ref h_fo_counts])), (h_fo_counts, .inl (gI G, 1210, .inl fo_counts))] H := hP
    have hD : va_D A [(h_fo, .inr (1, [.int fo_operators, .ref h_fo_roots, .ref h_fo_leftChildren, .ref h_fo_rightChildren, .ref h_fo_counts])), (h_fo_counts, .inl (gI G, 1210, .inl fo_counts))] := hD
    refine lv_bipush (v := 10) hx hb dX2_treesOf_12 (by decide) ?_
    refine lv_imul hx hb dX2_treesOf_14 ?_
    refine lv_istore (lv' := [(4, .int (o9 * 10)), (0, .ref h_fo), (1, .int p1), (2, .int p2), (3, .int p3)]) hx hb dX2_treesOf_15 hl (by decide) rfl (fun ls hl => ?_)
    refine lv_iconst (v := 0) hx hb dX2_treesOf_17 (by decide) ?_
    refine lv_istore (lv' := [(5, .int 0), (4, .int (o9 * 10)), (0, .ref h_fo), (1, .int p1), (2, .int p2), (3, .int p3)]) hx hb dX2_treesOf_18 hl (by decide) rfl (fun ls hl => ?_)
    refine lv_iload_n hx hb dX2_treesOf_20 rfl (lv_at hl 3 rfl) ?_
    refine lv_istore (lv' := [(6, .int p1), (5, .int 0), (4, .int (o9 * 10)), (0, .ref h_fo), (1, .int p1), (2, .int p2), (3, .int p3)]) hx hb dX2_treesOf_21 hl (by decide) rfl (fun ls hl => ?_)
    have Lp23 : ∀ (n : Nat) (v2 : Int32) (v3 : Int32) (v4 : Int32) (v5 : Int32) (v6 : Int32) (X : Int32 → Option (Int32)) (H : Heap) (locs : List Loc) (ls : Array Slot), va_P (gD G) vwCl [(h_fo, .inr (1, [.int fo_operators, .ref h_fo_roots, .ref h_fo_leftChildren, .ref h_fo_rightChildren, .ref h_fo_counts])), (h_fo_counts, .inl (gI G, 1210, .inl fo_counts))] H → va_D A [(h_fo, .inr (1, [.int fo_operators, .ref h_fo_roots, .ref h_fo_leftChildren, .ref h_fo_rightChildren, .ref h_fo_counts])), (h_fo_counts, .inl (gI G, 1210, .inl fo_counts))] → va_S A s.heap H locs → lv_has ls 7 [(0, .ref h_fo), (2, .int v2), (3, .int v3), (4, .int v4), (5, .int v5), (6, .int v6)] → f_X2_treesOf_l23 F v2 v3 v4 fo_counts n v5 v6 X = some out → (∀ (v5 : Int32) (H : Heap) (locs : List Loc) (ls : Array Slot), va_P (gD G) vwCl [(h_fo, .inr (1, [.int fo_operators, .ref h_fo_roots, .ref h_fo_leftChildren, .ref h_fo_rightChildren, .ref h_fo_counts])), (h_fo_counts, .inl (gI G, 1210, .inl fo_counts))] H → va_D A [(h_fo, .inr (1, [.int fo_operators, .ref h_fo_roots, .ref h_fo_leftChildren, .ref h_fo_rightChildren, .ref h_fo_counts])), (h_fo_counts, .inl (gI G, 1210, .inl fo_counts))] → va_S A s.heap H locs → lv_has ls 7 [(5, .int v5)] → X v5 = some out → W p l e rm_X2_treesOf s m args below meth c H locs 0 0 Q (F0 m 59 ls [])) → W p l e rm_X2_treesOf s m args below meth c H locs 0 0 Q (F0 m 23 ls []) := by
      intro n
      induction n with
      | zero => intro v2 v3 v4 v5 v6 X H locs ls hP hD hS hl h HX; rw [f_X2_treesOf_l23] at h; cases h
      | succ n ih =>
          intro v2 v3 v4 v5 v6 X H locs ls hP hD hS hl h HX
          rw [f_X2_treesOf_l23] at h
          refine lv_iload hx hb dX2_treesOf_23 (lv_at hl 5 rfl) ?_
          refine lv_iload_n hx hb dX2_treesOf_25 rfl (lv_at hl 1 rfl) ?_
          refine lv_icmp_ge (tgt := 59) hx hb dX2_treesOf_26 (by decide) (fun c26 => ?_) (fun c26 => ?_)
          · have h := ip c26 h
            exact HX v5 H locs ls hP hD hS (lv_sub hl [4] rfl) h
          · have h := ing c26 h
            refine lv_iload hx hb dX2_treesOf_29 (lv_at hl 5 rfl) ?_
            refine lv_iload_n hx hb dX2_treesOf_31 rfl (lv_at hl 2 rfl) ?_
            obtain ⟨o32, e32, h⟩ := bd h
            refine Ci.S (c_X2_isIn F l G v6 v3 H.size o32 e32) hB km_X2_isIn st_X2_isIn ml_RX2_72 hP hD hS hl [] [0, 1] ⟨rfl, rfl, ⟨rfl, rfl⟩, by decide⟩ ⟨⟨Nat.le_of_ble_eq_true rfl, Nat.le_of_ble_eq_true rfl⟩, Nat.le_of_ble_eq_true rfl, Nat.le_of_ble_eq_true rfl, Nat.le_of_ble_eq_true rfl⟩ rfl dX2_treesOf_32 (fun z H locs hP hD hS => ?_)
            have hP : va_P (gD G) vwCl [(h_fo, .inr (1, [.int fo_operators, .ref h_fo_roots, .ref h_fo_leftChildren, .ref h_fo_rightChildren, .ref h_fo_counts])), (h_fo_counts, .inl (gI G, 1210, .inl fo_counts))] H := hP
            have hD : va_D A [(h_fo, .inr (1, [.int fo_operators, .ref h_fo_roots, .ref h_fo_leftChildren, .ref h_fo_rightChildren, .ref h_fo_counts])), (h_fo_counts, .inl (gI G, 1210, .inl fo_counts))] := hD
            refine lv_if_eq (tgt := 53) hx hb dX2_treesOf_35 (by decide) (fun c35 => ?_) (fun c35 => ?_)
            · have h := ip c35 h
              refine lv_iinc (v := (v6 + 1)) (lv' := [(6, .int (v6 + 1)), (0, .ref h_fo), (2, .int v2), (3, .int v3), (4, .int v4), (5, .int v5)]) hx hb dX2_treesOf_53 hl (k := 5) rfl rfl (by decide) rfl (fun ls hl => ?_)
              refine lv_goto (tgt := 23) hx hb dX2_treesOf_56 (by decide) ?_
              exact ih v2 v3 v4 v5 (v6 + 1) X H locs ls hP hD hS (lv_sub hl [1, 2, 3, 4, 5, 0] rfl) h HX
            · have h := ing c35 h
              refine lv_iload hx hb dX2_treesOf_38 (lv_at hl 4 rfl) ?_
              refine lv_aload_n hx hb dX2_treesOf_40 rfl (lv_at hl 0 rfl) ?_
              refine va_get (D := gD G) (ci := 1) (v := .ref h_fo_counts) (C := RX2) (T := TX2) (N := 5) hx hb hts lk_X2 hown hK hP 0 rfl rfl 4 (by decide) (hts _ fl_RX2_25) (fun _ h9 => h9) rfl dX2_treesOf_41 ?_
              refine lv_iload hx hb dX2_treesOf_44 (lv_at hl 3 rfl) ?_
              refine lv_iload hx hb dX2_treesOf_46 (lv_at hl 5 rfl) ?_
              refine lv_iadd hx hb dX2_treesOf_48 ?_
              obtain ⟨g49, h⟩ := gd h
              refine va_iald hx hb hK hP 1 1 rfl rfl g49 dX2_treesOf_49 ?_
              refine lv_iadd hx hb dX2_treesOf_50 ?_
              refine lv_istore (lv' := [(5, .int (v5 + (fo_counts ((v4 + v6)).toNatClampNeg))), (0, .ref h_fo), (2, .int v2), (3, .int v3), (4, .int v4), (6, .int v6)]) hx hb dX2_treesOf_51 hl (by decide) rfl (fun ls hl => ?_)
              refine lv_iinc (v := (v6 + 1)) (lv' := [(6, .int (v6 + 1)), (5, .int (v5 + (fo_counts ((v4 + v6)).toNatClampNeg))), (0, .ref h_fo), (2, .int v2), (3, .int v3), (4, .int v4)]) hx hb dX2_treesOf_53 hl (k := 5) rfl rfl (by decide) rfl (fun ls hl => ?_)
              refine lv_goto (tgt := 23) hx hb dX2_treesOf_56 (by decide) ?_
              exact ih v2 v3 v4 (v5 + (fo_counts ((v4 + v6)).toNatClampNeg)) (v6 + 1) X H locs ls hP hD hS (lv_sub hl [2, 3, 4, 5, 1, 0] rfl) h HX
    refine Lp23 F p2 p3 (o9 * 10) 0 p1 _ H locs ls hP hD hS (lv_sub hl [3, 5, 6, 2, 1, 0] rfl) h (fun v5 H locs ls hP hD hS hl h => ?_)
    refine lv_iload hx hb dX2_treesOf_59 (lv_at hl 0 rfl) ?_
    cases h
    exact hret (fun _ => 0) _ _ _ _ hP hD hS rfl dX2_treesOf_61
  · have h := ing c2 h
    refine lv_iconst (v := 1) hx hb dX2_treesOf_5 (by decide) ?_
    cases h
    exact hret (fun _ => 0) _ _ _ _ hP hD hS rfl dX2_treesOf_6
def f_X2_derivationsOf (F : Nat) (p1 : Int32) (p2 : Int32) (p3 : Int32) (p4 : Int32) (fo_counts : Nat → Int32) : Option (Int32) := ((f_X2_isIn F p3 p4).bind fun o3 => (if o3 = 0 then (some (0)) else ((f_X7_spanIndex F p1 p2).bind fun o15 => (if vp_in ((o15 * 10) + p3) 1210 then (some ((fo_counts (((o15 * 10) + p3)).toNatClampNeg))) else none))))

abbrev rm_X2_derivationsOf : Room := { frames := 1, cells := 0, slots := 0, locals := 21 }
theorem km_X2_derivationsOf : KM yX2_derivationsOf cX2_derivationsOf 5 (some .int) 4 := ⟨co_X2_derivationsOf, in_RX2, by decide +kernel⟩
set_option maxHeartbeats 4000000 in
set_option maxRecDepth 100000 in
theorem c_X2_derivationsOf (F : Nat) (l : Launch) (G : GT) (h_fo h_fo_roots h_fo_leftChildren h_fo_rightChildren h_fo_counts : Nat) (fo_operators : Int32) (fo_counts : Nat → Int32) (p1 : Int32) (p2 : Int32) (p3 : Int32) (p4 : Int32) (sz : Nat) (out : Int32) (h : f_X2_derivationsOf F p1 p2 p3 p4 fo_counts = some out) : Ci G l yX2_derivationsOf cX2_derivationsOf 5 (some .int) rm_X2_derivationsOf [.ref h_fo, .int p1, .int p2, .int p3, .int p4] [(h_fo, .inr (1, [.int fo_operators, .ref h_fo_roots, .ref h_fo_leftChildren, .ref h_fo_rightChildren, .ref h_fo_counts])), (h_fo_counts, .inl (gI G, 1210, .inl fo_counts))] sz out (fun _ => [(h_fo, .inr (1, [.int fo_operators, .ref h_fo_roots, .ref h_fo_leftChildren, .ref h_fo_rightChildren, .ref h_fo_counts])), (h_fo_counts, .inl (gI G, 1210, .inl fo_counts))]) := by
  refine Ci.start rfl (by decide) (Nat.le_of_ble_eq_true rfl) ?_
  intro p e s m args below meth c A Q ls hB hP hD hS hl hret
  obtain ⟨hx, hb, hmL, hr, hown, hts, hlocks, hnm, hA, hE⟩ := id hB
  obtain ⟨hK, hN, hV, hR, hZ, hZq⟩ := id hE
  have hown : s.vm.findClass RX2 = some m.cls := hown
  have hl : lv_has ls 5 [(0, .ref h_fo), (1, .int p1), (2, .int p2), (3, .int p3), (4, .int p4)] := hl
  rw [f_X2_derivationsOf] at h
  refine lv_iload_n hx hb dX2_derivationsOf_0 rfl (lv_at hl 3 rfl) ?_
  refine lv_iload hx hb dX2_derivationsOf_1 (lv_at hl 4 rfl) ?_
  obtain ⟨o3, e3, h⟩ := bd h
  refine Ci.S (c_X2_isIn F l G p3 p4 H.size o3 e3) hB km_X2_isIn st_X2_isIn ml_RX2_72 hP hD hS hl [] [0, 1] ⟨rfl, rfl, ⟨rfl, rfl⟩, by decide⟩ ⟨⟨Nat.le_of_ble_eq_true rfl, Nat.le_of_ble_eq_true rfl⟩, Nat.le_of_ble_eq_true rfl, Nat.le_of_ble_eq_true rfl, Nat.le_of_ble_eq_true rfl⟩ rfl dX2_derivationsOf_3 (fun z H locs hP hD hS => ?_)
  have hP : va_P (gD G) vwCl [(h_fo, .inr (1, [.int fo_operators, .ref h_fo_roots, .ref h_fo_leftChildren, .ref h_fo_rightChildren, .ref h_fo_counts])), (h_fo_counts, .inl (gI G, 1210, .inl fo_counts))] H := hP
  have hD : va_D A [(h_fo, .inr (1, [.int fo_operators, .ref h_fo_roots, .ref h_fo_leftChildren, .ref h_fo_rightChildren, .ref h_fo_counts])), (h_fo_counts, .inl (gI G, 1210, .inl fo_counts))] := hD
  refine lv_if_eq (tgt := 27) hx hb dX2_derivationsOf_6 (by decide) (fun c6 => ?_) (fun c6 => ?_)
  · have h := ip c6 h
    refine lv_iconst (v := 0) hx hb dX2_derivationsOf_27 (by decide) ?_
    cases h
    exact hret (fun _ => 0) _ _ _ _ hP hD hS rfl dX2_derivationsOf_28
  · have h := ing c6 h
    refine lv_aload_n hx hb dX2_derivationsOf_9 rfl (lv_at hl 0 rfl) ?_
    refine va_get (D := gD G) (ci := 1) (v := .ref h_fo_counts) (C := RX2) (T := TX2) (N := 5) hx hb hts lk_X2 hown hK hP 0 rfl rfl 4 (by decide) (hts _ fl_RX2_25) (fun _ h9 => h9) rfl dX2_derivationsOf_10 ?_
    refine lv_iload_n hx hb dX2_derivationsOf_13 rfl (lv_at hl 1 rfl) ?_
    refine lv_iload_n hx hb dX2_derivationsOf_14 rfl (lv_at hl 2 rfl) ?_
    obtain ⟨o15, e15, h⟩ := bd h
    refine Ci.SN (c_X7_spanIndex F l G p1 p2 H.size o15 e15) hB km_X7_spanIndex st_X7_spanIndex mn_RX2_68 hP hD hS hl [] [0, 1] ⟨rfl, rfl, ⟨rfl, rfl⟩, by decide⟩ ⟨⟨Nat.le_of_ble_eq_true rfl, Nat.le_of_ble_eq_true rfl⟩, Nat.le_of_ble_eq_true rfl, Nat.le_of_ble_eq_true rfl, Nat.le_of_ble_eq_true rfl⟩ rfl dX2_derivationsOf_15 (fun z H locs hP hD hS => ?_)
    have hP : va_P (gD G) vwCl [(h_fo, .inr (1, [.int fo_operators, .ref h_fo_roots, .ref h_fo_leftChildren, .ref h_fo_rightChildren, .ref h_fo_counts])), (h_fo_counts, .inl (gI G, 1210, .inl fo_counts))] H := hP
    have hD : va_D A [(h_fo, .inr (1, [.int fo_operators, .ref h_fo_roots, .ref h_fo_leftChildren, .ref h_fo_rightChildren, .ref h_fo_counts])), (h_fo_counts, .inl (gI G, 1210, .inl fo_counts))] := hD
    refine lv_bipush (v := 10) hx hb dX2_derivationsOf_18 (by decide) ?_
    refine lv_imul hx hb dX2_derivationsOf_20 ?_
    refine lv_iload_n hx hb dX2_derivationsOf_21 rfl (lv_at hl 3 rfl) ?_
    refine lv_iadd hx hb dX2_derivationsOf_22 ?_
    obtain ⟨g23, h⟩ := gd h
    refine va_iald hx hb hK hP 1 1 rfl rfl g23 dX2_derivationsOf_23 ?_
    refine lv_goto (tgt := 28) hx hb dX2_derivationsOf_24 (by decide) ?_
    cases h
    exact hret (fun _ => 0) _ _ _ _ hP hD hS rfl dX2_derivationsOf_28
def f_X2_allowsRoot (F : Nat) (p1 : Int32) (p2 : Int32) (p3 : Int32) (fo_roots : Nat → Int32) : Option (Int32) := ((f_X7_spanIndex F p1 p2).bind fun o7 => (if vp_in o7 121 then ((f_X2_isIn F p3 (fo_roots (o7).toNatClampNeg)).bind fun o11 => (if (o11 = 0 ∨ o11 = 1) then some (o11) else none)) else none))

abbrev rm_X2_allowsRoot : Room := { frames := 1, cells := 0, slots := 0, locals := 21 }
theorem km_X2_allowsRoot : KM yX2_allowsRoot cX2_allowsRoot 4 (some .boolean) 3 := ⟨co_X2_allowsRoot, in_RX2, by decide +kernel⟩
set_option maxHeartbeats 4000000 in
set_option maxRecDepth 100000 in
theorem c_X2_allowsRoot (F : Nat) (l : Launch) (G : GT) (h_fo h_fo_roots h_fo_leftChildren h_fo_rightChildren h_fo_counts : Nat) (fo_operators : Int32) (fo_roots : Nat → Int32) (p1 : Int32) (p2 : Int32) (p3 : Int32) (sz : Nat) (out : Int32) (h : f_X2_allowsRoot F p1 p2 p3 fo_roots = some out) : Ci G l yX2_allowsRoot cX2_allowsRoot 4 (some .boolean) rm_X2_allowsRoot [.ref h_fo, .int p1, .int p2, .int p3] [(h_fo, .inr (1, [.int fo_operators, .ref h_fo_roots, .ref h_fo_leftChildren, .ref h_fo_rightChildren, .ref h_fo_counts])), (h_fo_roots, .inl (gI G, 121, .inl fo_roots))] sz out (fun _ => [(h_fo, .inr (1, [.int fo_operators, .ref h_fo_roots, .ref h_fo_leftChildren, .ref h_fo_rightChildren, .ref h_fo_counts])), (h_fo_roots, .inl (gI G, 121, .inl fo_roots))]) := by
  refine Ci.start rfl (by decide) (Nat.le_of_ble_eq_true rfl) ?_
  intro p e s m args below meth c A Q ls hB hP hD hS hl hret
  obtain ⟨hx, hb, hmL, hr, hown, hts, hlocks, hnm, hA, hE⟩ := id hB
  obtain ⟨hK, hN, hV, hR, hZ, hZq⟩ := id hE
  have hown : s.vm.findClass RX2 = some m.cls := hown
  have hl : lv_has ls 4 [(0, .ref h_fo), (1, .int p1), (2, .int p2), (3, .int p3)] := hl
  rw [f_X2_allowsRoot] at h
  refine lv_iload_n hx hb dX2_allowsRoot_0 rfl (lv_at hl 3 rfl) ?_
  refine lv_aload_n hx hb dX2_allowsRoot_1 rfl (lv_at hl 0 rfl) ?_
  refine va_get (D := gD G) (ci := 1) (v := .ref h_fo_roots) (C := RX2) (T := TX2) (N := 5) hx hb hts lk_X2 hown hK hP 0 rfl rfl 1 (by decide) (hts _ fl_RX2_15) (fun _ h9 => h9) rfl dX2_allowsRoot_2 ?_
  refine lv_iload_n hx hb dX2_allowsRoot_5 rfl (lv_at hl 1 rfl) ?_
  refine lv_iload_n hx hb dX2_allowsRoot_6 rfl (lv_at hl 2 rfl) ?_
  obtain ⟨o7, e7, h⟩ := bd h
  refine Ci.SN (c_X7_spanIndex F l G p1 p2 H.size o7 e7) hB km_X7_spanIndex st_X7_spanIndex mn_RX2_68 hP hD hS hl [] [0, 1] ⟨rfl, rfl, ⟨rfl, rfl⟩, by decide⟩ ⟨⟨Nat.le_of_ble_eq_true rfl, Nat.le_of_ble_eq_true rfl⟩, Nat.le_of_ble_eq_true rfl, Nat.le_of_ble_eq_true rfl, Nat.le_of_ble_eq_true rfl⟩ rfl dX2_allowsRoot_7 (fun z H locs hP hD hS => ?_)
  have hP : va_P (gD G) vwCl [(h_fo, .inr (1, [.int fo_operators, .ref h_fo_roots, .ref h_fo_leftChildren, .ref h_fo_rightChildren, .ref h_fo_counts])), (h_fo_roots, .inl (gI G, 121, .inl fo_roots))] H := hP
  have hD : va_D A [(h_fo, .inr (1, [.int fo_operators, .ref h_fo_roots, .ref h_fo_leftChildren, .ref h_fo_rightChildren, .ref h_fo_counts])), (h_fo_roots, .inl (gI G, 121, .inl fo_roots))] := hD
  obtain ⟨g10, h⟩ := gd h
  refine va_iald hx hb hK hP 1 1 rfl rfl g10 dX2_allowsRoot_10 ?_
  obtain ⟨o11, e11, h⟩ := bd h
  refine Ci.S (c_X2_isIn F l G p3 (fo_roots (o7).toNatClampNeg) H.size o11 e11) hB km_X2_isIn st_X2_isIn ml_RX2_72 hP hD hS hl [] [0, 1] ⟨rfl, rfl, ⟨rfl, rfl⟩, by decide⟩ ⟨⟨Nat.le_of_ble_eq_true rfl, Nat.le_of_ble_eq_true rfl⟩, Nat.le_of_ble_eq_true rfl, Nat.le_of_ble_eq_true rfl, Nat.le_of_ble_eq_true rfl⟩ rfl dX2_allowsRoot_11 (fun z H locs hP hD hS => ?_)
  have hP : va_P (gD G) vwCl [(h_fo, .inr (1, [.int fo_operators, .ref h_fo_roots, .ref h_fo_leftChildren, .ref h_fo_rightChildren, .ref h_fo_counts])), (h_fo_roots, .inl (gI G, 121, .inl fo_roots))] H := hP
  have hD : va_D A [(h_fo, .inr (1, [.int fo_operators, .ref h_fo_roots, .ref h_fo_leftChildren, .ref h_fo_rightChildren, .ref h_fo_counts])), (h_fo_roots, .inl (gI G, 121, .inl fo_roots))] := hD
  obtain ⟨gz, h⟩ := gd h
  cases h
  exact hret (fun _ => 0) _ _ _ _ hP hD hS (nz gz) dX2_allowsRoot_14
def f_X2_countSpan_l9 (F : Nat) (v1 : Int32) (v2 : Int32) (v3 : Int32) (fo_leftChildren : Nat → Int32) (fo_rightChildren : Nat → Int32) (fo_roots : Nat → Int32) : Nat → Int32 → (Nat → Int32) → ((Nat → Int32) → Option ((Nat → Int32))) → Option ((Nat → Int32))
  | 0, _, _, _ => none
  | n + 1, v4, fo_counts, X => (if v2 ≤ v4 then (X fo_counts) else (if vp_in v3 121 then ((f_X2_isIn F v4 (fo_roots (v3).toNatClampNeg)).bind fun o26 => (if o26 = 0 then (if vp_in ((v3 * 10) + v4) 1210 then (f_X2_countSpan_l9 F v1 v2 v3 fo_leftChildren fo_rightChildren fo_roots n (v4 + 1) (upd fo_counts (((v3 * 10) + v4)).toNatClampNeg 0) X) else none) else (if vp_in v4 10 then ((f_X2_treesOf F v1 v4 (fo_leftChildren (v4).toNatClampNeg) fo_counts).bind fun o43 => (if vp_in v4 10 then ((f_X2_treesOf F (v4 + 1) v2 (fo_rightChildren (v4).toNatClampNeg) fo_counts).bind fun o59 => (if vp_in ((v3 * 10) + v4) 1210 then (f_X2_countSpan_l9 F v1 v2 v3 fo_leftChildren fo_rightChildren fo_roots n (v4 + 1) (upd fo_counts (((v3 * 10) + v4)).toNatClampNeg (o43 * o59)) X) else none)) else none)) else none))) else none))

def f_X2_countSpan (F : Nat) (p1 : Int32) (p2 : Int32) (fo_counts : Nat → Int32) (fo_leftChildren : Nat → Int32) (fo_rightChildren : Nat → Int32) (fo_roots : Nat → Int32) : Option ((Nat → Int32)) := ((f_X7_spanIndex F p1 p2).bind fun o2 => (f_X2_countSpan_l9 F p1 p2 o2 fo_leftChildren fo_rightChildren fo_roots F p1 fo_counts (fun fo_counts => (some (fo_counts)))))

abbrev rm_X2_countSpan : Room := { frames := 2, cells := 0, slots := 0, locals := 47 }
theorem km_X2_countSpan : KM yX2_countSpan cX2_countSpan 6 none 2 := ⟨co_X2_countSpan, in_RX2, by decide +kernel⟩
set_option maxHeartbeats 4000000 in
set_option maxRecDepth 100000 in
theorem c_X2_countSpan (F : Nat) (l : Launch) (G : GT) (h_fo h_fo_roots h_fo_leftChildren h_fo_rightChildren h_fo_counts : Nat) (fo_operators : Int32) (fo_counts : Nat → Int32) (fo_leftChildren : Nat → Int32) (fo_rightChildren : Nat → Int32) (fo_roots : Nat → Int32) (p1 : Int32) (p2 : Int32) (sz : Nat) (out : (Nat → Int32)) (h : f_X2_countSpan F p1 p2 fo_counts fo_leftChildren fo_rightChildren fo_roots = some out) : Cv G l yX2_countSpan cX2_countSpan 6 none rm_X2_countSpan [.ref h_fo, .int p1, .int p2] [(h_fo, .inr (1, [.int fo_operators, .ref h_fo_roots, .ref h_fo_leftChildren, .ref h_fo_rightChildren, .ref h_fo_counts])), (h_fo_counts, .inl (gI G, 1210, .inl fo_counts)), (h_fo_leftChildren, .inl (gI G, 10, .inl fo_leftChildren)), (h_fo_rightChildren, .inl (gI G, 10, .inl fo_rightChildren)), (h_fo_roots, .inl (gI G, 121, .inl fo_roots))] sz (fun _ => [(h_fo, .inr (1, [.int fo_operators, .ref h_fo_roots, .ref h_fo_leftChildren, .ref h_fo_rightChildren, .ref h_fo_counts])), (h_fo_counts, .inl (gI G, 1210, .inl out)), (h_fo_leftChildren, .inl (gI G, 10, .inl fo_leftChildren)), (h_fo_rightChildren, .inl (gI G, 10, .inl fo_rightChildren)), (h_fo_roots, .inl (gI G, 121, .inl fo_roots))]) := by
  refine Cv.start (by decide) (Nat.le_of_ble_eq_true rfl) ?_
  intro p e s m args below meth c A Q ls hB hP hD hS hl hret
  obtain ⟨hx, hb, hmL, hr, hown, hts, hlocks, hnm, hA, hE⟩ := id hB
  obtain ⟨hK, hN, hV, hR, hZ, hZq⟩ := id hE
  have hown : s.vm.findClass RX2 = some m.cls := hown
  have hl : lv_has ls 6 [(0, .ref h_fo), (1, .int p1), (2, .int p2)] := hl
  rw [f_X2_countSpan] at h
  refine lv_iload_n hx hb dX2_countSpan_0 rfl (lv_at hl 1 rfl) ?_
  refine lv_iload_n hx hb dX2_countSpan_1 rfl (lv_at hl 2 rfl) ?_
  obtain ⟨o2, e2, h⟩ := bd h
  refine Ci.SN (c_X7_spanIndex F l G p1 p2 H.size o2 e2) hB km_X7_spanIndex st_X7_spanIndex mn_RX2_68 hP hD hS hl [] [0, 1, 2, 3, 4] ⟨rfl, rfl, ⟨rfl, rfl⟩, by decide⟩ ⟨⟨Nat.le_of_ble_eq_true rfl, Nat.le_of_ble_eq_true rfl⟩, Nat.le_of_ble_eq_true rfl, Nat.le_of_ble_eq_true rfl, Nat.le_of_ble_eq_true rfl⟩ rfl dX2_countSpan_2 (fun z H locs hP hD hS => ?_)
  have hP : va_P (gD G) vwCl [(h_fo, .inr (1, [.int fo_operators, .ref h_fo_roots, .ref h_fo_leftChildren, .ref h_fo_rightChildren, .ref h_fo_counts])), (h_fo_counts, .inl (gI G, 1210, .inl fo_counts)), (h_fo_leftChildren, .inl (gI G, 10, .inl fo_leftChildren)), (h_fo_rightChildren, .inl (gI G, 10, .inl fo_rightChildren)), (h_fo_roots, .inl (gI G, 121, .inl fo_roots))] H := hP
  have hD : va_D A [(h_fo, .inr (1, [.int fo_operators, .ref h_fo_roots, .ref h_fo_leftChildren, .ref h_fo_rightChildren, .ref h_fo_counts])), (h_fo_counts, .inl (gI G, 1210, .inl fo_counts)), (h_fo_leftChildren, .inl (gI G, 10, .inl fo_leftChildren)), (h_fo_rightChildren, .inl (gI G, 10, .inl fo_rightChildren)), (h_fo_roots, .inl (gI G, 121, .inl fo_roots))] := hD
  refine lv_istore_n (lv' := [(3, .int o2), (0, .ref h_fo), (1, .int p1), (2, .int p2)]) hx hb dX2_countSpan_5 rfl hl (by decide) rfl (fun ls hl => ?_)
  refine lv_iload_n hx hb dX2_countSpan_6 rfl (lv_at hl 2 rfl) ?_
  refine lv_istore (lv' := [(4, .int p1), (3, .int o2), (0, .ref h_fo), (1, .int p1), (2, .int p2)]) hx hb dX2_countSpan_7 hl (by decide) rfl (fun ls hl => ?_)
  have Lp9 : ∀ (n : Nat) (v1 : Int32) (v2 : Int32) (v3 : Int32) (v4 : Int32) (fo_counts : Nat → Int32) (X : (Nat → Int32) → Option ((Nat → Int32))) (H : Heap) (locs : List Loc) (ls : Array Slot), va_P (gD G) vwCl [(h_fo, .inr (1, [.int fo_operators, .ref h_fo_roots, .ref h_fo_leftChildren, .ref h_fo_rightChildren, .ref h_fo_counts])), (h_fo_counts, .inl (gI G, 1210, .inl fo_counts)), (h_fo_leftChildren, .inl (gI G, 10, .inl fo_leftChildren)), (h_fo_rightChildren, .inl (gI G, 10, .inl fo_rightChildren)), (h_fo_roots, .inl (gI G, 121, .inl fo_roots))] H → va_D A [(h_fo, .inr (1, [.int fo_operators, .ref h_fo_roots, .ref h_fo_leftChildren, .ref h_fo_rightChildren, .ref h_fo_counts])), (h_fo_counts, .inl (gI G, 1210, .inl fo_counts)), (h_fo_leftChildren, .inl (gI G, 10, .inl fo_leftChildren)), (h_fo_rightChildren, .inl (gI G, 10, .inl fo_rightChildren)), (h_fo_roots, .inl (gI G, 121, .inl fo_roots))] → va_S A s.heap H locs → lv_has ls 6 [(0, .ref h_fo), (1, .int v1), (2, .int v2), (3, .int v3), (4, .int v4)] → f_X2_countSpan_l9 F v1 v2 v3 fo_leftChildren fo_rightChildren fo_roots n v4 fo_counts X = some out → (∀ (fo_counts : Nat → Int32) (H : Heap) (locs : List Loc) (ls : Array Slot), va_P (gD G) vwCl [(h_fo, .inr (1, [.int fo_operators, .ref h_fo_roots, .ref h_fo_leftChildren, .ref h_fo_rightChildren, .ref h_fo_counts])), (h_fo_counts, .inl (gI G, 1210, .inl fo_counts)), (h_fo_leftChildren, .inl (gI G, 10, .inl fo_leftChildren)), (h_fo_rightChildren, .inl (gI G, 10, .inl fo_rightChildren)), (h_fo_roots, .inl (gI G, 121, .inl fo_roots))] H → va_D A [(h_fo, .inr (1, [.int fo_operators, .ref h_fo_roots, .ref h_fo_leftChildren, .ref h_fo_rightChildren, .ref h_fo_counts])), (h_fo_counts, .inl (gI G, 1210, .inl fo_counts)), (h_fo_leftChildren, .inl (gI G, 10, .inl fo_leftChildren)), (h_fo_rightChildren, .inl (gI G, 10, .inl fo_rightChildren)), (h_fo_roots, .inl (gI G, 121, .inl fo_roots))] → va_S A s.heap H locs → lv_has ls 6 [] → X fo_counts = some out → W p l e rm_X2_countSpan s m args below meth c H locs 0 0 Q (F0 m 85 ls [])) → W p l e rm_X2_countSpan s m args below meth c H locs 0 0 Q (F0 m 9 ls []) := by
    intro n
    induction n with
    | zero => intro v1 v2 v3 v4 fo_counts X H locs ls hP hD hS hl h HX; rw [f_X2_countSpan_l9] at h; cases h
    | succ n ih =>
        intro v1 v2 v3 v4 fo_counts X H locs ls hP hD hS hl h HX
        rw [f_X2_countSpan_l9] at h
        refine lv_iload hx hb dX2_countSpan_9 (lv_at hl 4 rfl) ?_
        refine lv_iload_n hx hb dX2_countSpan_11 rfl (lv_at hl 2 rfl) ?_
        refine lv_icmp_ge (tgt := 85) hx hb dX2_countSpan_12 (by decide) (fun c12 => ?_) (fun c12 => ?_)
        · have h := ip c12 h
          exact HX fo_counts H locs ls hP hD hS (lv_sub hl [] rfl) h
        · have h := ing c12 h
          refine lv_iconst (v := 0) hx hb dX2_countSpan_15 (by decide) ?_
          refine lv_istore (lv' := [(5, .int 0), (0, .ref h_fo), (1, .int v1), (2, .int v2), (3, .int v3), (4, .int v4)]) hx hb dX2_countSpan_16 hl (by decide) rfl (fun ls hl => ?_)
          refine lv_iload hx hb dX2_countSpan_18 (lv_at hl 5 rfl) ?_
          refine lv_aload_n hx hb dX2_countSpan_20 rfl (lv_at hl 1 rfl) ?_
          refine va_get (D := gD G) (ci := 1) (v := .ref h_fo_roots) (C := RX2) (T := TX2) (N := 5) hx hb hts lk_X2 hown hK hP 0 rfl rfl 1 (by decide) (hts _ fl_RX2_15) (fun _ h9 => h9) rfl dX2_countSpan_21 ?_
          refine lv_iload_n hx hb dX2_countSpan_24 rfl (lv_at hl 4 rfl) ?_
          obtain ⟨g25, h⟩ := gd h
          refine va_iald hx hb hK hP 4 1 rfl rfl g25 dX2_countSpan_25 ?_
          obtain ⟨o26, e26, h⟩ := bd h
          refine Ci.S (c_X2_isIn F l G v4 (fo_roots (v3).toNatClampNeg) H.size o26 e26) hB km_X2_isIn st_X2_isIn ml_RX2_72 hP hD hS hl [] [0, 1, 2, 3, 4] ⟨rfl, rfl, ⟨rfl, rfl⟩, by decide⟩ ⟨⟨Nat.le_of_ble_eq_true rfl, Nat.le_of_ble_eq_true rfl⟩, Nat.le_of_ble_eq_true rfl, Nat.le_of_ble_eq_true rfl, Nat.le_of_ble_eq_true rfl⟩ rfl dX2_countSpan_26 (fun z H locs hP hD hS => ?_)
          have hP : va_P (gD G) vwCl [(h_fo, .inr (1, [.int fo_operators, .ref h_fo_roots, .ref h_fo_leftChildren, .ref h_fo_rightChildren, .ref h_fo_counts])), (h_fo_counts, .inl (gI G, 1210, .inl fo_counts)), (h_fo_leftChildren, .inl (gI G, 10, .inl fo_leftChildren)), (h_fo_rightChildren, .inl (gI G, 10, .inl fo_rightChildren)), (h_fo_roots, .inl (gI G, 121, .inl fo_roots))] H := hP
          have hD : va_D A [(h_fo, .inr (1, [.int fo_operators, .ref h_fo_roots, .ref h_fo_leftChildren, .ref h_fo_rightChildren, .ref h_fo_counts])), (h_fo_counts, .inl (gI G, 1210, .inl fo_counts)), (h_fo_leftChildren, .inl (gI G, 10, .inl fo_leftChildren)), (h_fo_rightChildren, .inl (gI G, 10, .inl fo_rightChildren)), (h_fo_roots, .inl (gI G, 121, .inl fo_roots))] := hD
          refine lv_if_eq (tgt := 65) hx hb dX2_countSpan_29 (by decide) (fun c29 => ?_) (fun c29 => ?_)
          · have h := ip c29 h
            refine lv_aload_n hx hb dX2_countSpan_65 rfl (lv_at hl 1 rfl) ?_
            refine va_get (D := gD G) (ci := 1) (v := .ref h_fo_counts) (C := RX2) (T := TX2) (N := 5) hx hb hts lk_X2 hown hK hP 0 rfl rfl 4 (by decide) (hts _ fl_RX2_25) (fun _ h9 => h9) rfl dX2_countSpan_66 ?_
            refine lv_iload_n hx hb dX2_countSpan_69 rfl (lv_at hl 4 rfl) ?_
            refine lv_bipush (v := 10) hx hb dX2_countSpan_70 (by decide) ?_
            refine lv_imul hx hb dX2_countSpan_72 ?_
            refine lv_iload hx hb dX2_countSpan_73 (lv_at hl 5 rfl) ?_
            refine lv_iadd hx hb dX2_countSpan_75 ?_
            refine lv_iload hx hb dX2_countSpan_76 (lv_at hl 0 rfl) ?_
            obtain ⟨g78, h⟩ := gd h
            refine va_iast hx hb hK hP hD hS 1 1 rfl rfl g78 dX2_countSpan_78 (fun H locs hP hD hS => ?_)
            have hP : va_P (gD G) vwCl [(h_fo, .inr (1, [.int fo_operators, .ref h_fo_roots, .ref h_fo_leftChildren, .ref h_fo_rightChildren, .ref h_fo_counts])), (h_fo_counts, .inl (gI G, 1210, .inl (upd fo_counts (((v3 * 10) + v4)).toNatClampNeg 0))), (h_fo_leftChildren, .inl (gI G, 10, .inl fo_leftChildren)), (h_fo_rightChildren, .inl (gI G, 10, .inl fo_rightChildren)), (h_fo_roots, .inl (gI G, 121, .inl fo_roots))] H := hP
            have hD : va_D A [(h_fo, .inr (1, [.int fo_operators, .ref h_fo_roots, .ref h_fo_leftChildren, .ref h_fo_rightChildren, .ref h_fo_counts])), (h_fo_counts, .inl (gI G, 1210, .inl (upd fo_counts (((v3 * 10) + v4)).toNatClampNeg 0))), (h_fo_leftChildren, .inl (gI G, 10, .inl fo_leftChildren)), (h_fo_rightChildren, .inl (gI G, 10, .inl fo_rightChildren)), (h_fo_roots, .inl (gI G, 121, .inl fo_roots))] := hD
            refine lv_iinc (v := (v4 + 1)) (lv' := [(4, .int (v4 + 1)), (5, .int 0), (0, .ref h_fo), (1, .int v1), (2, .int v2), (3, .int v3)]) hx hb dX2_countSpan_79 hl (k := 5) rfl rfl (by decide) rfl (fun ls hl => ?_)
            refine lv_goto (tgt := 9) hx hb dX2_countSpan_82 (by decide) ?_
            exact ih v1 v2 v3 (v4 + 1) (upd fo_counts (((v3 * 10) + v4)).toNatClampNeg 0) X H locs ls hP hD hS (lv_sub hl [2, 3, 4, 5, 0] rfl) h HX
          · have h := ing c29 h
            refine lv_aload_n hx hb dX2_countSpan_32 rfl (lv_at hl 1 rfl) ?_
            refine lv_iload_n hx hb dX2_countSpan_33 rfl (lv_at hl 2 rfl) ?_
            refine lv_iload hx hb dX2_countSpan_34 (lv_at hl 5 rfl) ?_
            refine lv_aload_n hx hb dX2_countSpan_36 rfl (lv_at hl 1 rfl) ?_
            refine va_get (D := gD G) (ci := 1) (v := .ref h_fo_leftChildren) (C := RX2) (T := TX2) (N := 5) hx hb hts lk_X2 hown hK hP 0 rfl rfl 2 (by decide) (hts _ fl_RX2_19) (fun _ h9 => h9) rfl dX2_countSpan_37 ?_
            refine lv_iload hx hb dX2_countSpan_40 (lv_at hl 5 rfl) ?_
            obtain ⟨g42, h⟩ := gd h
            refine va_iald hx hb hK hP 2 1 rfl rfl g42 dX2_countSpan_42 ?_
            obtain ⟨o43, e43, h⟩ := bd h
            refine Ci.V (c_X2_treesOf F l G h_fo h_fo_roots h_fo_leftChildren h_fo_rightChildren h_fo_counts fo_operators fo_counts v1 v4 (fo_leftChildren (v4).toNatClampNeg) H.size o43 e43) hB km_X2_treesOf ⟨im_X2_treesOf, sl_X2_treesOf⟩ ml_RX2_64 hP hD hS hl ⟨0, 1, _, _, rfl, rfl, rfl⟩ [0, 1] [2, 3, 4] ⟨rfl, rfl, ⟨rfl, rfl⟩, by decide⟩ ⟨⟨Nat.le_of_ble_eq_true rfl, Nat.le_of_ble_eq_true rfl⟩, Nat.le_of_ble_eq_true rfl, Nat.le_of_ble_eq_true rfl, Nat.le_of_ble_eq_true rfl⟩ rfl dX2_countSpan_43 (fun z H locs hP hD hS => ?_)
            have hP : va_P (gD G) vwCl [(h_fo_leftChildren, .inl (gI G, 10, .inl fo_leftChildren)), (h_fo_rightChildren, .inl (gI G, 10, .inl fo_rightChildren)), (h_fo_roots, .inl (gI G, 121, .inl fo_roots)), (h_fo, .inr (1, [.int fo_operators, .ref h_fo_roots, .ref h_fo_leftChildren, .ref h_fo_rightChildren, .ref h_fo_counts])), (h_fo_counts, .inl (gI G, 1210, .inl fo_counts))] H := hP
            have hD : va_D A [(h_fo_leftChildren, .inl (gI G, 10, .inl fo_leftChildren)), (h_fo_rightChildren, .inl (gI G, 10, .inl fo_rightChildren)), (h_fo_roots, .inl (gI G, 121, .inl fo_roots)), (h_fo, .inr (1, [.int fo_operators, .ref h_fo_roots, .ref h_fo_leftChildren, .ref h_fo_rightChildren, .ref h_fo_counts])), (h_fo_counts, .inl (gI G, 1210, .inl fo_counts))] := hD
            refine lv_aload_n hx hb dX2_countSpan_46 rfl (lv_at hl 1 rfl) ?_
            refine lv_iload hx hb dX2_countSpan_47 (lv_at hl 5 rfl) ?_
            refine lv_iconst (v := 1) hx hb dX2_countSpan_49 (by decide) ?_
            refine lv_iadd hx hb dX2_countSpan_50 ?_
            refine lv_iload_n hx hb dX2_countSpan_51 rfl (lv_at hl 3 rfl) ?_
            refine lv_aload_n hx hb dX2_countSpan_52 rfl (lv_at hl 1 rfl) ?_
            refine va_get (D := gD G) (ci := 1) (v := .ref h_fo_rightChildren) (C := RX2) (T := TX2) (N := 5) hx hb hts lk_X2 hown hK hP 3 rfl rfl 3 (by decide) (hts _ fl_RX2_22) (fun _ h9 => h9) rfl dX2_countSpan_53 ?_
            refine lv_iload hx hb dX2_countSpan_56 (lv_at hl 5 rfl) ?_
            obtain ⟨g58, h⟩ := gd h
            refine va_iald hx hb hK hP 1 1 rfl rfl g58 dX2_countSpan_58 ?_
            obtain ⟨o59, e59, h⟩ := bd h
            refine Ci.V (c_X2_treesOf F l G h_fo h_fo_roots h_fo_leftChildren h_fo_rightChildren h_fo_counts fo_operators fo_counts (v4 + 1) v2 (fo_rightChildren (v4).toNatClampNeg) H.size o59 e59) hB km_X2_treesOf ⟨im_X2_treesOf, sl_X2_treesOf⟩ ml_RX2_64 hP hD hS hl ⟨0, 1, _, _, rfl, rfl, rfl⟩ [3, 4] [0, 1, 2] ⟨rfl, rfl, ⟨rfl, rfl⟩, by decide⟩ ⟨⟨Nat.le_of_ble_eq_true rfl, Nat.le_of_ble_eq_true rfl⟩, Nat.le_of_ble_eq_true rfl, Nat.le_of_ble_eq_true rfl, Nat.le_of_ble_eq_true rfl⟩ rfl dX2_countSpan_59 (fun z H locs hP hD hS => ?_)
            have hP : va_P (gD G) vwCl [(h_fo_leftChildren, .inl (gI G, 10, .inl fo_leftChildren)), (h_fo_rightChildren, .inl (gI G, 10, .inl fo_rightChildren)), (h_fo_roots, .inl (gI G, 121, .inl fo_roots)), (h_fo, .inr (1, [.int fo_operators, .ref h_fo_roots, .ref h_fo_leftChildren, .ref h_fo_rightChildren, .ref h_fo_counts])), (h_fo_counts, .inl (gI G, 1210, .inl fo_counts))] H := hP
            have hD : va_D A [(h_fo_leftChildren, .inl (gI G, 10, .inl fo_leftChildren)), (h_fo_rightChildren, .inl (gI G, 10, .inl fo_rightChildren)), (h_fo_roots, .inl (gI G, 121, .inl fo_roots)), (h_fo, .inr (1, [.int fo_operators, .ref h_fo_roots, .ref h_fo_leftChildren, .ref h_fo_rightChildren, .ref h_fo_counts])), (h_fo_counts, .inl (gI G, 1210, .inl fo_counts))] := hD
            refine lv_imul hx hb dX2_countSpan_62 ?_
            refine lv_istore (lv' := [(5, .int (o43 * o59)), (0, .ref h_fo), (1, .int v1), (2, .int v2), (3, .int v3), (4, .int v4)]) hx hb dX2_countSpan_63 hl (by decide) rfl (fun ls hl => ?_)
            refine lv_aload_n hx hb dX2_countSpan_65 rfl (lv_at hl 1 rfl) ?_
            refine va_get (D := gD G) (ci := 1) (v := .ref h_fo_counts) (C := RX2) (T := TX2) (N := 5) hx hb hts lk_X2 hown hK hP 3 rfl rfl 4 (by decide) (hts _ fl_RX2_25) (fun _ h9 => h9) rfl dX2_countSpan_66 ?_
            refine lv_iload_n hx hb dX2_countSpan_69 rfl (lv_at hl 4 rfl) ?_
            refine lv_bipush (v := 10) hx hb dX2_countSpan_70 (by decide) ?_
            refine lv_imul hx hb dX2_countSpan_72 ?_
            refine lv_iload hx hb dX2_countSpan_73 (lv_at hl 5 rfl) ?_
            refine lv_iadd hx hb dX2_countSpan_75 ?_
            refine lv_iload hx hb dX2_countSpan_76 (lv_at hl 0 rfl) ?_
            obtain ⟨g78, h⟩ := gd h
            refine va_iast hx hb hK hP hD hS 4 1 rfl rfl g78 dX2_countSpan_78 (fun H locs hP hD hS => ?_)
            have hP : va_P (gD G) vwCl [(h_fo_leftChildren, .inl (gI G, 10, .inl fo_leftChildren)), (h_fo_rightChildren, .inl (gI G, 10, .inl fo_rightChildren)), (h_fo_roots, .inl (gI G, 121, .inl fo_roots)), (h_fo, .inr (1, [.int fo_operators, .ref h_fo_roots, .ref h_fo_leftChildren, .ref h_fo_rightChildren, .ref h_fo_counts])), (h_fo_counts, .inl (gI G, 1210, .inl (upd fo_counts (((v3 * 10) + v4)).toNatClampNeg (o43 * o59))))] H := hP
            have hD : va_D A [(h_fo_leftChildren, .inl (gI G, 10, .inl fo_leftChildren)), (h_fo_rightChildren, .inl (gI G, 10, .inl fo_rightChildren)), (h_fo_roots, .inl (gI G, 121, .inl fo_roots)), (h_fo, .inr (1, [.int fo_operators, .ref h_fo_roots, .ref h_fo_leftChildren, .ref h_fo_rightChildren, .ref h_fo_counts])), (h_fo_counts, .inl (gI G, 1210, .inl (upd fo_counts (((v3 * 10) + v4)).toNatClampNeg (o43 * o59))))] := hD
            refine lv_iinc (v := (v4 + 1)) (lv' := [(4, .int (v4 + 1)), (5, .int (o43 * o59)), (0, .ref h_fo), (1, .int v1), (2, .int v2), (3, .int v3)]) hx hb dX2_countSpan_79 hl (k := 5) rfl rfl (by decide) rfl (fun ls hl => ?_)
            refine lv_goto (tgt := 9) hx hb dX2_countSpan_82 (by decide) ?_
            exact ih v1 v2 v3 (v4 + 1) (upd fo_counts (((v3 * 10) + v4)).toNatClampNeg (o43 * o59)) X H locs ls (hP.sub [3, 4, 0, 1, 2] rfl) (hD.sub [3, 4, 0, 1, 2] (by decide) rfl) hS (lv_sub hl [2, 3, 4, 5, 0] rfl) h HX
  refine Lp9 F p1 p2 o2 p1 fo_counts _ H locs ls hP hD hS (lv_sub hl [2, 3, 4, 1, 0] rfl) h (fun fo_counts H locs ls hP hD hS hl h => ?_)
  cases h
  exact hret (fun _ => 0) _ _ _ _ hP hD hS dX2_countSpan_85
def f_X2_countTrees_l12 (F : Nat) (v1 : Int32) (fo_leftChildren : Nat → Int32) (fo_operators : Int32) (fo_rightChildren : Nat → Int32) (fo_roots : Nat → Int32) : Nat → Int32 → (Nat → Int32) → ((Nat → Int32) → Option (Int32 × (Nat → Int32))) → Option (Int32 × (Nat → Int32))
  | 0, _, _, _ => none
  | n + 1, v2, fo_counts, X => (if fo_operators < (v2 + v1) then (X fo_counts) else ((f_X2_countSpan F v2 (v2 + v1) fo_counts fo_leftChildren fo_rightChildren fo_roots).bind fun o27 => (f_X2_countTrees_l12 F v1 fo_leftChildren fo_operators fo_rightChildren fo_roots n (v2 + 1) o27 X)))

def f_X2_countTrees_l2 (F : Nat) (fo_leftChildren : Nat → Int32) (fo_operators : Int32) (fo_rightChildren : Nat → Int32) (fo_roots : Nat → Int32) : Nat → Int32 → (Nat → Int32) → ((Nat → Int32) → Option (Int32 × (Nat → Int32))) → Option (Int32 × (Nat → Int32))
  | 0, _, _, _ => none
  | n + 1, v1, fo_counts, X => (if fo_operators < v1 then (X fo_counts) else (f_X2_countTrees_l12 F v1 fo_leftChildren fo_operators fo_rightChildren fo_roots F 0 fo_counts (fun fo_counts => (f_X2_countTrees_l2 F fo_leftChildren fo_operators fo_rightChildren fo_roots n (v1 + 1) fo_counts X))))

def f_X2_countTrees (F : Nat) (fo_counts : Nat → Int32) (fo_leftChildren : Nat → Int32) (fo_operators : Int32) (fo_rightChildren : Nat → Int32) (fo_roots : Nat → Int32) : Option (Int32 × (Nat → Int32)) := (f_X2_countTrees_l2 F fo_leftChildren fo_operators fo_rightChildren fo_roots F 1 fo_counts (fun fo_counts => ((f_X2_treesOf F 0 fo_operators (-1) fo_counts).bind fun o49 => (some (o49, fo_counts)))))

abbrev rm_X2_countTrees : Room := { frames := 3, cells := 0, slots := 0, locals := 72 }
theorem km_X2_countTrees : KM yX2_countTrees cX2_countTrees 3 (some .int) 0 := ⟨co_X2_countTrees, in_RX2, by decide +kernel⟩
set_option maxHeartbeats 4000000 in
set_option maxRecDepth 100000 in
theorem c_X2_countTrees (F : Nat) (l : Launch) (G : GT) (h_fo h_fo_roots h_fo_leftChildren h_fo_rightChildren h_fo_counts : Nat) (fo_operators : Int32) (fo_counts : Nat → Int32) (fo_leftChildren : Nat → Int32) (fo_rightChildren : Nat → Int32) (fo_roots : Nat → Int32) (sz : Nat) (out : Int32 × (Nat → Int32)) (h : f_X2_countTrees F fo_counts fo_leftChildren fo_operators fo_rightChildren fo_roots = some out) : Ci G l yX2_countTrees cX2_countTrees 3 (some .int) rm_X2_countTrees [.ref h_fo] [(h_fo, .inr (1, [.int fo_operators, .ref h_fo_roots, .ref h_fo_leftChildren, .ref h_fo_rightChildren, .ref h_fo_counts])), (h_fo_counts, .inl (gI G, 1210, .inl fo_counts)), (h_fo_leftChildren, .inl (gI G, 10, .inl fo_leftChildren)), (h_fo_rightChildren, .inl (gI G, 10, .inl fo_rightChildren)), (h_fo_roots, .inl (gI G, 121, .inl fo_roots))] sz (out.1) (fun _ => [(h_fo, .inr (1, [.int fo_operators, .ref h_fo_roots, .ref h_fo_leftChildren, .ref h_fo_rightChildren, .ref h_fo_counts])), (h_fo_counts, .inl (gI G, 1210, .inl (out.2))), (h_fo_leftChildren, .inl (gI G, 10, .inl fo_leftChildren)), (h_fo_rightChildren, .inl (gI G, 10, .inl fo_rightChildren)), (h_fo_roots, .inl (gI G, 121, .inl fo_roots))]) := by
  refine Ci.start rfl (by decide) (Nat.le_of_ble_eq_true rfl) ?_
  intro p e s m args below meth c A Q ls hB hP hD hS hl hret
  obtain ⟨hx, hb, hmL, hr, hown, hts, hlocks, hnm, hA, hE⟩ := id hB
  obtain ⟨hK, hN, hV, hR, hZ, hZq⟩ := id hE
  have hown : s.vm.findClass RX2 = some m.cls := hown
  have hl : lv_has ls 3 [(0, .ref h_fo)] := hl
  rw [f_X2_countTrees] at h
  refine lv_iconst (v := 1) hx hb dX2_countTrees_0 (by decide) ?_
  refine lv_istore_n (lv' := [(1, .int 1), (0, .ref h_fo)]) hx hb dX2_countTrees_1 rfl hl (by decide) rfl (fun ls hl => ?_)
  have Lp2 : ∀ (n : Nat) (v1 : Int32) (fo_counts : Nat → Int32) (X : (Nat → Int32) → Option (Int32 × (Nat → Int32))) (H : Heap) (locs : List Loc) (ls : Array Slot), va_P (gD G) vwCl [(h_fo, .inr (1, [.int fo_operators, .ref h_fo_roots, .ref h_fo_leftChildren, .ref h_fo_rightChildren, .ref h_fo_counts])), (h_fo_counts, .inl (gI G, 1210, .inl fo_counts)), (h_fo_leftChildren, .inl (gI G, 10, .inl fo_leftChildren)), (h_fo_rightChildren, .inl (gI G, 10, .inl fo_rightChildren)), (h_fo_roots, .inl (gI G, 121, .inl fo_roots))] H → va_D A [(h_fo, .inr (1, [.int fo_operators, .ref h_fo_roots, .ref h_fo_leftChildren, .ref h_fo_rightChildren, .ref h_fo_counts])), (h_fo_counts, .inl (gI G, 1210, .inl fo_counts)), (h_fo_leftChildren, .inl (gI G, 10, .inl fo_leftChildren)), (h_fo_rightChildren, .inl (gI G, 10, .inl fo_rightChildren)), (h_fo_roots, .inl (gI G, 121, .inl fo_roots))] → va_S A s.heap H locs → lv_has ls 3 [(0, .ref h_fo), (1, .int v1)] → f_X2_countTrees_l2 F fo_leftChildren fo_operators fo_rightChildren fo_roots n v1 fo_counts X = some out → (∀ (fo_counts : Nat → Int32) (H : Heap) (locs : List Loc) (ls : Array Slot), va_P (gD G) vwCl [(h_fo, .inr (1, [.int fo_operators, .ref h_fo_roots, .ref h_fo_leftChildren, .ref h_fo_rightChildren, .ref h_fo_counts])), (h_fo_counts, .inl (gI G, 1210, .inl fo_counts)), (h_fo_leftChildren, .inl (gI G, 10, .inl fo_leftChildren)), (h_fo_rightChildren, .inl (gI G, 10, .inl fo_rightChildren)), (h_fo_roots, .inl (gI G, 121, .inl fo_roots))] H → va_D A [(h_fo, .inr (1, [.int fo_operators, .ref h_fo_roots, .ref h_fo_leftChildren, .ref h_fo_rightChildren, .ref h_fo_counts])), (h_fo_counts, .inl (gI G, 1210, .inl fo_counts)), (h_fo_leftChildren, .inl (gI G, 10, .inl fo_leftChildren)), (h_fo_rightChildren, .inl (gI G, 10, .inl fo_rightChildren)), (h_fo_roots, .inl (gI G, 121, .inl fo_roots))] → va_S A s.heap H locs → lv_has ls 3 [(0, .ref h_fo)] → X fo_counts = some out → W p l e rm_X2_countTrees s m args below meth c H locs 0 0 Q (F0 m 42 ls [])) → W p l e rm_X2_countTrees s m args below meth c H locs 0 0 Q (F0 m 2 ls []) := by
    intro n
    induction n with
    | zero => intro v1 fo_counts X H locs ls hP hD hS hl h HX; rw [f_X2_countTrees_l2] at h; cases h
    | succ n ih =>
        intro v1 fo_counts X H locs ls hP hD hS hl h HX
        rw [f_X2_countTrees_l2] at h
        refine lv_iload_n hx hb dX2_countTrees_2 rfl (lv_at hl 1 rfl) ?_
        refine lv_aload_n hx hb dX2_countTrees_3 rfl (lv_at hl 0 rfl) ?_
        refine va_get (D := gD G) (ci := 1) (v := .int fo_operators) (C := RX2) (T := TX2) (N := 5) hx hb hts lk_X2 hown hK hP 0 rfl rfl 0 (by decide) (hts _ fl_RX2_9) (fun _ h9 => h9) rfl dX2_countTrees_4 ?_
        refine lv_icmp_gt (tgt := 42) hx hb dX2_countTrees_7 (by decide) (fun c7 => ?_) (fun c7 => ?_)
        · have h := ip c7 h
          exact HX fo_counts H locs ls hP hD hS (lv_sub hl [0] rfl) h
        · have h := ing c7 h
          refine lv_iconst (v := 0) hx hb dX2_countTrees_10 (by decide) ?_
          refine lv_istore_n (lv' := [(2, .int 0), (0, .ref h_fo), (1, .int v1)]) hx hb dX2_countTrees_11 rfl hl (by decide) rfl (fun ls hl => ?_)
          have Lp12 : ∀ (n : Nat) (v1 : Int32) (v2 : Int32) (fo_counts : Nat → Int32) (X : (Nat → Int32) → Option (Int32 × (Nat → Int32))) (H : Heap) (locs : List Loc) (ls : Array Slot), va_P (gD G) vwCl [(h_fo, .inr (1, [.int fo_operators, .ref h_fo_roots, .ref h_fo_leftChildren, .ref h_fo_rightChildren, .ref h_fo_counts])), (h_fo_counts, .inl (gI G, 1210, .inl fo_counts)), (h_fo_leftChildren, .inl (gI G, 10, .inl fo_leftChildren)), (h_fo_rightChildren, .inl (gI G, 10, .inl fo_rightChildren)), (h_fo_roots, .inl (gI G, 121, .inl fo_roots))] H → va_D A [(h_fo, .inr (1, [.int fo_operators, .ref h_fo_roots, .ref h_fo_leftChildren, .ref h_fo_rightChildren, .ref h_fo_counts])), (h_fo_counts, .inl (gI G, 1210, .inl fo_counts)), (h_fo_leftChildren, .inl (gI G, 10, .inl fo_leftChildren)), (h_fo_rightChildren, .inl (gI G, 10, .inl fo_rightChildren)), (h_fo_roots, .inl (gI G, 121, .inl fo_roots))] → va_S A s.heap H locs → lv_has ls 3 [(0, .ref h_fo), (1, .int v1), (2, .int v2)] → f_X2_countTrees_l12 F v1 fo_leftChildren fo_operators fo_rightChildren fo_roots n v2 fo_counts X = some out → (∀ (fo_counts : Nat → Int32) (H : Heap) (locs : List Loc) (ls : Array Slot), va_P (gD G) vwCl [(h_fo, .inr (1, [.int fo_operators, .ref h_fo_roots, .ref h_fo_leftChildren, .ref h_fo_rightChildren, .ref h_fo_counts])), (h_fo_counts, .inl (gI G, 1210, .inl fo_counts)), (h_fo_leftChildren, .inl (gI G, 10, .inl fo_leftChildren)), (h_fo_rightChildren, .inl (gI G, 10, .inl fo_rightChildren)), (h_fo_roots, .inl (gI G, 121, .inl fo_roots))] H → va_D A [(h_fo, .inr (1, [.int fo_operators, .ref h_fo_roots, .ref h_fo_leftChildren, .ref h_fo_rightChildren, .ref h_fo_counts])), (h_fo_counts, .inl (gI G, 1210, .inl fo_counts)), (h_fo_leftChildren, .inl (gI G, 10, .inl fo_leftChildren)), (h_fo_rightChildren, .inl (gI G, 10, .inl fo_rightChildren)), (h_fo_roots, .inl (gI G, 121, .inl fo_roots))] → va_S A s.heap H locs → lv_has ls 3 [(0, .ref h_fo), (1, .int v1)] → X fo_counts = some out → W p l e rm_X2_countTrees s m args below meth c H locs 0 0 Q (F0 m 36 ls [])) → W p l e rm_X2_countTrees s m args below meth c H locs 0 0 Q (F0 m 12 ls []) := by
            intro n
            induction n with
            | zero => intro v1 v2 fo_counts X H locs ls hP hD hS hl h HX; rw [f_X2_countTrees_l12] at h; cases h
            | succ n ih =>
                intro v1 v2 fo_counts X H locs ls hP hD hS hl h HX
                rw [f_X2_countTrees_l12] at h
                refine lv_iload_n hx hb dX2_countTrees_12 rfl (lv_at hl 2 rfl) ?_
                refine lv_iload_n hx hb dX2_countTrees_13 rfl (lv_at hl 1 rfl) ?_
                refine lv_iadd hx hb dX2_countTrees_14 ?_
                refine lv_aload_n hx hb dX2_countTrees_15 rfl (lv_at hl 0 rfl) ?_
                refine va_get (D := gD G) (ci := 1) (v := .int fo_operators) (C := RX2) (T := TX2) (N := 5) hx hb hts lk_X2 hown hK hP 0 rfl rfl 0 (by decide) (hts _ fl_RX2_9) (fun _ h9 => h9) rfl dX2_countTrees_16 ?_
                refine lv_icmp_gt (tgt := 36) hx hb dX2_countTrees_19 (by decide) (fun c19 => ?_) (fun c19 => ?_)
                · have h := ip c19 h
                  exact HX fo_counts H locs ls hP hD hS (lv_sub hl [0, 1] rfl) h
                · have h := ing c19 h
                  refine lv_aload_n hx hb dX2_countTrees_22 rfl (lv_at hl 0 rfl) ?_
                  refine lv_iload_n hx hb dX2_countTrees_23 rfl (lv_at hl 2 rfl) ?_
                  refine lv_iload_n hx hb dX2_countTrees_24 rfl (lv_at hl 2 rfl) ?_
                  refine lv_iload_n hx hb dX2_countTrees_25 rfl (lv_at hl 1 rfl) ?_
                  refine lv_iadd hx hb dX2_countTrees_26 ?_
                  obtain ⟨o27, e27, h⟩ := bd h
                  refine Cv.V (c_X2_countSpan F l G h_fo h_fo_roots h_fo_leftChildren h_fo_rightChildren h_fo_counts fo_operators fo_counts fo_leftChildren fo_rightChildren fo_roots v2 (v2 + v1) H.size o27 e27) hB km_X2_countSpan ⟨im_X2_countSpan, sl_X2_countSpan⟩ ml_RX2_60 hP hD hS hl ⟨0, 1, _, _, rfl, rfl, rfl⟩ [0, 1, 2, 3, 4] [] ⟨rfl, rfl, ⟨rfl, rfl⟩, by decide⟩ ⟨⟨Nat.le_of_ble_eq_true rfl, Nat.le_of_ble_eq_true rfl⟩, Nat.le_of_ble_eq_true rfl, Nat.le_of_ble_eq_true rfl, Nat.le_of_ble_eq_true rfl⟩ rfl dX2_countTrees_27 (fun z H locs hP hD hS => ?_)
                  have hP : va_P (gD G) vwCl [(h_fo, .inr (1, [.int fo_operators, .ref h_fo_roots, .ref h_fo_leftChildren, .ref h_fo_rightChildren, .ref h_fo_counts])), (h_fo_counts, .inl (gI G, 1210, .inl o27)), (h_fo_leftChildren, .inl (gI G, 10, .inl fo_leftChildren)), (h_fo_rightChildren, .inl (gI G, 10, .inl fo_rightChildren)), (h_fo_roots, .inl (gI G, 121, .inl fo_roots))] H := hP
                  have hD : va_D A [(h_fo, .inr (1, [.int fo_operators, .ref h_fo_roots, .ref h_fo_leftChildren, .ref h_fo_rightChildren, .ref h_fo_counts])), (h_fo_counts, .inl (gI G, 1210, .inl o27)), (h_fo_leftChildren, .inl (gI G, 10, .inl fo_leftChildren)), (h_fo_rightChildren, .inl (gI G, 10, .inl fo_rightChildren)), (h_fo_roots, .inl (gI G, 121, .inl fo_roots))] := hD
                  refine lv_iinc (v := (v2 + 1)) (lv' := [(2, .int (v2 + 1)), (0, .ref h_fo), (1, .int v1)]) hx hb dX2_countTrees_30 hl (k := 2) rfl rfl (by decide) rfl (fun ls hl => ?_)
                  refine lv_goto (tgt := 12) hx hb dX2_countTrees_33 (by decide) ?_
                  exact ih v1 (v2 + 1) o27 X H locs ls hP hD hS (lv_sub hl [1, 2, 0] rfl) h HX
          refine Lp12 F v1 0 fo_counts _ H locs ls hP hD hS (lv_sub hl [1, 2, 0] rfl) h (fun fo_counts H locs ls hP hD hS hl h => ?_)
          refine lv_iinc (v := (v1 + 1)) (lv' := [(1, .int (v1 + 1)), (0, .ref h_fo)]) hx hb dX2_countTrees_36 hl (k := 1) rfl rfl (by decide) rfl (fun ls hl => ?_)
          refine lv_goto (tgt := 2) hx hb dX2_countTrees_39 (by decide) ?_
          exact ih (v1 + 1) fo_counts X H locs ls hP hD hS (lv_sub hl [1, 0] rfl) h HX
  refine Lp2 F 1 fo_counts _ H locs ls hP hD hS (lv_sub hl [1, 0] rfl) h (fun fo_counts H locs ls hP hD hS hl h => ?_)
  refine lv_aload_n hx hb dX2_countTrees_42 rfl (lv_at hl 0 rfl) ?_
  refine lv_iconst (v := 0) hx hb dX2_countTrees_43 (by decide) ?_
  refine lv_aload_n hx hb dX2_countTrees_44 rfl (lv_at hl 0 rfl) ?_
  refine va_get (D := gD G) (ci := 1) (v := .int fo_operators) (C := RX2) (T := TX2) (N := 5) hx hb hts lk_X2 hown hK hP 0 rfl rfl 0 (by decide) (hts _ fl_RX2_9) (fun _ h9 => h9) rfl dX2_countTrees_45 ?_
  refine lv_iconst (v := (-1)) hx hb dX2_countTrees_48 (by decide) ?_
  obtain ⟨o49, e49, h⟩ := bd h
  refine Ci.V (c_X2_treesOf F l G h_fo h_fo_roots h_fo_leftChildren h_fo_rightChildren h_fo_counts fo_operators fo_counts 0 fo_operators (-1) H.size o49 e49) hB km_X2_treesOf ⟨im_X2_treesOf, sl_X2_treesOf⟩ ml_RX2_64 hP hD hS hl ⟨0, 1, _, _, rfl, rfl, rfl⟩ [0, 1] [2, 3, 4] ⟨rfl, rfl, ⟨rfl, rfl⟩, by decide⟩ ⟨⟨Nat.le_of_ble_eq_true rfl, Nat.le_of_ble_eq_true rfl⟩, Nat.le_of_ble_eq_true rfl, Nat.le_of_ble_eq_true rfl, Nat.le_of_ble_eq_true rfl⟩ rfl dX2_countTrees_49 (fun z H locs hP hD hS => ?_)
  have hP : va_P (gD G) vwCl [(h_fo_leftChildren, .inl (gI G, 10, .inl fo_leftChildren)), (h_fo_rightChildren, .inl (gI G, 10, .inl fo_rightChildren)), (h_fo_roots, .inl (gI G, 121, .inl fo_roots)), (h_fo, .inr (1, [.int fo_operators, .ref h_fo_roots, .ref h_fo_leftChildren, .ref h_fo_rightChildren, .ref h_fo_counts])), (h_fo_counts, .inl (gI G, 1210, .inl fo_counts))] H := hP
  have hD : va_D A [(h_fo_leftChildren, .inl (gI G, 10, .inl fo_leftChildren)), (h_fo_rightChildren, .inl (gI G, 10, .inl fo_rightChildren)), (h_fo_roots, .inl (gI G, 121, .inl fo_roots)), (h_fo, .inr (1, [.int fo_operators, .ref h_fo_roots, .ref h_fo_leftChildren, .ref h_fo_rightChildren, .ref h_fo_counts])), (h_fo_counts, .inl (gI G, 1210, .inl fo_counts))] := hD
  cases h
  exact hret (fun _ => 0) _ _ _ _ (hP.sub [3, 4, 0, 1, 2] rfl) (hD.sub [3, 4, 0, 1, 2] (by decide) rfl) hS rfl dX2_countTrees_52
def f_X2_keepRoots_l12 (F : Nat) (v1 : Int32) (v2 : Int32) (fo_leftChildren : Nat → Int32) (fo_operators : Int32) (fo_rightChildren : Nat → Int32) : Nat → Int32 → (Nat → Int32) → (Nat → Int32) → ((Nat → Int32) → (Nat → Int32) → Option ((Nat → Int32) × (Nat → Int32))) → Option ((Nat → Int32) × (Nat → Int32))
  | 0, _, _, _, _ => none
  | n + 1, v3, fo_counts, fo_roots, X => (if fo_operators < (v3 + v2) then (X fo_counts fo_roots) else ((f_X2_countSpan F v3 (v3 + v2) fo_counts fo_leftChildren fo_rightChildren fo_roots).bind fun o31 => ((f_X2_treesOf F v3 (v3 + v2) v1 o31).bind fun o39 => (if o39 ≤ 0 then (f_X2_keepRoots_l12 F v1 v2 fo_leftChildren fo_operators fo_rightChildren n (v3 + 1) o31 fo_roots X) else ((f_X7_spanIndex F v3 (v3 + v2)).bind fun o52 => (if vp_in o52 121 then (if vp_in o52 121 then ((f_X2_countSpan F v3 (v3 + v2) o31 fo_leftChildren fo_rightChildren (upd fo_roots (o52).toNatClampNeg ((fo_roots (o52).toNatClampNeg) &&& v1))).bind fun o64 => (f_X2_keepRoots_l12 F v1 v2 fo_leftChildren fo_operators fo_rightChildren n (v3 + 1) o64 (upd fo_roots (o52).toNatClampNeg ((fo_roots (o52).toNatClampNeg) &&& v1)) X)) else none) else none))))))

def f_X2_keepRoots_l2 (F : Nat) (v1 : Int32) (fo_leftChildren : Nat → Int32) (fo_operators : Int32) (fo_rightChildren : Nat → Int32) : Nat → Int32 → (Nat → Int32) → (Nat → Int32) → ((Nat → Int32) → (Nat → Int32) → Option ((Nat → Int32) × (Nat → Int32))) → Option ((Nat → Int32) × (Nat → Int32))
  | 0, _, _, _, _ => none
  | n + 1, v2, fo_counts, fo_roots, X => (if fo_operators < v2 then (X fo_counts fo_roots) else (f_X2_keepRoots_l12 F v1 v2 fo_leftChildren fo_operators fo_rightChildren F 0 fo_counts fo_roots (fun fo_counts fo_roots => (f_X2_keepRoots_l2 F v1 fo_leftChildren fo_operators fo_rightChildren n (v2 + 1) fo_counts fo_roots X))))

def f_X2_keepRoots (F : Nat) (p1 : Int32) (fo_counts : Nat → Int32) (fo_leftChildren : Nat → Int32) (fo_operators : Int32) (fo_rightChildren : Nat → Int32) (fo_roots : Nat → Int32) : Option ((Nat → Int32) × (Nat → Int32)) := (f_X2_keepRoots_l2 F p1 fo_leftChildren fo_operators fo_rightChildren F 1 fo_counts fo_roots (fun fo_counts fo_roots => (some (fo_counts, fo_roots))))

abbrev rm_X2_keepRoots : Room := { frames := 3, cells := 0, slots := 0, locals := 72 }
theorem km_X2_keepRoots : KM yX2_keepRoots cX2_keepRoots 5 none 1 := ⟨co_X2_keepRoots, in_RX2, by decide +kernel⟩
set_option maxHeartbeats 4000000 in
set_option maxRecDepth 100000 in
theorem c_X2_keepRoots (F : Nat) (l : Launch) (G : GT) (h_fo h_fo_roots h_fo_leftChildren h_fo_rightChildren h_fo_counts : Nat) (fo_operators : Int32) (fo_counts : Nat → Int32) (fo_leftChildren : Nat → Int32) (fo_rightChildren : Nat → Int32) (fo_roots : Nat → Int32) (p1 : Int32) (sz : Nat) (out : (Nat → Int32) × (Nat → Int32)) (h : f_X2_keepRoots F p1 fo_counts fo_leftChildren fo_operators fo_rightChildren fo_roots = some out) : Cv G l yX2_keepRoots cX2_keepRoots 5 none rm_X2_keepRoots [.ref h_fo, .int p1] [(h_fo, .inr (1, [.int fo_operators, .ref h_fo_roots, .ref h_fo_leftChildren, .ref h_fo_rightChildren, .ref h_fo_counts])), (h_fo_counts, .inl (gI G, 1210, .inl fo_counts)), (h_fo_leftChildren, .inl (gI G, 10, .inl fo_leftChildren)), (h_fo_rightChildren, .inl (gI G, 10, .inl fo_rightChildren)), (h_fo_roots, .inl (gI G, 121, .inl fo_roots))] sz (fun _ => [(h_fo, .inr (1, [.int fo_operators, .ref h_fo_roots, .ref h_fo_leftChildren, .ref h_fo_rightChildren, .ref h_fo_counts])), (h_fo_counts, .inl (gI G, 1210, .inl (out.1))), (h_fo_leftChildren, .inl (gI G, 10, .inl fo_leftChildren)), (h_fo_rightChildren, .inl (gI G, 10, .inl fo_rightChildren)), (h_fo_roots, .inl (gI G, 121, .inl (out.2)))]) := by
  refine Cv.start (by decide) (Nat.le_of_ble_eq_true rfl) ?_
  intro p e s m args below meth c A Q ls hB hP hD hS hl hret
  obtain ⟨hx, hb, hmL, hr, hown, hts, hlocks, hnm, hA, hE⟩ := id hB
  obtain ⟨hK, hN, hV, hR, hZ, hZq⟩ := id hE
  have hown : s.vm.findClass RX2 = some m.cls := hown
  have hl : lv_has ls 5 [(0, .ref h_fo), (1, .int p1)] := hl
  rw [f_X2_keepRoots] at h
  refine lv_iconst (v := 1) hx hb dX2_keepRoots_0 (by decide) ?_
  refine lv_istore_n (lv' := [(2, .int 1), (0, .ref h_fo), (1, .int p1)]) hx hb dX2_keepRoots_1 rfl hl (by decide) rfl (fun ls hl => ?_)
  have Lp2 : ∀ (n : Nat) (v1 : Int32) (v2 : Int32) (fo_counts : Nat → Int32) (fo_roots : Nat → Int32) (X : (Nat → Int32) → (Nat → Int32) → Option ((Nat → Int32) × (Nat → Int32))) (H : Heap) (locs : List Loc) (ls : Array Slot), va_P (gD G) vwCl [(h_fo, .inr (1, [.int fo_operators, .ref h_fo_roots, .ref h_fo_leftChildren, .ref h_fo_rightChildren, .ref h_fo_counts])), (h_fo_counts, .inl (gI G, 1210, .inl fo_counts)), (h_fo_leftChildren, .inl (gI G, 10, .inl fo_leftChildren)), (h_fo_rightChildren, .inl (gI G, 10, .inl fo_rightChildren)), (h_fo_roots, .inl (gI G, 121, .inl fo_roots))] H → va_D A [(h_fo, .inr (1, [.int fo_operators, .ref h_fo_roots, .ref h_fo_leftChildren, .ref h_fo_rightChildren, .ref h_fo_counts])), (h_fo_counts, .inl (gI G, 1210, .inl fo_counts)), (h_fo_leftChildren, .inl (gI G, 10, .inl fo_leftChildren)), (h_fo_rightChildren, .inl (gI G, 10, .inl fo_rightChildren)), (h_fo_roots, .inl (gI G, 121, .inl fo_roots))] → va_S A s.heap H locs → lv_has ls 5 [(0, .ref h_fo), (1, .int v1), (2, .int v2)] → f_X2_keepRoots_l2 F v1 fo_leftChildren fo_operators fo_rightChildren n v2 fo_counts fo_roots X = some out → (∀ (fo_counts : Nat → Int32) (fo_roots : Nat → Int32) (H : Heap) (locs : List Loc) (ls : Array Slot), va_P (gD G) vwCl [(h_fo, .inr (1, [.int fo_operators, .ref h_fo_roots, .ref h_fo_leftChildren, .ref h_fo_rightChildren, .ref h_fo_counts])), (h_fo_counts, .inl (gI G, 1210, .inl fo_counts)), (h_fo_leftChildren, .inl (gI G, 10, .inl fo_leftChildren)), (h_fo_rightChildren, .inl (gI G, 10, .inl fo_rightChildren)), (h_fo_roots, .inl (gI G, 121, .inl fo_roots))] H → va_D A [(h_fo, .inr (1, [.int fo_operators, .ref h_fo_roots, .ref h_fo_leftChildren, .ref h_fo_rightChildren, .ref h_fo_counts])), (h_fo_counts, .inl (gI G, 1210, .inl fo_counts)), (h_fo_leftChildren, .inl (gI G, 10, .inl fo_leftChildren)), (h_fo_rightChildren, .inl (gI G, 10, .inl fo_rightChildren)), (h_fo_roots, .inl (gI G, 121, .inl fo_roots))] → va_S A s.heap H locs → lv_has ls 5 [] → X fo_counts fo_roots = some out → W p l e rm_X2_keepRoots s m args below meth c H locs 0 0 Q (F0 m 79 ls [])) → W p l e rm_X2_keepRoots s m args below meth c H locs 0 0 Q (F0 m 2 ls []) := by
    intro n
    induction n with
    | zero => intro v1 v2 fo_counts fo_roots X H locs ls hP hD hS hl h HX; rw [f_X2_keepRoots_l2] at h; cases h
    | succ n ih =>
        intro v1 v2 fo_counts fo_roots X H locs ls hP hD hS hl h HX
        rw [f_X2_keepRoots_l2] at h
        refine lv_iload_n hx hb dX2_keepRoots_2 rfl (lv_at hl 2 rfl) ?_
        refine lv_aload_n hx hb dX2_keepRoots_3 rfl (lv_at hl 0 rfl) ?_
        refine va_get (D := gD G) (ci := 1) (v := .int fo_operators) (C := RX2) (T := TX2) (N := 5) hx hb hts lk_X2 hown hK hP 0 rfl rfl 0 (by decide) (hts _ fl_RX2_9) (fun _ h9 => h9) rfl dX2_keepRoots_4 ?_
        refine lv_icmp_gt (tgt := 79) hx hb dX2_keepRoots_7 (by decide) (fun c7 => ?_) (fun c7 => ?_)
        · have h := ip c7 h
          exact HX fo_counts fo_roots H locs ls hP hD hS (lv_sub hl [] rfl) h
        · have h := ing c7 h
          refine lv_iconst (v := 0) hx hb dX2_keepRoots_10 (by decide) ?_
          refine lv_istore_n (lv' := [(3, .int 0), (0, .ref h_fo), (1, .int v1), (2, .int v2)]) hx hb dX2_keepRoots_11 rfl hl (by decide) rfl (fun ls hl => ?_)
          have Lp12 : ∀ (n : Nat) (v1 : Int32) (v2 : Int32) (v3 : Int32) (fo_counts : Nat → Int32) (fo_roots : Nat → Int32) (X : (Nat → Int32) → (Nat → Int32) → Option ((Nat → Int32) × (Nat → Int32))) (H : Heap) (locs : List Loc) (ls : Array Slot), va_P (gD G) vwCl [(h_fo, .inr (1, [.int fo_operators, .ref h_fo_roots, .ref h_fo_leftChildren, .ref h_fo_rightChildren, .ref h_fo_counts])), (h_fo_counts, .inl (gI G, 1210, .inl fo_counts)), (h_fo_leftChildren, .inl (gI G, 10, .inl fo_leftChildren)), (h_fo_rightChildren, .inl (gI G, 10, .inl fo_rightChildren)), (h_fo_roots, .inl (gI G, 121, .inl fo_roots))] H → va_D A [(h_fo, .inr (1, [.int fo_operators, .ref h_fo_roots, .ref h_fo_leftChildren, .ref h_fo_rightChildren, .ref h_fo_counts])), (h_fo_counts, .inl (gI G, 1210, .inl fo_counts)), (h_fo_leftChildren, .inl (gI G, 10, .inl fo_leftChildren)), (h_fo_rightChildren, .inl (gI G, 10, .inl fo_rightChildren)), (h_fo_roots, .inl (gI G, 121, .inl fo_roots))] → va_S A s.heap H locs → lv_has ls 5 [(0, .ref h_fo), (1, .int v1), (2, .int v2), (3, .int v3)] → f_X2_keepRoots_l12 F v1 v2 fo_leftChildren fo_operators fo_rightChildren n v3 fo_counts fo_roots X = some out → (∀ (fo_counts : Nat → Int32) (fo_roots : Nat → Int32) (H : Heap) (locs : List Loc) (ls : Array Slot), va_P (gD G) vwCl [(h_fo, .inr (1, [.int fo_operators, .ref h_fo_roots, .ref h_fo_leftChildren, .ref h_fo_rightChildren, .ref h_fo_counts])), (h_fo_counts, .inl (gI G, 1210, .inl fo_counts)), (h_fo_leftChildren, .inl (gI G, 10, .inl fo_leftChildren)), (h_fo_rightChildren, .inl (gI G, 10, .inl fo_rightChildren)), (h_fo_roots, .inl (gI G, 121, .inl fo_roots))] H → va_D A [(h_fo, .inr (1, [.int fo_operators, .ref h_fo_roots, .ref h_fo_leftChildren, .ref h_fo_rightChildren, .ref h_fo_counts])), (h_fo_counts, .inl (gI G, 1210, .inl fo_counts)), (h_fo_leftChildren, .inl (gI G, 10, .inl fo_leftChildren)), (h_fo_rightChildren, .inl (gI G, 10, .inl fo_rightChildren)), (h_fo_roots, .inl (gI G, 121, .inl fo_roots))] → va_S A s.heap H locs → lv_has ls 5 [(0, .ref h_fo), (1, .int v1), (2, .int v2)] → X fo_counts fo_roots = some out → W p l e rm_X2_keepRoots s m args below meth c H locs 0 0 Q (F0 m 73 ls [])) → W p l e rm_X2_keepRoots s m args below meth c H locs 0 0 Q (F0 m 12 ls []) := by
            intro n
            induction n with
            | zero => intro v1 v2 v3 fo_counts fo_roots X H locs ls hP hD hS hl h HX; rw [f_X2_keepRoots_l12] at h; cases h
            | succ n ih =>
                intro v1 v2 v3 fo_counts fo_roots X H locs ls hP hD hS hl h HX
                rw [f_X2_keepRoots_l12] at h
                refine lv_iload_n hx hb dX2_keepRoots_12 rfl (lv_at hl 3 rfl) ?_
                refine lv_iload_n hx hb dX2_keepRoots_13 rfl (lv_at hl 2 rfl) ?_
                refine lv_iadd hx hb dX2_keepRoots_14 ?_
                refine lv_aload_n hx hb dX2_keepRoots_15 rfl (lv_at hl 0 rfl) ?_
                refine va_get (D := gD G) (ci := 1) (v := .int fo_operators) (C := RX2) (T := TX2) (N := 5) hx hb hts lk_X2 hown hK hP 0 rfl rfl 0 (by decide) (hts _ fl_RX2_9) (fun _ h9 => h9) rfl dX2_keepRoots_16 ?_
                refine lv_icmp_gt (tgt := 73) hx hb dX2_keepRoots_19 (by decide) (fun c19 => ?_) (fun c19 => ?_)
                · have h := ip c19 h
                  exact HX fo_counts fo_roots H locs ls hP hD hS (lv_sub hl [0, 1, 2] rfl) h
                · have h := ing c19 h
                  refine lv_iload_n hx hb dX2_keepRoots_22 rfl (lv_at hl 3 rfl) ?_
                  refine lv_iload_n hx hb dX2_keepRoots_23 rfl (lv_at hl 2 rfl) ?_
                  refine lv_iadd hx hb dX2_keepRoots_24 ?_
                  refine lv_istore (lv' := [(4, .int (v3 + v2)), (0, .ref h_fo), (1, .int v1), (2, .int v2), (3, .int v3)]) hx hb dX2_keepRoots_25 hl (by decide) rfl (fun ls hl => ?_)
                  refine lv_aload_n hx hb dX2_keepRoots_27 rfl (lv_at hl 1 rfl) ?_
                  refine lv_iload_n hx hb dX2_keepRoots_28 rfl (lv_at hl 4 rfl) ?_
                  refine lv_iload hx hb dX2_keepRoots_29 (lv_at hl 0 rfl) ?_
                  obtain ⟨o31, e31, h⟩ := bd h
                  refine Cv.V (c_X2_countSpan F l G h_fo h_fo_roots h_fo_leftChildren h_fo_rightChildren h_fo_counts fo_operators fo_counts fo_leftChildren fo_rightChildren fo_roots v3 (v3 + v2) H.size o31 e31) hB km_X2_countSpan ⟨im_X2_countSpan, sl_X2_countSpan⟩ ml_RX2_60 hP hD hS hl ⟨0, 1, _, _, rfl, rfl, rfl⟩ [0, 1, 2, 3, 4] [] ⟨rfl, rfl, ⟨rfl, rfl⟩, by decide⟩ ⟨⟨Nat.le_of_ble_eq_true rfl, Nat.le_of_ble_eq_true rfl⟩, Nat.le_of_ble_eq_true rfl, Nat.le_of_ble_eq_true rfl, Nat.le_of_ble_eq_true rfl⟩ rfl dX2_keepRoots_31 (fun z H locs hP hD hS => ?_)
                  have hP : va_P (gD G) vwCl [(h_fo, .inr (1, [.int fo_operators, .ref h_fo_roots, .ref h_fo_leftChildren, .ref h_fo_rightChildren, .ref h_fo_counts])), (h_fo_counts, .inl (gI G, 1210, .inl o31)), (h_fo_leftChildren, .inl (gI G, 10, .inl fo_leftChildren)), (h_fo_rightChildren, .inl (gI G, 10, .inl fo_rightChildren)), (h_fo_roots, .inl (gI G, 121, .inl fo_roots))] H := hP
                  have hD : va_D A [(h_fo, .inr (1, [.int fo_operators, .ref h_fo_roots, .ref h_fo_leftChildren, .ref h_fo_rightChildren, .ref h_fo_counts])), (h_fo_counts, .inl (gI G, 1210, .inl o31)), (h_fo_leftChildren, .inl (gI G, 10, .inl fo_leftChildren)), (h_fo_rightChildren, .inl (gI G, 10, .inl fo_rightChildren)), (h_fo_roots, .inl (gI G, 121, .inl fo_roots))] := hD
                  refine lv_aload_n hx hb dX2_keepRoots_34 rfl (lv_at hl 1 rfl) ?_
                  refine lv_iload_n hx hb dX2_keepRoots_35 rfl (lv_at hl 4 rfl) ?_
                  refine lv_iload hx hb dX2_keepRoots_36 (lv_at hl 0 rfl) ?_
                  refine lv_iload_n hx hb dX2_keepRoots_38 rfl (lv_at hl 2 rfl) ?_
                  obtain ⟨o39, e39, h⟩ := bd h
                  refine Ci.V (c_X2_treesOf F l G h_fo h_fo_roots h_fo_leftChildren h_fo_rightChildren h_fo_counts fo_operators o31 v3 (v3 + v2) v1 H.size o39 e39) hB km_X2_treesOf ⟨im_X2_treesOf, sl_X2_treesOf⟩ ml_RX2_64 hP hD hS hl ⟨0, 1, _, _, rfl, rfl, rfl⟩ [0, 1] [2, 3, 4] ⟨rfl, rfl, ⟨rfl, rfl⟩, by decide⟩ ⟨⟨Nat.le_of_ble_eq_true rfl, Nat.le_of_ble_eq_true rfl⟩, Nat.le_of_ble_eq_true rfl, Nat.le_of_ble_eq_true rfl, Nat.le_of_ble_eq_true rfl⟩ rfl dX2_keepRoots_39 (fun z H locs hP hD hS => ?_)
                  have hP : va_P (gD G) vwCl [(h_fo_leftChildren, .inl (gI G, 10, .inl fo_leftChildren)), (h_fo_rightChildren, .inl (gI G, 10, .inl fo_rightChildren)), (h_fo_roots, .inl (gI G, 121, .inl fo_roots)), (h_fo, .inr (1, [.int fo_operators, .ref h_fo_roots, .ref h_fo_leftChildren, .ref h_fo_rightChildren, .ref h_fo_counts])), (h_fo_counts, .inl (gI G, 1210, .inl o31))] H := hP
                  have hD : va_D A [(h_fo_leftChildren, .inl (gI G, 10, .inl fo_leftChildren)), (h_fo_rightChildren, .inl (gI G, 10, .inl fo_rightChildren)), (h_fo_roots, .inl (gI G, 121, .inl fo_roots)), (h_fo, .inr (1, [.int fo_operators, .ref h_fo_roots, .ref h_fo_leftChildren, .ref h_fo_rightChildren, .ref h_fo_counts])), (h_fo_counts, .inl (gI G, 1210, .inl o31))] := hD
                  refine lv_if_le (tgt := 67) hx hb dX2_keepRoots_42 (by decide) (fun c42 => ?_) (fun c42 => ?_)
                  · have h := ip c42 h
                    refine lv_iinc (v := (v3 + 1)) (lv' := [(3, .int (v3 + 1)), (4, .int (v3 + v2)), (0, .ref h_fo), (1, .int v1), (2, .int v2)]) hx hb dX2_keepRoots_67 hl (k := 4) rfl rfl (by decide) rfl (fun ls hl => ?_)
                    refine lv_goto (tgt := 12) hx hb dX2_keepRoots_70 (by decide) ?_
                    exact ih v1 v2 (v3 + 1) o31 fo_roots X H locs ls (hP.sub [3, 4, 0, 1, 2] rfl) (hD.sub [3, 4, 0, 1, 2] (by decide) rfl) hS (lv_sub hl [2, 3, 4, 0] rfl) h HX
                  · have h := ing c42 h
                    refine lv_aload_n hx hb dX2_keepRoots_45 rfl (lv_at hl 1 rfl) ?_
                    refine va_get (D := gD G) (ci := 1) (v := .ref h_fo_roots) (C := RX2) (T := TX2) (N := 5) hx hb hts lk_X2 hown hK hP 3 rfl rfl 1 (by decide) (hts _ fl_RX2_15) (fun _ h9 => h9) rfl dX2_keepRoots_46 ?_
                    refine lv_iload_n hx hb dX2_keepRoots_49 rfl (lv_at hl 4 rfl) ?_
                    refine lv_iload hx hb dX2_keepRoots_50 (lv_at hl 0 rfl) ?_
                    obtain ⟨o52, e52, h⟩ := bd h
                    refine Ci.SN (c_X7_spanIndex F l G v3 (v3 + v2) H.size o52 e52) hB km_X7_spanIndex st_X7_spanIndex mn_RX2_68 hP hD hS hl [] [0, 1, 2, 3, 4] ⟨rfl, rfl, ⟨rfl, rfl⟩, by decide⟩ ⟨⟨Nat.le_of_ble_eq_true rfl, Nat.le_of_ble_eq_true rfl⟩, Nat.le_of_ble_eq_true rfl, Nat.le_of_ble_eq_true rfl, Nat.le_of_ble_eq_true rfl⟩ rfl dX2_keepRoots_52 (fun z H locs hP hD hS => ?_)
                    have hP : va_P (gD G) vwCl [(h_fo_leftChildren, .inl (gI G, 10, .inl fo_leftChildren)), (h_fo_rightChildren, .inl (gI G, 10, .inl fo_rightChildren)), (h_fo_roots, .inl (gI G, 121, .inl fo_roots)), (h_fo, .inr (1, [.int fo_operators, .ref h_fo_roots, .ref h_fo_leftChildren, .ref h_fo_rightChildren, .ref h_fo_counts])), (h_fo_counts, .inl (gI G, 1210, .inl o31))] H := hP
                    have hD : va_D A [(h_fo_leftChildren, .inl (gI G, 10, .inl fo_leftChildren)), (h_fo_rightChildren, .inl (gI G, 10, .inl fo_rightChildren)), (h_fo_roots, .inl (gI G, 121, .inl fo_roots)), (h_fo, .inr (1, [.int fo_operators, .ref h_fo_roots, .ref h_fo_leftChildren, .ref h_fo_rightChildren, .ref h_fo_counts])), (h_fo_counts, .inl (gI G, 1210, .inl o31))] := hD
                    refine lv_dup2_11 hx hb dX2_keepRoots_55 rfl rfl ?_
                    obtain ⟨g56, h⟩ := gd h
                    refine va_iald hx hb hK hP 2 1 rfl rfl g56 dX2_keepRoots_56 ?_
                    refine lv_iload_n hx hb dX2_keepRoots_57 rfl (lv_at hl 2 rfl) ?_
                    refine lv_iand hx hb dX2_keepRoots_58 ?_
                    obtain ⟨g59, h⟩ := gd h
                    refine va_iast hx hb hK hP hD hS 2 1 rfl rfl g59 dX2_keepRoots_59 (fun H locs hP hD hS => ?_)
                    have hP : va_P (gD G) vwCl [(h_fo_leftChildren, .inl (gI G, 10, .inl fo_leftChildren)), (h_fo_rightChildren, .inl (gI G, 10, .inl fo_rightChildren)), (h_fo_roots, .inl (gI G, 121, .inl (upd fo_roots (o52).toNatClampNeg ((fo_roots (o52).toNatClampNeg) &&& v1)))), (h_fo, .inr (1, [.int fo_operators, .ref h_fo_roots, .ref h_fo_leftChildren, .ref h_fo_rightChildren, .ref h_fo_counts])), (h_fo_counts, .inl (gI G, 1210, .inl o31))] H := hP
                    have hD : va_D A [(h_fo_leftChildren, .inl (gI G, 10, .inl fo_leftChildren)), (h_fo_rightChildren, .inl (gI G, 10, .inl fo_rightChildren)), (h_fo_roots, .inl (gI G, 121, .inl (upd fo_roots (o52).toNatClampNeg ((fo_roots (o52).toNatClampNeg) &&& v1)))), (h_fo, .inr (1, [.int fo_operators, .ref h_fo_roots, .ref h_fo_leftChildren, .ref h_fo_rightChildren, .ref h_fo_counts])), (h_fo_counts, .inl (gI G, 1210, .inl o31))] := hD
                    refine lv_aload_n hx hb dX2_keepRoots_60 rfl (lv_at hl 1 rfl) ?_
                    refine lv_iload_n hx hb dX2_keepRoots_61 rfl (lv_at hl 4 rfl) ?_
                    refine lv_iload hx hb dX2_keepRoots_62 (lv_at hl 0 rfl) ?_
                    obtain ⟨o64, e64, h⟩ := bd h
                    refine Cv.V (c_X2_countSpan F l G h_fo h_fo_roots h_fo_leftChildren h_fo_rightChildren h_fo_counts fo_operators o31 fo_leftChildren fo_rightChildren (upd fo_roots (o52).toNatClampNeg ((fo_roots (o52).toNatClampNeg) &&& v1)) v3 (v3 + v2) H.size o64 e64) hB km_X2_countSpan ⟨im_X2_countSpan, sl_X2_countSpan⟩ ml_RX2_60 hP hD hS hl ⟨0, 1, _, _, rfl, rfl, rfl⟩ [3, 4, 0, 1, 2] [] ⟨rfl, rfl, ⟨rfl, rfl⟩, by decide⟩ ⟨⟨Nat.le_of_ble_eq_true rfl, Nat.le_of_ble_eq_true rfl⟩, Nat.le_of_ble_eq_true rfl, Nat.le_of_ble_eq_true rfl, Nat.le_of_ble_eq_true rfl⟩ rfl dX2_keepRoots_64 (fun z H locs hP hD hS => ?_)
                    have hP : va_P (gD G) vwCl [(h_fo, .inr (1, [.int fo_operators, .ref h_fo_roots, .ref h_fo_leftChildren, .ref h_fo_rightChildren, .ref h_fo_counts])), (h_fo_counts, .inl (gI G, 1210, .inl o64)), (h_fo_leftChildren, .inl (gI G, 10, .inl fo_leftChildren)), (h_fo_rightChildren, .inl (gI G, 10, .inl fo_rightChildren)), (h_fo_roots, .inl (gI G, 121, .inl (upd fo_roots (o52).toNatClampNeg ((fo_roots (o52).toNatClampNeg) &&& v1))))] H := hP
                    have hD : va_D A [(h_fo, .inr (1, [.int fo_operators, .ref h_fo_roots, .ref h_fo_leftChildren, .ref h_fo_rightChildren, .ref h_fo_counts])), (h_fo_counts, .inl (gI G, 1210, .inl o64)), (h_fo_leftChildren, .inl (gI G, 10, .inl fo_leftChildren)), (h_fo_rightChildren, .inl (gI G, 10, .inl fo_rightChildren)), (h_fo_roots, .inl (gI G, 121, .inl (upd fo_roots (o52).toNatClampNeg ((fo_roots (o52).toNatClampNeg) &&& v1))))] := hD
                    refine lv_iinc (v := (v3 + 1)) (lv' := [(3, .int (v3 + 1)), (4, .int (v3 + v2)), (0, .ref h_fo), (1, .int v1), (2, .int v2)]) hx hb dX2_keepRoots_67 hl (k := 4) rfl rfl (by decide) rfl (fun ls hl => ?_)
                    refine lv_goto (tgt := 12) hx hb dX2_keepRoots_70 (by decide) ?_
                    exact ih v1 v2 (v3 + 1) o64 (upd fo_roots (o52).toNatClampNeg ((fo_roots (o52).toNatClampNeg) &&& v1)) X H locs ls hP hD hS (lv_sub hl [2, 3, 4, 0] rfl) h HX
          refine Lp12 F v1 v2 0 fo_counts fo_roots _ H locs ls hP hD hS (lv_sub hl [1, 2, 3, 0] rfl) h (fun fo_counts fo_roots H locs ls hP hD hS hl h => ?_)
          refine lv_iinc (v := (v2 + 1)) (lv' := [(2, .int (v2 + 1)), (0, .ref h_fo), (1, .int v1)]) hx hb dX2_keepRoots_73 hl (k := 2) rfl rfl (by decide) rfl (fun ls hl => ?_)
          refine lv_goto (tgt := 2) hx hb dX2_keepRoots_76 (by decide) ?_
          exact ih v1 (v2 + 1) fo_counts fo_roots X H locs ls hP hD hS (lv_sub hl [1, 2, 0] rfl) h HX
  refine Lp2 F p1 1 fo_counts fo_roots _ H locs ls hP hD hS (lv_sub hl [1, 2, 0] rfl) h (fun fo_counts fo_roots H locs ls hP hD hS hl h => ?_)
  cases h
  exact hret (fun _ => 0) _ _ _ _ hP hD hS dX2_keepRoots_79
