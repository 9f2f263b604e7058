abbrev rm_X6_hasSubtree : Room := { frames := 1, cells := 0, slots := 0, locals := 21 }
theorem km_X6_hasSubtree : KM yX6_hasSubtree cX6_hasSubtree 3 (some .boolean) 2 := ⟨co_X6_hasSubtree, in_RX6, by decide +kernel⟩
set_option maxHeartbeats 4000000 in
set_option maxRecDepth 100000 in
theorem c_X6_hasSubtree (F : Nat) (l : Launch) (G : GT) (h_tr h_tr_roots h_tr_ranks h_tr_allowedRoots h_tr_ranksBelowRoot h_tr_results : Nat) (tr_operators : Int32) (tr_ranks : Nat → Int32) (p1 : Int32) (p2 : Int32) (sz : Nat) (out : Int32) (h : f_X6_hasSubtree F p1 p2 tr_ranks = some out) : Ci G l yX6_hasSubtree cX6_hasSubtree 3 (some .boolean) rm_X6_hasSubtree [.ref h_tr, .int p1, .int p2] [(h_tr, .inr (5, [.int tr_operators, .ref h_tr_roots, .ref h_tr_ranks, .ref h_tr_allowedRoots, .ref h_tr_ranksBelowRoot, .ref h_tr_results])), (h_tr_ranks, .inl (gI G, 121, .inl tr_ranks))] sz out (fun _ => [(h_tr, .inr (5, [.int tr_operators, .ref h_tr_roots, .ref h_tr_ranks, .ref h_tr_allowedRoots, .ref h_tr_ranksBelowRoot, .ref h_tr_results])), (h_tr_ranks, .inl (gI G, 121, .inl tr_ranks))]) := by
  refine Ci.start rfl (by decide) (Nat.le_of_ble_eq_true rfl) ?_
  intro p e s m args below meth c A Q H locs ls hB hP hD hS hl hret
  obtain ⟨hx, hb, hmL, hr, hown, hts, hlocks, hnm, hA, hE⟩ := id hB
  obtain ⟨hK, hN, hV, hR, hZ, hZq, hAO⟩ := id hE
  have hown : s.vm.findClass RX6 = some m.cls := hown
  have hl : lv_has ls 3 [(0, .ref h_tr), (1, .int p1), (2, .int p2)] := hl
  rw [f_X6_hasSubtree] at h
  refine lv_aload_n hx hb dX6_hasSubtree_0 rfl (lv_at hl 0 rfl) ?_
  refine va_get (D := gD G) (ci := 5) (v := .ref h_tr_ranks) (C := RX6) (T := TX6) (N := 6) hx hb hts lk_X6 hown hK hP 0 rfl rfl 2 (by decide) (hts _ fl_RX6_19) (fun _ h9 => h9) rfl dX6_hasSubtree_1 ?_
  refine lv_iload_n hx hb dX6_hasSubtree_4 rfl (lv_at hl 1 rfl) ?_
  refine lv_iload_n hx hb dX6_hasSubtree_5 rfl (lv_at hl 2 rfl) ?_
  obtain ⟨o6, e6, h⟩ := bd h
  refine Ci.SN (wr := [(h_tr, .inr (5, [.int tr_operators, .ref h_tr_roots, .ref h_tr_ranks, .ref h_tr_allowedRoots, .ref h_tr_ranksBelowRoot, .ref h_tr_results])), (h_tr_ranks, .inl (gI G, 121, .inl tr_ranks))]) (c_X7_spanIndex F l G p1 p2 H.size o6 e6) hB km_X7_spanIndex st_X7_spanIndex mn_RX6_53 hP hD hS hl [] [0, 1] ⟨rfl, rfl, ⟨rfl, rfl⟩, by decide⟩ ⟨⟨Nat.le_of_ble_eq_true rfl, Nat.le_of_ble_eq_true rfl⟩, Nat.le_of_ble_eq_true rfl, Nat.le_of_ble_eq_true rfl, Nat.le_of_ble_eq_true rfl⟩ rfl dX6_hasSubtree_6 (fun z H locs hP hD hS => ?_)
  have hP : va_P (gD G) vwCl [(h_tr, .inr (5, [.int tr_operators, .ref h_tr_roots, .ref h_tr_ranks, .ref h_tr_allowedRoots, .ref h_tr_ranksBelowRoot, .ref h_tr_results])), (h_tr_ranks, .inl (gI G, 121, .inl tr_ranks))] H := hP
  have hD : va_D A [(h_tr, .inr (5, [.int tr_operators, .ref h_tr_roots, .ref h_tr_ranks, .ref h_tr_allowedRoots, .ref h_tr_ranksBelowRoot, .ref h_tr_results])), (h_tr_ranks, .inl (gI G, 121, .inl tr_ranks))] := hD
  obtain ⟨g9, h⟩ := gda h
  refine va_iald hx hb hK hP 1 1 rfl rfl g9 dX6_hasSubtree_9 ?_
  refine lv_iconst (v := (-1)) hx hb dX6_hasSubtree_10 (by decide) ?_
  refine lv_icmp_eq (tgt := 18) hx hb dX6_hasSubtree_11 (by decide) (fun c11 => ?_) (fun c11 => ?_)
  · have h := ip c11 h
    refine lv_iconst (v := 0) hx hb dX6_hasSubtree_18 (by decide) ?_
    cases h
    exact hret (fun _ => 0) _ _ _ _ hP hD hS (nz (Or.inl rfl)) dX6_hasSubtree_19
  · have h := ing c11 h
    refine lv_iconst (v := 1) hx hb dX6_hasSubtree_14 (by decide) ?_
    refine lv_goto (tgt := 19) hx hb dX6_hasSubtree_15 (by decide) ?_
    cases h
    exact hret (fun _ => 0) _ _ _ _ hP hD hS (nz (Or.inr rfl)) dX6_hasSubtree_19
abbrev rm_X6_putSubtree : Room := { frames := 1, cells := 0, slots := 0, locals := 21 }
theorem km_X6_putSubtree : KM yX6_putSubtree cX6_putSubtree 6 none 4 := ⟨co_X6_putSubtree, in_RX6, by decide +kernel⟩
set_option maxHeartbeats 4000000 in
set_option maxRecDepth 100000 in
theorem c_X6_putSubtree (F : Nat) (l : Launch) (G : GT) (h_tr h_tr_roots h_tr_ranks h_tr_allowedRoots h_tr_ranksBelowRoot h_tr_results : Nat) (tr_operators : Int32) (tr_allowedRoots : Nat → Int32) (tr_ranks : Nat → Int32) (p1 : Int32) (p2 : Int32) (p3 : Int32) (p4 : Int32) (sz : Nat) (out : (Nat → Int32) × (Nat → Int32)) (h : f_X6_putSubtree F p1 p2 p3 p4 tr_allowedRoots tr_ranks = some out) : Cv G l yX6_putSubtree cX6_putSubtree 6 none rm_X6_putSubtree [.ref h_tr, .int p1, .int p2, .int p3, .int p4] [(h_tr, .inr (5, [.int tr_operators, .ref h_tr_roots, .ref h_tr_ranks, .ref h_tr_allowedRoots, .ref h_tr_ranksBelowRoot, .ref h_tr_results])), (h_tr_allowedRoots, .inl (gI G, 121, .inl tr_allowedRoots)), (h_tr_ranks, .inl (gI G, 121, .inl tr_ranks))] sz (fun _ => [(h_tr, .inr (5, [.int tr_operators, .ref h_tr_roots, .ref h_tr_ranks, .ref h_tr_allowedRoots, .ref h_tr_ranksBelowRoot, .ref h_tr_results])), (h_tr_allowedRoots, .inl (gI G, 121, .inl (out.1))), (h_tr_ranks, .inl (gI G, 121, .inl (out.2)))]) := by
  refine Cv.start (by decide) (Nat.le_of_ble_eq_true rfl) ?_
  intro p e s m args below meth c A Q H locs ls hB hP hD hS hl hret
  obtain ⟨hx, hb, hmL, hr, hown, hts, hlocks, hnm, hA, hE⟩ := id hB
  obtain ⟨hK, hN, hV, hR, hZ, hZq, hAO⟩ := id hE
  have hown : s.vm.findClass RX6 = some m.cls := hown
  have hl : lv_has ls 6 [(0, .ref h_tr), (1, .int p1), (2, .int p2), (3, .int p3), (4, .int p4)] := hl
  rw [f_X6_putSubtree] at h
  refine lv_iload_n hx hb dX6_putSubtree_0 rfl (lv_at hl 1 rfl) ?_
  refine lv_iload_n hx hb dX6_putSubtree_1 rfl (lv_at hl 2 rfl) ?_
  obtain ⟨o2, e2, h⟩ := bd h
  refine Ci.SN (wr := [(h_tr, .inr (5, [.int tr_operators, .ref h_tr_roots, .ref h_tr_ranks, .ref h_tr_allowedRoots, .ref h_tr_ranksBelowRoot, .ref h_tr_results])), (h_tr_allowedRoots, .inl (gI G, 121, .inl tr_allowedRoots)), (h_tr_ranks, .inl (gI G, 121, .inl tr_ranks))]) (c_X7_spanIndex F l G p1 p2 H.size o2 e2) hB km_X7_spanIndex st_X7_spanIndex mn_RX6_53 hP hD hS hl [] [0, 1, 2] ⟨rfl, rfl, ⟨rfl, rfl⟩, by decide⟩ ⟨⟨Nat.le_of_ble_eq_true rfl, Nat.le_of_ble_eq_true rfl⟩, Nat.le_of_ble_eq_true rfl, Nat.le_of_ble_eq_true rfl, Nat.le_of_ble_eq_true rfl⟩ rfl dX6_putSubtree_2 (fun z H locs hP hD hS => ?_)
  have hP : va_P (gD G) vwCl [(h_tr, .inr (5, [.int tr_operators, .ref h_tr_roots, .ref h_tr_ranks, .ref h_tr_allowedRoots, .ref h_tr_ranksBelowRoot, .ref h_tr_results])), (h_tr_allowedRoots, .inl (gI G, 121, .inl tr_allowedRoots)), (h_tr_ranks, .inl (gI G, 121, .inl tr_ranks))] H := hP
  have hD : va_D A [(h_tr, .inr (5, [.int tr_operators, .ref h_tr_roots, .ref h_tr_ranks, .ref h_tr_allowedRoots, .ref h_tr_ranksBelowRoot, .ref h_tr_results])), (h_tr_allowedRoots, .inl (gI G, 121, .inl tr_allowedRoots)), (h_tr_ranks, .inl (gI G, 121, .inl tr_ranks))] := hD
  refine lv_istore (lv' := [(5, .int o2), (0, .ref h_tr), (1, .int p1), (2, .int p2), (3, .int p3), (4, .int p4)]) hx hb dX6_putSubtree_5 hl (by decide) rfl (fun ls hl => ?_)
  refine lv_aload_n hx hb dX6_putSubtree_7 rfl (lv_at hl 1 rfl) ?_
  refine va_get (D := gD G) (ci := 5) (v := .ref h_tr_allowedRoots) (C := RX6) (T := TX6) (N := 6) hx hb hts lk_X6 hown hK hP 0 rfl rfl 3 (by decide) (hts _ fl_RX6_22) (fun _ h9 => h9) rfl dX6_putSubtree_8 ?_
  refine lv_iload hx hb dX6_putSubtree_11 (lv_at hl 0 rfl) ?_
  refine lv_iload_n hx hb dX6_putSubtree_13 rfl (lv_at hl 4 rfl) ?_
  obtain ⟨g14, h⟩ := gda h
  refine va_iast hx hb hK hP hD hS 1 1 rfl rfl g14 dX6_putSubtree_14 (fun H locs hP hD hS => ?_)
  have hP : va_P (gD G) vwCl [(h_tr, .inr (5, [.int tr_operators, .ref h_tr_roots, .ref h_tr_ranks, .ref h_tr_allowedRoots, .ref h_tr_ranksBelowRoot, .ref h_tr_results])), (h_tr_allowedRoots, .inl (gI G, 121, .inl (upd tr_allowedRoots (Int32.toNatClampNeg o2) p3))), (h_tr_ranks, .inl (gI G, 121, .inl tr_ranks))] H := hP
  have hD : va_D A [(h_tr, .inr (5, [.int tr_operators, .ref h_tr_roots, .ref h_tr_ranks, .ref h_tr_allowedRoots, .ref h_tr_ranksBelowRoot, .ref h_tr_results])), (h_tr_allowedRoots, .inl (gI G, 121, .inl (upd tr_allowedRoots (Int32.toNatClampNeg o2) p3))), (h_tr_ranks, .inl (gI G, 121, .inl tr_ranks))] := hD
  refine lv_aload_n hx hb dX6_putSubtree_15 rfl (lv_at hl 1 rfl) ?_
  refine va_get (D := gD G) (ci := 5) (v := .ref h_tr_ranks) (C := RX6) (T := TX6) (N := 6) hx hb hts lk_X6 hown hK hP 0 rfl rfl 2 (by decide) (hts _ fl_RX6_19) (fun _ h9 => h9) rfl dX6_putSubtree_16 ?_
  refine lv_iload hx hb dX6_putSubtree_19 (lv_at hl 0 rfl) ?_
  refine lv_iload hx hb dX6_putSubtree_21 (lv_at hl 5 rfl) ?_
  obtain ⟨g23, h⟩ := gda h
  refine va_iast hx hb hK hP hD hS 2 1 rfl rfl g23 dX6_putSubtree_23 (fun H locs hP hD hS => ?_)
  have hP : va_P (gD G) vwCl [(h_tr, .inr (5, [.int tr_operators, .ref h_tr_roots, .ref h_tr_ranks, .ref h_tr_allowedRoots, .ref h_tr_ranksBelowRoot, .ref h_tr_results])), (h_tr_allowedRoots, .inl (gI G, 121, .inl (upd tr_allowedRoots (Int32.toNatClampNeg o2) p3))), (h_tr_ranks, .inl (gI G, 121, .inl (upd tr_ranks (Int32.toNatClampNeg o2) p4)))] H := hP
  have hD : va_D A [(h_tr, .inr (5, [.int tr_operators, .ref h_tr_roots, .ref h_tr_ranks, .ref h_tr_allowedRoots, .ref h_tr_ranksBelowRoot, .ref h_tr_results])), (h_tr_allowedRoots, .inl (gI G, 121, .inl (upd tr_allowedRoots (Int32.toNatClampNeg o2) p3))), (h_tr_ranks, .inl (gI G, 121, .inl (upd tr_ranks (Int32.toNatClampNeg o2) p4)))] := hD
  cases h
  exact hret (fun _ => 0) _ _ _ _ hP hD hS dX6_putSubtree_24
abbrev rm_X6_splitSubtree : Room := { frames := 2, cells := 0, slots := 0, locals := 47 }
theorem km_X6_splitSubtree : KM yX6_splitSubtree cX6_splitSubtree 9 none 3 := ⟨co_X6_splitSubtree, in_RX6, by decide +kernel⟩
set_option maxHeartbeats 4000000 in
set_option maxRecDepth 100000 in
theorem c_X6_splitSubtree (F : Nat) (l : Launch) (G : GT) (h_fo h_fo_roots h_fo_leftChildren h_fo_rightChildren h_fo_counts h_tr h_tr_roots h_tr_ranks h_tr_allowedRoots h_tr_ranksBelowRoot h_tr_results : Nat) (fo_operators : Int32) (tr_operators : Int32) (fo_counts : Nat → Int32) (fo_leftChildren : Nat → Int32) (fo_rightChildren : Nat → Int32) (tr_allowedRoots : Nat → Int32) (tr_ranks : Nat → Int32) (tr_roots : Nat → Int32) (p2 : Int32) (p3 : Int32) (sz : Nat) (out : (Nat → Int32) × (Nat → Int32) × (Nat → Int32)) (h : f_X6_splitSubtree F p2 p3 fo_counts fo_leftChildren fo_rightChildren tr_allowedRoots tr_ranks tr_roots = some out) : Cv G l yX6_splitSubtree cX6_splitSubtree 9 none rm_X6_splitSubtree [.ref h_tr, .ref h_fo, .int p2, .int p3] [(h_fo, .inr (1, [.int fo_operators, .ref h_fo_roots, .ref h_fo_leftChildren, .ref h_fo_rightChildren, .ref h_fo_counts])), (h_tr, .inr (5, [.int tr_operators, .ref h_tr_roots, .ref h_tr_ranks, .ref h_tr_allowedRoots, .ref h_tr_ranksBelowRoot, .ref h_tr_results])), (h_fo_counts, .inl (gI G, 1210, .inl fo_counts)), (h_fo_leftChildren, .inl (gI G, 10, .inl fo_leftChildren)), (h_fo_rightChildren, .inl (gI G, 10, .inl fo_rightChildren)), (h_tr_allowedRoots, .inl (gI G, 121, .inl tr_allowedRoots)), (h_tr_ranks, .inl (gI G, 121, .inl tr_ranks)), (h_tr_roots, .inl (gI G, 121, .inl tr_roots))] sz (fun _ => [(h_fo, .inr (1, [.int fo_operators, .ref h_fo_roots, .ref h_fo_leftChildren, .ref h_fo_rightChildren, .ref h_fo_counts])), (h_tr, .inr (5, [.int tr_operators, .ref h_tr_roots, .ref h_tr_ranks, .ref h_tr_allowedRoots, .ref h_tr_ranksBelowRoot, .ref h_tr_results])), (h_fo_counts, .inl (gI G, 1210, .inl fo_counts)), (h_fo_leftChildren, .inl (gI G, 10, .inl fo_leftChildren)), (h_fo_rightChildren, .inl (gI G, 10, .inl fo_rightChildren)), (h_tr_allowedRoots, .inl (gI G, 121, .inl (out.1))), (h_tr_ranks, .inl (gI G, 121, .inl (out.2.1))), (h_tr_roots, .inl (gI G, 121, .inl (out.2.2)))]) := by
  refine Cv.start (by decide) (Nat.le_of_ble_eq_true rfl) ?_
  intro p e s m args below meth c A Q H locs ls hB hP hD hS hl hret
  obtain ⟨hx, hb, hmL, hr, hown, hts, hlocks, hnm, hA, hE⟩ := id hB
  obtain ⟨hK, hN, hV, hR, hZ, hZq, hAO⟩ := id hE
  have hown : s.vm.findClass RX6 = some m.cls := hown
  have hl : lv_has ls 9 [(0, .ref h_tr), (1, .ref h_fo), (2, .int p2), (3, .int p3)] := hl
  rw [f_X6_splitSubtree] at h
  refine lv_iload_n hx hb dX6_splitSubtree_0 rfl (lv_at hl 2 rfl) ?_
  refine lv_iload_n hx hb dX6_splitSubtree_1 rfl (lv_at hl 3 rfl) ?_
  obtain ⟨o2, e2, h⟩ := bd h
  refine Ci.SN (wr := [(h_fo, .inr (1, [.int fo_operators, .ref h_fo_roots, .ref h_fo_leftChildren, .ref h_fo_rightChildren, .ref h_fo_counts])), (h_tr, .inr (5, [.int tr_operators, .ref h_tr_roots, .ref h_tr_ranks, .ref h_tr_allowedRoots, .ref h_tr_ranksBelowRoot, .ref h_tr_results])), (h_fo_counts, .inl (gI G, 1210, .inl fo_counts)), (h_fo_leftChildren, .inl (gI G, 10, .inl fo_leftChildren)), (h_fo_rightChildren, .inl (gI G, 10, .inl fo_rightChildren)), (h_tr_allowedRoots, .inl (gI G, 121, .inl tr_allowedRoots)), (h_tr_ranks, .inl (gI G, 121, .inl tr_ranks)), (h_tr_roots, .inl (gI G, 121, .inl tr_roots))]) (c_X7_spanIndex F l G p2 p3 H.size o2 e2) hB km_X7_spanIndex st_X7_spanIndex mn_RX6_53 hP hD hS hl [] [0, 1, 2, 3, 4, 5, 6, 7] ⟨rfl, rfl, ⟨rfl, rfl⟩, by decide⟩ ⟨⟨Nat.le_of_ble_eq_true rfl, Nat.le_of_ble_eq_true rfl⟩, Nat.le_of_ble_eq_true rfl, Nat.le_of_ble_eq_true rfl, Nat.le_of_ble_eq_true rfl⟩ rfl dX6_splitSubtree_2 (fun z H locs hP hD hS => ?_)
  have hP : va_P (gD G) vwCl [(h_fo, .inr (1, [.int fo_operators, .ref h_fo_roots, .ref h_fo_leftChildren, .ref h_fo_rightChildren, .ref h_fo_counts])), (h_tr, .inr (5, [.int tr_operators, .ref h_tr_roots, .ref h_tr_ranks, .ref h_tr_allowedRoots, .ref h_tr_ranksBelowRoot, .ref h_tr_results])), (h_fo_counts, .inl (gI G, 1210, .inl fo_counts)), (h_fo_leftChildren, .inl (gI G, 10, .inl fo_leftChildren)), (h_fo_rightChildren, .inl (gI G, 10, .inl fo_rightChildren)), (h_tr_allowedRoots, .inl (gI G, 121, .inl tr_allowedRoots)), (h_tr_ranks, .inl (gI G, 121, .inl tr_ranks)), (h_tr_roots, .inl (gI G, 121, .inl tr_roots))] H := hP
  have hD : va_D A [(h_fo, .inr (1, [.int fo_operators, .ref h_fo_roots, .ref h_fo_leftChildren, .ref h_fo_rightChildren, .ref h_fo_counts])), (h_tr, .inr (5, [.int tr_operators, .ref h_tr_roots, .ref h_tr_ranks, .ref h_tr_allowedRoots, .ref h_tr_ranksBelowRoot, .ref h_tr_results])), (h_fo_counts, .inl (gI G, 1210, .inl fo_counts)), (h_fo_leftChildren, .inl (gI G, 10, .inl fo_leftChildren)), (h_fo_rightChildren, .inl (gI G, 10, .inl fo_rightChildren)), (h_tr_allowedRoots, .inl (gI G, 121, .inl tr_allowedRoots)), (h_tr_ranks, .inl (gI G, 121, .inl tr_ranks)), (h_tr_roots, .inl (gI G, 121, .inl tr_roots))] := hD
  refine lv_istore (lv' := [(4, .int o2), (0, .ref h_tr), (1, .ref h_fo), (2, .int p2), (3, .int p3)]) hx hb dX6_splitSubtree_5 hl (by decide) rfl (fun ls hl => ?_)
  refine lv_aload_n hx hb dX6_splitSubtree_7 rfl (lv_at hl 1 rfl) ?_
  refine va_get (D := gD G) (ci := 5) (v := .ref h_tr_allowedRoots) (C := RX6) (T := TX6) (N := 6) hx hb hts lk_X6 hown hK hP 1 rfl rfl 3 (by decide) (hts _ fl_RX6_22) (fun _ h9 => h9) rfl dX6_splitSubtree_8 ?_
  refine lv_iload hx hb dX6_splitSubtree_11 (lv_at hl 0 rfl) ?_
  obtain ⟨g13, h⟩ := gda h
  refine va_iald hx hb hK hP 5 1 rfl rfl g13 dX6_splitSubtree_13 ?_
  refine lv_istore (lv' := [(5, .int (tr_allowedRoots (Int32.toNatClampNeg o2))), (4, .int o2), (0, .ref h_tr), (1, .ref h_fo), (2, .int p2), (3, .int p3)]) hx hb dX6_splitSubtree_14 hl (by decide) rfl (fun ls hl => ?_)
  refine lv_aload_n hx hb dX6_splitSubtree_16 rfl (lv_at hl 2 rfl) ?_
  refine va_get (D := gD G) (ci := 5) (v := .ref h_tr_ranks) (C := RX6) (T := TX6) (N := 6) hx hb hts lk_X6 hown hK hP 1 rfl rfl 2 (by decide) (hts _ fl_RX6_19) (fun _ h9 => h9) rfl dX6_splitSubtree_17 ?_
  refine lv_iload hx hb dX6_splitSubtree_20 (lv_at hl 1 rfl) ?_
  obtain ⟨g22, h⟩ := gda h
  refine va_iald hx hb hK hP 6 1 rfl rfl g22 dX6_splitSubtree_22 ?_
  refine lv_istore (lv' := [(6, .int (tr_ranks (Int32.toNatClampNeg o2))), (5, .int (tr_allowedRoots (Int32.toNatClampNeg o2))), (4, .int o2), (0, .ref h_tr), (1, .ref h_fo), (2, .int p2), (3, .int p3)]) hx hb dX6_splitSubtree_23 hl (by decide) rfl (fun ls hl => ?_)
  refine lv_iload_n hx hb dX6_splitSubtree_25 rfl (lv_at hl 5 rfl) ?_
  refine lv_istore (lv' := [(7, .int p2), (6, .int (tr_ranks (Int32.toNatClampNeg o2))), (5, .int (tr_allowedRoots (Int32.toNatClampNeg o2))), (4, .int o2), (0, .ref h_tr), (1, .ref h_fo), (2, .int p2), (3, .int p3)]) hx hb dX6_splitSubtree_26 hl (by decide) rfl (fun ls hl => ?_)
  have Lp28 : ∀ (n : Nat) (v2 : Int32) (v3 : Int32) (v4 : Int32) (v5 : Int32) (tr_allowedRoots : Nat → Int32) (tr_ranks : Nat → Int32) (tr_roots : Nat → Int32) (v6 : Int32) (v7 : Int32) (X : Int32 → Int32 → Option ((Nat → Int32) × (Nat → Int32) × (Nat → Int32))) (H : Heap) (locs : List Loc) (ls : Array Slot), va_P (gD G) vwCl [(h_fo, .inr (1, [.int fo_operators, .ref h_fo_roots, .ref h_fo_leftChildren, .ref h_fo_rightChildren, .ref h_fo_counts])), (h_tr, .inr (5, [.int tr_operators, .ref h_tr_roots, .ref h_tr_ranks, .ref h_tr_allowedRoots, .ref h_tr_ranksBelowRoot, .ref h_tr_results])), (h_fo_counts, .inl (gI G, 1210, .inl fo_counts)), (h_fo_leftChildren, .inl (gI G, 10, .inl fo_leftChildren)), (h_fo_rightChildren, .inl (gI G, 10, .inl fo_rightChildren)), (h_tr_allowedRoots, .inl (gI G, 121, .inl tr_allowedRoots)), (h_tr_ranks, .inl (gI G, 121, .inl tr_ranks)), (h_tr_roots, .inl (gI G, 121, .inl tr_roots))] H → va_D A [(h_fo, .inr (1, [.int fo_operators, .ref h_fo_roots, .ref h_fo_leftChildren, .ref h_fo_rightChildren, .ref h_fo_counts])), (h_tr, .inr (5, [.int tr_operators, .ref h_tr_roots, .ref h_tr_ranks, .ref h_tr_allowedRoots, .ref h_tr_ranksBelowRoot, .ref h_tr_results])), (h_fo_counts, .inl (gI G, 1210, .inl fo_counts)), (h_fo_leftChildren, .inl (gI G, 10, .inl fo_leftChildren)), (h_fo_rightChildren, .inl (gI G, 10, .inl fo_rightChildren)), (h_tr_allowedRoots, .inl (gI G, 121, .inl tr_allowedRoots)), (h_tr_ranks, .inl (gI G, 121, .inl tr_ranks)), (h_tr_roots, .inl (gI G, 121, .inl tr_roots))] → va_S A s.heap H locs → lv_has ls 9 [(0, .ref h_tr), (1, .ref h_fo), (2, .int v2), (3, .int v3), (4, .int v4), (5, .int v5), (6, .int v6), (7, .int v7)] → f_X6_splitSubtree_l28 F v2 v3 v4 v5 fo_counts n v6 v7 X = some out → (∀ (v6 : Int32) (v7 : Int32) (H : Heap) (locs : List Loc) (ls : Array Slot), va_P (gD G) vwCl [(h_fo, .inr (1, [.int fo_operators, .ref h_fo_roots, .ref h_fo_leftChildren, .ref h_fo_rightChildren, .ref h_fo_counts])), (h_tr, .inr (5, [.int tr_operators, .ref h_tr_roots, .ref h_tr_ranks, .ref h_tr_allowedRoots, .ref h_tr_ranksBelowRoot, .ref h_tr_results])), (h_fo_counts, .inl (gI G, 1210, .inl fo_counts)), (h_fo_leftChildren, .inl (gI G, 10, .inl fo_leftChildren)), (h_fo_rightChildren, .inl (gI G, 10, .inl fo_rightChildren)), (h_tr_allowedRoots, .inl (gI G, 121, .inl tr_allowedRoots)), (h_tr_ranks, .inl (gI G, 121, .inl tr_ranks)), (h_tr_roots, .inl (gI G, 121, .inl tr_roots))] H → va_D A [(h_fo, .inr (1, [.int fo_operators, .ref h_fo_roots, .ref h_fo_leftChildren, .ref h_fo_rightChildren, .ref h_fo_counts])), (h_tr, .inr (5, [.int tr_operators, .ref h_tr_roots, .ref h_tr_ranks, .ref h_tr_allowedRoots, .ref h_tr_ranksBelowRoot, .ref h_tr_results])), (h_fo_counts, .inl (gI G, 1210, .inl fo_counts)), (h_fo_leftChildren, .inl (gI G, 10, .inl fo_leftChildren)), (h_fo_rightChildren, .inl (gI G, 10, .inl fo_rightChildren)), (h_tr_allowedRoots, .inl (gI G, 121, .inl tr_allowedRoots)), (h_tr_ranks, .inl (gI G, 121, .inl tr_ranks)), (h_tr_roots, .inl (gI G, 121, .inl tr_roots))] → va_S A s.heap H locs → lv_has ls 9 [(0, .ref h_tr), (1, .ref h_fo), (2, .int v2), (3, .int v3), (4, .int v4), (6, .int v6), (7, .int v7)] → X v6 v7 = some out → W p l e rm_X6_splitSubtree s m args below meth c H locs 0 0 Q (F0 m 72 ls [])) → W p l e rm_X6_splitSubtree s m args below meth c H locs 0 0 Q (F0 m 28 ls []) := by
    intro n
    induction n with
    | zero => intro v2 v3 v4 v5 tr_allowedRoots tr_ranks tr_roots v6 v7 X H locs ls hP hD hS hl h HX; rw [f_X6_splitSubtree_l28] at h; cases h
    | succ n ih =>
        intro v2 v3 v4 v5 tr_allowedRoots tr_ranks tr_roots v6 v7 X H locs ls hP hD hS hl h HX
        rw [f_X6_splitSubtree_l28] at h
        refine lv_iload hx hb dX6_splitSubtree_28 (lv_at hl 7 rfl) ?_
        refine lv_iload_n hx hb dX6_splitSubtree_30 rfl (lv_at hl 3 rfl) ?_
        refine lv_iconst (v := 1) hx hb dX6_splitSubtree_31 (by decide) ?_
        refine lv_isub hx hb dX6_splitSubtree_32 ?_
        refine lv_icmp_ge (tgt := 72) hx hb dX6_splitSubtree_33 (by decide) (fun c33 => ?_) (fun c33 => ?_)
        · have h := ip c33 h
          exact HX v6 v7 H locs ls hP hD hS (lv_sub hl [0, 1, 2, 3, 4, 6, 7] rfl) h
        · have h := ing c33 h
          refine lv_iload hx hb dX6_splitSubtree_36 (lv_at hl 6 rfl) ?_
          refine lv_aload_n hx hb dX6_splitSubtree_38 rfl (lv_at hl 1 rfl) ?_
          refine lv_iload_n hx hb dX6_splitSubtree_39 rfl (lv_at hl 2 rfl) ?_
          refine lv_iload_n hx hb dX6_splitSubtree_40 rfl (lv_at hl 3 rfl) ?_
          refine lv_iload hx hb dX6_splitSubtree_41 (lv_at hl 7 rfl) ?_
          refine lv_iload hx hb dX6_splitSubtree_43 (lv_at hl 5 rfl) ?_
          obtain ⟨o45, e45, h⟩ := bd h
          refine Ci.V (wr := [(h_tr, .inr (5, [.int tr_operators, .ref h_tr_roots, .ref h_tr_ranks, .ref h_tr_allowedRoots, .ref h_tr_ranksBelowRoot, .ref h_tr_results])), (h_fo_leftChildren, .inl (gI G, 10, .inl fo_leftChildren)), (h_fo_rightChildren, .inl (gI G, 10, .inl fo_rightChildren)), (h_tr_allowedRoots, .inl (gI G, 121, .inl tr_allowedRoots)), (h_tr_ranks, .inl (gI G, 121, .inl tr_ranks)), (h_tr_roots, .inl (gI G, 121, .inl tr_roots))]) (c_X2_derivationsOf F l G h_fo h_fo_roots h_fo_leftChildren h_fo_rightChildren h_fo_counts fo_operators fo_counts v2 v3 v7 v5 H.size o45 e45) hB km_X2_derivationsOf ⟨im_X2_derivationsOf, sl_X2_derivationsOf⟩ ml_RX6_57 hP hD hS hl ⟨0, 1, _, _, rfl, rfl, rfl⟩ [0, 2] [1, 3, 4, 5, 6, 7] ⟨rfl, rfl, ⟨rfl, rfl⟩, by decide⟩ ⟨⟨Nat.le_of_ble_eq_true rfl, Nat.le_of_ble_eq_true rfl⟩, Nat.le_of_ble_eq_true rfl, Nat.le_of_ble_eq_true rfl, Nat.le_of_ble_eq_true rfl⟩ rfl dX6_splitSubtree_45 (fun z H locs hP hD hS => ?_)
          have hP : va_P (gD G) vwCl [(h_tr, .inr (5, [.int tr_operators, .ref h_tr_roots, .ref h_tr_ranks, .ref h_tr_allowedRoots, .ref h_tr_ranksBelowRoot, .ref h_tr_results])), (h_fo_leftChildren, .inl (gI G, 10, .inl fo_leftChildren)), (h_fo_rightChildren, .inl (gI G, 10, .inl fo_rightChildren)), (h_tr_allowedRoots, .inl (gI G, 121, .inl tr_allowedRoots)), (h_tr_ranks, .inl (gI G, 121, .inl tr_ranks)), (h_tr_roots, .inl (gI G, 121, .inl tr_roots)), (h_fo, .inr (1, [.int fo_operators, .ref h_fo_roots, .ref h_fo_leftChildren, .ref h_fo_rightChildren, .ref h_fo_counts])), (h_fo_counts, .inl (gI G, 1210, .inl fo_counts))] H := hP
          have hD : va_D A [(h_tr, .inr (5, [.int tr_operators, .ref h_tr_roots, .ref h_tr_ranks, .ref h_tr_allowedRoots, .ref h_tr_ranksBelowRoot, .ref h_tr_results])), (h_fo_leftChildren, .inl (gI G, 10, .inl fo_leftChildren)), (h_fo_rightChildren, .inl (gI G, 10, .inl fo_rightChildren)), (h_tr_allowedRoots, .inl (gI G, 121, .inl tr_allowedRoots)), (h_tr_ranks, .inl (gI G, 121, .inl tr_ranks)), (h_tr_roots, .inl (gI G, 121, .inl tr_roots)), (h_fo, .inr (1, [.int fo_operators, .ref h_fo_roots, .ref h_fo_leftChildren, .ref h_fo_rightChildren, .ref h_fo_counts])), (h_fo_counts, .inl (gI G, 1210, .inl fo_counts))] := hD
          refine lv_icmp_lt (tgt := 72) hx hb dX6_splitSubtree_48 (by decide) (fun c48 => ?_) (fun c48 => ?_)
          · have h := ip c48 h
            exact HX v6 v7 H locs ls (hP.sub [6, 0, 7, 1, 2, 3, 4, 5] rfl) (hD.sub [6, 0, 7, 1, 2, 3, 4, 5] (by decide) rfl) hS (lv_sub hl [0, 1, 2, 3, 4, 6, 7] rfl) h
          · have h := ing c48 h
            refine lv_iload hx hb dX6_splitSubtree_51 (lv_at hl 6 rfl) ?_
            refine lv_aload_n hx hb dX6_splitSubtree_53 rfl (lv_at hl 1 rfl) ?_
            refine lv_iload_n hx hb dX6_splitSubtree_54 rfl (lv_at hl 2 rfl) ?_
            refine lv_iload_n hx hb dX6_splitSubtree_55 rfl (lv_at hl 3 rfl) ?_
            refine lv_iload hx hb dX6_splitSubtree_56 (lv_at hl 7 rfl) ?_
            refine lv_iload hx hb dX6_splitSubtree_58 (lv_at hl 5 rfl) ?_
            obtain ⟨o60, e60, h⟩ := bd h
            refine Ci.V (wr := [(h_tr, .inr (5, [.int tr_operators, .ref h_tr_roots, .ref h_tr_ranks, .ref h_tr_allowedRoots, .ref h_tr_ranksBelowRoot, .ref h_tr_results])), (h_fo_leftChildren, .inl (gI G, 10, .inl fo_leftChildren)), (h_fo_rightChildren, .inl (gI G, 10, .inl fo_rightChildren)), (h_tr_allowedRoots, .inl (gI G, 121, .inl tr_allowedRoots)), (h_tr_ranks, .inl (gI G, 121, .inl tr_ranks)), (h_tr_roots, .inl (gI G, 121, .inl tr_roots))]) (c_X2_derivationsOf F l G h_fo h_fo_roots h_fo_leftChildren h_fo_rightChildren h_fo_counts fo_operators fo_counts v2 v3 v7 v5 H.size o60 e60) hB km_X2_derivationsOf ⟨im_X2_derivationsOf, sl_X2_derivationsOf⟩ ml_RX6_57 hP hD hS hl ⟨0, 1, _, _, rfl, rfl, rfl⟩ [6, 7] [0, 1, 2, 3, 4, 5] ⟨rfl, rfl, ⟨rfl, rfl⟩, by decide⟩ ⟨⟨Nat.le_of_ble_eq_true rfl, Nat.le_of_ble_eq_true rfl⟩, Nat.le_of_ble_eq_true rfl, Nat.le_of_ble_eq_true rfl, Nat.le_of_ble_eq_true rfl⟩ rfl dX6_splitSubtree_60 (fun z H locs hP hD hS => ?_)
            have hP : va_P (gD G) vwCl [(h_tr, .inr (5, [.int tr_operators, .ref h_tr_roots, .ref h_tr_ranks, .ref h_tr_allowedRoots, .ref h_tr_ranksBelowRoot, .ref h_tr_results])), (h_fo_leftChildren, .inl (gI G, 10, .inl fo_leftChildren)), (h_fo_rightChildren, .inl (gI G, 10, .inl fo_rightChildren)), (h_tr_allowedRoots, .inl (gI G, 121, .inl tr_allowedRoots)), (h_tr_ranks, .inl (gI G, 121, .inl tr_ranks)), (h_tr_roots, .inl (gI G, 121, .inl tr_roots)), (h_fo, .inr (1, [.int fo_operators, .ref h_fo_roots, .ref h_fo_leftChildren, .ref h_fo_rightChildren, .ref h_fo_counts])), (h_fo_counts, .inl (gI G, 1210, .inl fo_counts))] H := hP
            have hD : va_D A [(h_tr, .inr (5, [.int tr_operators, .ref h_tr_roots, .ref h_tr_ranks, .ref h_tr_allowedRoots, .ref h_tr_ranksBelowRoot, .ref h_tr_results])), (h_fo_leftChildren, .inl (gI G, 10, .inl fo_leftChildren)), (h_fo_rightChildren, .inl (gI G, 10, .inl fo_rightChildren)), (h_tr_allowedRoots, .inl (gI G, 121, .inl tr_allowedRoots)), (h_tr_ranks, .inl (gI G, 121, .inl tr_ranks)), (h_tr_roots, .inl (gI G, 121, .inl tr_roots)), (h_fo, .inr (1, [.int fo_operators, .ref h_fo_roots, .ref h_fo_leftChildren, .ref h_fo_rightChildren, .ref h_fo_counts])), (h_fo_counts, .inl (gI G, 1210, .inl fo_counts))] := hD
            refine lv_isub hx hb dX6_splitSubtree_63 ?_
            refine lv_istore (lv' := [(6, .int (v6 - o60)), (0, .ref h_tr), (1, .ref h_fo), (2, .int v2), (3, .int v3), (4, .int v4), (5, .int v5), (7, .int v7)]) hx hb dX6_splitSubtree_64 hl (by decide) rfl (fun ls hl => ?_)
            refine lv_iinc (v := (v7 + 1)) (lv' := [(7, .int (v7 + 1)), (6, .int (v6 - o60)), (0, .ref h_tr), (1, .ref h_fo), (2, .int v2), (3, .int v3), (4, .int v4), (5, .int v5)]) hx hb dX6_splitSubtree_66 hl (k := 7) rfl rfl (by decide) rfl (fun ls hl => ?_)
            refine lv_goto (tgt := 28) hx hb dX6_splitSubtree_69 (by decide) ?_
            exact ih v2 v3 v4 v5 tr_allowedRoots tr_ranks tr_roots (v6 - o60) (v7 + 1) X H locs ls (hP.sub [6, 0, 7, 1, 2, 3, 4, 5] rfl) (hD.sub [6, 0, 7, 1, 2, 3, 4, 5] (by decide) rfl) hS (lv_sub hl [2, 3, 4, 5, 6, 7, 1, 0] rfl) h HX
  refine Lp28 F p2 p3 o2 (tr_allowedRoots (Int32.toNatClampNeg o2)) tr_allowedRoots tr_ranks tr_roots (tr_ranks (Int32.toNatClampNeg o2)) p2 _ H locs ls hP hD hS (lv_sub hl [4, 5, 6, 7, 3, 2, 1, 0] rfl) h (fun v6 v7 H locs ls hP hD hS hl h => ?_)
  refine lv_aload_n hx hb dX6_splitSubtree_72 rfl (lv_at hl 0 rfl) ?_
  refine va_get (D := gD G) (ci := 5) (v := .ref h_tr_roots) (C := RX6) (T := TX6) (N := 6) hx hb hts lk_X6 hown hK hP 1 rfl rfl 1 (by decide) (hts _ fl_RX6_15) (fun _ h9 => h9) rfl dX6_splitSubtree_73 ?_
  refine lv_iload hx hb dX6_splitSubtree_76 (lv_at hl 4 rfl) ?_
  refine lv_iload hx hb dX6_splitSubtree_78 (lv_at hl 6 rfl) ?_
  obtain ⟨g80, h⟩ := gda h
  refine va_iast hx hb hK hP hD hS 7 1 rfl rfl g80 dX6_splitSubtree_80 (fun H locs hP hD hS => ?_)
  have hP : va_P (gD G) vwCl [(h_fo, .inr (1, [.int fo_operators, .ref h_fo_roots, .ref h_fo_leftChildren, .ref h_fo_rightChildren, .ref h_fo_counts])), (h_tr, .inr (5, [.int tr_operators, .ref h_tr_roots, .ref h_tr_ranks, .ref h_tr_allowedRoots, .ref h_tr_ranksBelowRoot, .ref h_tr_results])), (h_fo_counts, .inl (gI G, 1210, .inl fo_counts)), (h_fo_leftChildren, .inl (gI G, 10, .inl fo_leftChildren)), (h_fo_rightChildren, .inl (gI G, 10, .inl fo_rightChildren)), (h_tr_allowedRoots, .inl (gI G, 121, .inl tr_allowedRoots)), (h_tr_ranks, .inl (gI G, 121, .inl tr_ranks)), (h_tr_roots, .inl (gI G, 121, .inl (upd tr_roots (Int32.toNatClampNeg o2) v7)))] H := hP
  have hD : va_D A [(h_fo, .inr (1, [.int fo_operators, .ref h_fo_roots, .ref h_fo_leftChildren, .ref h_fo_rightChildren, .ref h_fo_counts])), (h_tr, .inr (5, [.int tr_operators, .ref h_tr_roots, .ref h_tr_ranks, .ref h_tr_allowedRoots, .ref h_tr_ranksBelowRoot, .ref h_tr_results])), (h_fo_counts, .inl (gI G, 1210, .inl fo_counts)), (h_fo_leftChildren, .inl (gI G, 10, .inl fo_leftChildren)), (h_fo_rightChildren, .inl (gI G, 10, .inl fo_rightChildren)), (h_tr_allowedRoots, .inl (gI G, 121, .inl tr_allowedRoots)), (h_tr_ranks, .inl (gI G, 121, .inl tr_ranks)), (h_tr_roots, .inl (gI G, 121, .inl (upd tr_roots (Int32.toNatClampNeg o2) v7)))] := hD
  refine lv_aload_n hx hb dX6_splitSubtree_81 rfl (lv_at hl 1 rfl) ?_
  refine lv_iload hx hb dX6_splitSubtree_82 (lv_at hl 6 rfl) ?_
  refine lv_iconst (v := 1) hx hb dX6_splitSubtree_84 (by decide) ?_
  refine lv_iadd hx hb dX6_splitSubtree_85 ?_
  refine lv_iload_n hx hb dX6_splitSubtree_86 rfl (lv_at hl 3 rfl) ?_
  refine lv_aload_n hx hb dX6_splitSubtree_87 rfl (lv_at hl 1 rfl) ?_
  refine va_getN (D := gD G) (ci := 1) (v := .ref h_fo_rightChildren) (C := RX2) (T := TX2) (N := 5) hx hb hts lk_X2 hown hK hP 0 rfl rfl 3 (by decide) (va_Nw.use rfl (hN _ fn_RX6_61)) (fun _ h9 => h9) rfl dX6_splitSubtree_88 ?_
  refine lv_iload hx hb dX6_splitSubtree_91 (lv_at hl 6 rfl) ?_
  obtain ⟨g93, h⟩ := gda h
  refine va_iald hx hb hK hP 4 1 rfl rfl g93 dX6_splitSubtree_93 ?_
  obtain ⟨o94, e94, h⟩ := bd h
  refine Ci.V (wr := [(h_tr, .inr (5, [.int tr_operators, .ref h_tr_roots, .ref h_tr_ranks, .ref h_tr_allowedRoots, .ref h_tr_ranksBelowRoot, .ref h_tr_results])), (h_fo_leftChildren, .inl (gI G, 10, .inl fo_leftChildren)), (h_fo_rightChildren, .inl (gI G, 10, .inl fo_rightChildren)), (h_tr_allowedRoots, .inl (gI G, 121, .inl tr_allowedRoots)), (h_tr_ranks, .inl (gI G, 121, .inl tr_ranks)), (h_tr_roots, .inl (gI G, 121, .inl (upd tr_roots (Int32.toNatClampNeg o2) v7)))]) (c_X2_treesOf F l G h_fo h_fo_roots h_fo_leftChildren h_fo_rightChildren h_fo_counts fo_operators fo_counts (v7 + 1) p3 (fo_rightChildren (Int32.toNatClampNeg v7)) H.size o94 e94) hB km_X2_treesOf ⟨im_X2_treesOf, sl_X2_treesOf⟩ ml_RX6_64 hP hD hS hl ⟨0, 1, _, _, rfl, rfl, rfl⟩ [0, 2] [1, 3, 4, 5, 6, 7] ⟨rfl, rfl, ⟨rfl, rfl⟩, by decide⟩ ⟨⟨Nat.le_of_ble_eq_true rfl, Nat.le_of_ble_eq_true rfl⟩, Nat.le_of_ble_eq_true rfl, Nat.le_of_ble_eq_true rfl, Nat.le_of_ble_eq_true rfl⟩ rfl dX6_splitSubtree_94 (fun z H locs hP hD hS => ?_)
  have hP : va_P (gD G) vwCl [(h_tr, .inr (5, [.int tr_operators, .ref h_tr_roots, .ref h_tr_ranks, .ref h_tr_allowedRoots, .ref h_tr_ranksBelowRoot, .ref h_tr_results])), (h_fo_leftChildren, .inl (gI G, 10, .inl fo_leftChildren)), (h_fo_rightChildren, .inl (gI G, 10, .inl fo_rightChildren)), (h_tr_allowedRoots, .inl (gI G, 121, .inl tr_allowedRoots)), (h_tr_ranks, .inl (gI G, 121, .inl tr_ranks)), (h_tr_roots, .inl (gI G, 121, .inl (upd tr_roots (Int32.toNatClampNeg o2) v7))), (h_fo, .inr (1, [.int fo_operators, .ref h_fo_roots, .ref h_fo_leftChildren, .ref h_fo_rightChildren, .ref h_fo_counts])), (h_fo_counts, .inl (gI G, 1210, .inl fo_counts))] H := hP
  have hD : va_D A [(h_tr, .inr (5, [.int tr_operators, .ref h_tr_roots, .ref h_tr_ranks, .ref h_tr_allowedRoots, .ref h_tr_ranksBelowRoot, .ref h_tr_results])), (h_fo_leftChildren, .inl (gI G, 10, .inl fo_leftChildren)), (h_fo_rightChildren, .inl (gI G, 10, .inl fo_rightChildren)), (h_tr_allowedRoots, .inl (gI G, 121, .inl tr_allowedRoots)), (h_tr_ranks, .inl (gI G, 121, .inl tr_ranks)), (h_tr_roots, .inl (gI G, 121, .inl (upd tr_roots (Int32.toNatClampNeg o2) v7))), (h_fo, .inr (1, [.int fo_operators, .ref h_fo_roots, .ref h_fo_leftChildren, .ref h_fo_rightChildren, .ref h_fo_counts])), (h_fo_counts, .inl (gI G, 1210, .inl fo_counts))] := hD
  refine lv_istore (lv' := [(8, .int o94), (0, .ref h_tr), (1, .ref h_fo), (2, .int p2), (3, .int p3), (4, .int o2), (6, .int v6), (7, .int v7)]) hx hb dX6_splitSubtree_97 hl (by decide) rfl (fun ls hl => ?_)
  refine lv_iload hx hb dX6_splitSubtree_99 (lv_at hl 0 rfl) ?_
  refine lv_if_le (tgt := 144) hx hb dX6_splitSubtree_101 (by decide) (fun c101 => ?_) (fun c101 => ?_)
  · have h := ip c101 h
    cases h
    exact hret (fun _ => 0) _ _ _ _ (hP.sub [6, 0, 7, 1, 2, 3, 4, 5] rfl) (hD.sub [6, 0, 7, 1, 2, 3, 4, 5] (by decide) rfl) hS dX6_splitSubtree_144
  · have h := ing c101 h
    refine lv_aload_n hx hb dX6_splitSubtree_104 rfl (lv_at hl 1 rfl) ?_
    refine lv_iload_n hx hb dX6_splitSubtree_105 rfl (lv_at hl 3 rfl) ?_
    refine lv_iload hx hb dX6_splitSubtree_106 (lv_at hl 7 rfl) ?_
    refine lv_aload_n hx hb dX6_splitSubtree_108 rfl (lv_at hl 2 rfl) ?_
    refine va_getN (D := gD G) (ci := 1) (v := .ref h_fo_leftChildren) (C := RX2) (T := TX2) (N := 5) hx hb hts lk_X2 hown hK hP 6 rfl rfl 2 (by decide) (va_Nw.use rfl (hN _ fn_RX6_68)) (fun _ h9 => h9) rfl dX6_splitSubtree_109 ?_
    refine lv_iload hx hb dX6_splitSubtree_112 (lv_at hl 7 rfl) ?_
    obtain ⟨g114, h⟩ := gda h
    refine va_iald hx hb hK hP 1 1 rfl rfl g114 dX6_splitSubtree_114 ?_
    refine lv_iload hx hb dX6_splitSubtree_115 (lv_at hl 6 rfl) ?_
    refine lv_iload hx hb dX6_splitSubtree_117 (lv_at hl 0 rfl) ?_
    obtain ⟨g119, h⟩ := gdn h
    refine lv_idiv hx hb dX6_splitSubtree_119 g119 ?_
    obtain ⟨o120, e120, h⟩ := bd h
    refine Cv.V (wr := [(h_fo_leftChildren, .inl (gI G, 10, .inl fo_leftChildren)), (h_fo_rightChildren, .inl (gI G, 10, .inl fo_rightChildren)), (h_tr_roots, .inl (gI G, 121, .inl (upd tr_roots (Int32.toNatClampNeg o2) v7))), (h_fo, .inr (1, [.int fo_operators, .ref h_fo_roots, .ref h_fo_leftChildren, .ref h_fo_rightChildren, .ref h_fo_counts])), (h_fo_counts, .inl (gI G, 1210, .inl fo_counts))]) (c_X6_putSubtree F l G h_tr h_tr_roots h_tr_ranks h_tr_allowedRoots h_tr_ranksBelowRoot h_tr_results tr_operators tr_allowedRoots tr_ranks p2 v7 (fo_leftChildren (Int32.toNatClampNeg v7)) (v6 / o94) H.size o120 e120) hB km_X6_putSubtree ⟨im_X6_putSubtree, sl_X6_putSubtree⟩ ml_RX6_41 hP hD hS hl ⟨0, 5, _, _, rfl, rfl, rfl⟩ [0, 3, 4] [1, 2, 5, 6, 7] ⟨rfl, rfl, ⟨rfl, rfl⟩, by decide⟩ ⟨⟨Nat.le_of_ble_eq_true rfl, Nat.le_of_ble_eq_true rfl⟩, Nat.le_of_ble_eq_true rfl, Nat.le_of_ble_eq_true rfl, Nat.le_of_ble_eq_true rfl⟩ rfl dX6_splitSubtree_120 (fun z H locs hP hD hS => ?_)
    have hP : va_P (gD G) vwCl [(h_fo_leftChildren, .inl (gI G, 10, .inl fo_leftChildren)), (h_fo_rightChildren, .inl (gI G, 10, .inl fo_rightChildren)), (h_tr_roots, .inl (gI G, 121, .inl (upd tr_roots (Int32.toNatClampNeg o2) v7))), (h_fo, .inr (1, [.int fo_operators, .ref h_fo_roots, .ref h_fo_leftChildren, .ref h_fo_rightChildren, .ref h_fo_counts])), (h_fo_counts, .inl (gI G, 1210, .inl fo_counts)), (h_tr, .inr (5, [.int tr_operators, .ref h_tr_roots, .ref h_tr_ranks, .ref h_tr_allowedRoots, .ref h_tr_ranksBelowRoot, .ref h_tr_results])), (h_tr_allowedRoots, .inl (gI G, 121, .inl (o120.1))), (h_tr_ranks, .inl (gI G, 121, .inl (o120.2)))] H := hP
    have hD : va_D A [(h_fo_leftChildren, .inl (gI G, 10, .inl fo_leftChildren)), (h_fo_rightChildren, .inl (gI G, 10, .inl fo_rightChildren)), (h_tr_roots, .inl (gI G, 121, .inl (upd tr_roots (Int32.toNatClampNeg o2) v7))), (h_fo, .inr (1, [.int fo_operators, .ref h_fo_roots, .ref h_fo_leftChildren, .ref h_fo_rightChildren, .ref h_fo_counts])), (h_fo_counts, .inl (gI G, 1210, .inl fo_counts)), (h_tr, .inr (5, [.int tr_operators, .ref h_tr_roots, .ref h_tr_ranks, .ref h_tr_allowedRoots, .ref h_tr_ranksBelowRoot, .ref h_tr_results])), (h_tr_allowedRoots, .inl (gI G, 121, .inl (o120.1))), (h_tr_ranks, .inl (gI G, 121, .inl (o120.2)))] := hD
    refine lv_aload_n hx hb dX6_splitSubtree_123 rfl (lv_at hl 1 rfl) ?_
    refine lv_iload hx hb dX6_splitSubtree_124 (lv_at hl 7 rfl) ?_
    refine lv_iconst (v := 1) hx hb dX6_splitSubtree_126 (by decide) ?_
    refine lv_iadd hx hb dX6_splitSubtree_127 ?_
    refine lv_iload_n hx hb dX6_splitSubtree_128 rfl (lv_at hl 4 rfl) ?_
    refine lv_aload_n hx hb dX6_splitSubtree_129 rfl (lv_at hl 2 rfl) ?_
    refine va_getN (D := gD G) (ci := 1) (v := .ref h_fo_rightChildren) (C := RX2) (T := TX2) (N := 5) hx hb hts lk_X2 hown hK hP 3 rfl rfl 3 (by decide) (va_Nw.use rfl (hN _ fn_RX6_61)) (fun _ h9 => h9) rfl dX6_splitSubtree_130 ?_
    refine lv_iload hx hb dX6_splitSubtree_133 (lv_at hl 7 rfl) ?_
    obtain ⟨g135, h⟩ := gda h
    refine va_iald hx hb hK hP 1 1 rfl rfl g135 dX6_splitSubtree_135 ?_
    refine lv_iload hx hb dX6_splitSubtree_136 (lv_at hl 6 rfl) ?_
    refine lv_iload hx hb dX6_splitSubtree_138 (lv_at hl 0 rfl) ?_
    obtain ⟨g140, h⟩ := gdn h
    refine lv_irem hx hb dX6_splitSubtree_140 g140 ?_
    obtain ⟨o141, e141, h⟩ := bd h
    refine Cv.V (wr := [(h_fo_leftChildren, .inl (gI G, 10, .inl fo_leftChildren)), (h_fo_rightChildren, .inl (gI G, 10, .inl fo_rightChildren)), (h_tr_roots, .inl (gI G, 121, .inl (upd tr_roots (Int32.toNatClampNeg o2) v7))), (h_fo, .inr (1, [.int fo_operators, .ref h_fo_roots, .ref h_fo_leftChildren, .ref h_fo_rightChildren, .ref h_fo_counts])), (h_fo_counts, .inl (gI G, 1210, .inl fo_counts))]) (c_X6_putSubtree F l G h_tr h_tr_roots h_tr_ranks h_tr_allowedRoots h_tr_ranksBelowRoot h_tr_results tr_operators (o120.1) (o120.2) (v7 + 1) p3 (fo_rightChildren (Int32.toNatClampNeg v7)) (v6 - v6 / o94 * o94) H.size o141 e141) hB km_X6_putSubtree ⟨im_X6_putSubtree, sl_X6_putSubtree⟩ ml_RX6_41 hP hD hS hl ⟨0, 5, _, _, rfl, rfl, rfl⟩ [5, 6, 7] [0, 1, 2, 3, 4] ⟨rfl, rfl, ⟨rfl, rfl⟩, by decide⟩ ⟨⟨Nat.le_of_ble_eq_true rfl, Nat.le_of_ble_eq_true rfl⟩, Nat.le_of_ble_eq_true rfl, Nat.le_of_ble_eq_true rfl, Nat.le_of_ble_eq_true rfl⟩ rfl dX6_splitSubtree_141 (fun z H locs hP hD hS => ?_)
    have hP : va_P (gD G) vwCl [(h_fo_leftChildren, .inl (gI G, 10, .inl fo_leftChildren)), (h_fo_rightChildren, .inl (gI G, 10, .inl fo_rightChildren)), (h_tr_roots, .inl (gI G, 121, .inl (upd tr_roots (Int32.toNatClampNeg o2) v7))), (h_fo, .inr (1, [.int fo_operators, .ref h_fo_roots, .ref h_fo_leftChildren, .ref h_fo_rightChildren, .ref h_fo_counts])), (h_fo_counts, .inl (gI G, 1210, .inl fo_counts)), (h_tr, .inr (5, [.int tr_operators, .ref h_tr_roots, .ref h_tr_ranks, .ref h_tr_allowedRoots, .ref h_tr_ranksBelowRoot, .ref h_tr_results])), (h_tr_allowedRoots, .inl (gI G, 121, .inl (o141.1))), (h_tr_ranks, .inl (gI G, 121, .inl (o141.2)))] H := hP
    have hD : va_D A [(h_fo_leftChildren, .inl (gI G, 10, .inl fo_leftChildren)), (h_fo_rightChildren, .inl (gI G, 10, .inl fo_rightChildren)), (h_tr_roots, .inl (gI G, 121, .inl (upd tr_roots (Int32.toNatClampNeg o2) v7))), (h_fo, .inr (1, [.int fo_operators, .ref h_fo_roots, .ref h_fo_leftChildren, .ref h_fo_rightChildren, .ref h_fo_counts])), (h_fo_counts, .inl (gI G, 1210, .inl fo_counts)), (h_tr, .inr (5, [.int tr_operators, .ref h_tr_roots, .ref h_tr_ranks, .ref h_tr_allowedRoots, .ref h_tr_ranksBelowRoot, .ref h_tr_results])), (h_tr_allowedRoots, .inl (gI G, 121, .inl (o141.1))), (h_tr_ranks, .inl (gI G, 121, .inl (o141.2)))] := hD
    cases h
    exact hret (fun _ => 0) _ _ _ _ (hP.sub [3, 5, 4, 0, 1, 6, 7, 2] rfl) (hD.sub [3, 5, 4, 0, 1, 6, 7, 2] (by decide) rfl) hS dX6_splitSubtree_144
abbrev rm_X6_select : Room := { frames := 3, cells := 0, slots := 0, locals := 75 }
theorem km_X6_select : KM yX6_select cX6_select 5 none 2 := ⟨co_X6_select, in_RX6, by decide +kernel⟩
set_option maxHeartbeats 4000000 in
set_option maxRecDepth 100000 in
theorem c_X6_select (F : Nat) (l : Launch) (G : GT) (h_fo h_fo_roots h_fo_leftChildren h_fo_rightChildren h_fo_counts h_tr h_tr_roots h_tr_ranks h_tr_allowedRoots h_tr_ranksBelowRoot h_tr_results : Nat) (fo_operators : Int32) (tr_operators : Int32) (fo_counts : Nat → Int32) (fo_leftChildren : Nat → Int32) (fo_rightChildren : Nat → Int32) (tr_allowedRoots : Nat → Int32) (tr_ranks : Nat → Int32) (tr_roots : Nat → Int32) (p2 : Int32) (sz : Nat) (out : (Nat → Int32) × Int32 × (Nat → Int32) × (Nat → Int32)) (h : f_X6_select F p2 fo_counts fo_leftChildren fo_operators fo_rightChildren tr_allowedRoots tr_operators tr_ranks tr_roots = some out) : Cv G l yX6_select cX6_select 5 none rm_X6_select [.ref h_tr, .ref h_fo, .int p2] [(h_fo, .inr (1, [.int fo_operators, .ref h_fo_roots, .ref h_fo_leftChildren, .ref h_fo_rightChildren, .ref h_fo_counts])), (h_tr, .inr (5, [.int tr_operators, .ref h_tr_roots, .ref h_tr_ranks, .ref h_tr_allowedRoots, .ref h_tr_ranksBelowRoot, .ref h_tr_results])), (h_fo_counts, .inl (gI G, 1210, .inl fo_counts)), (h_fo_leftChildren, .inl (gI G, 10, .inl fo_leftChildren)), (h_fo_rightChildren, .inl (gI G, 10, .inl fo_rightChildren)), (h_tr_allowedRoots, .inl (gI G, 121, .inl tr_allowedRoots)), (h_tr_ranks, .inl (gI G, 121, .inl tr_ranks)), (h_tr_roots, .inl (gI G, 121, .inl tr_roots))] sz (fun _ => [(h_fo, .inr (1, [.int fo_operators, .ref h_fo_roots, .ref h_fo_leftChildren, .ref h_fo_rightChildren, .ref h_fo_counts])), (h_tr, .inr (5, [.int (out.2.1), .ref h_tr_roots, .ref h_tr_ranks, .ref h_tr_allowedRoots, .ref h_tr_ranksBelowRoot, .ref h_tr_results])), (h_fo_counts, .inl (gI G, 1210, .inl fo_counts)), (h_fo_leftChildren, .inl (gI G, 10, .inl fo_leftChildren)), (h_fo_rightChildren, .inl (gI G, 10, .inl fo_rightChildren)), (h_tr_allowedRoots, .inl (gI G, 121, .inl (out.1))), (h_tr_ranks, .inl (gI G, 121, .inl (out.2.2.1))), (h_tr_roots, .inl (gI G, 121, .inl (out.2.2.2)))]) := by
  refine Cv.start (by decide) (Nat.le_of_ble_eq_true rfl) ?_
  intro p e s m args below meth c A Q H locs ls hB hP hD hS hl hret
  obtain ⟨hx, hb, hmL, hr, hown, hts, hlocks, hnm, hA, hE⟩ := id hB
  obtain ⟨hK, hN, hV, hR, hZ, hZq, hAO⟩ := id hE
  have hown : s.vm.findClass RX6 = some m.cls := hown
  have hl : lv_has ls 5 [(0, .ref h_tr), (1, .ref h_fo), (2, .int p2)] := hl
  rw [f_X6_select] at h
  refine lv_aload_n hx hb dX6_select_0 rfl (lv_at hl 0 rfl) ?_
  refine lv_aload_n hx hb dX6_select_1 rfl (lv_at hl 1 rfl) ?_
  refine va_getN (D := gD G) (ci := 1) (v := .int fo_operators) (C := RX2) (T := TX2) (N := 5) hx hb hts lk_X2 hown hK hP 0 rfl rfl 0 (by decide) (va_Nw.use rfl (hN _ fn_RX6_32)) (fun _ h9 => h9) rfl dX6_select_2 ?_
  refine va_put (D := gD G) (ci := 5) (v := .int fo_operators) (ty := .int) (C := RX6) (T := TX6) (N := 6) hx hb hts lk_X6 tyX6 tyX6_ok nmX6 hown hK hP hD hS 1 rfl rfl 0 (by decide) (hts _ fl_RX6_9) (fun _ h9 => h9) rfl (by decide +kernel) rfl rfl (Nat.le_of_ble_eq_true rfl) dX6_select_5 (fun H locs hP hD hS => ?_)
  have hP : va_P (gD G) vwCl [(h_fo, .inr (1, [.int fo_operators, .ref h_fo_roots, .ref h_fo_leftChildren, .ref h_fo_rightChildren, .ref h_fo_counts])), (h_tr, .inr (5, [.int fo_operators, .ref h_tr_roots, .ref h_tr_ranks, .ref h_tr_allowedRoots, .ref h_tr_ranksBelowRoot, .ref h_tr_results])), (h_fo_counts, .inl (gI G, 1210, .inl fo_counts)), (h_fo_leftChildren, .inl (gI G, 10, .inl fo_leftChildren)), (h_fo_rightChildren, .inl (gI G, 10, .inl fo_rightChildren)), (h_tr_allowedRoots, .inl (gI G, 121, .inl tr_allowedRoots)), (h_tr_ranks, .inl (gI G, 121, .inl tr_ranks)), (h_tr_roots, .inl (gI G, 121, .inl tr_roots))] H := hP
  have hD : va_D A [(h_fo, .inr (1, [.int fo_operators, .ref h_fo_roots, .ref h_fo_leftChildren, .ref h_fo_rightChildren, .ref h_fo_counts])), (h_tr, .inr (5, [.int fo_operators, .ref h_tr_roots, .ref h_tr_ranks, .ref h_tr_allowedRoots, .ref h_tr_ranksBelowRoot, .ref h_tr_results])), (h_fo_counts, .inl (gI G, 1210, .inl fo_counts)), (h_fo_leftChildren, .inl (gI G, 10, .inl fo_leftChildren)), (h_fo_rightChildren, .inl (gI G, 10, .inl fo_rightChildren)), (h_tr_allowedRoots, .inl (gI G, 121, .inl tr_allowedRoots)), (h_tr_ranks, .inl (gI G, 121, .inl tr_ranks)), (h_tr_roots, .inl (gI G, 121, .inl tr_roots))] := hD
  refine lv_aload_n hx hb dX6_select_8 rfl (lv_at hl 0 rfl) ?_
  refine va_get (D := gD G) (ci := 5) (v := .ref h_tr_ranks) (C := RX6) (T := TX6) (N := 6) hx hb hts lk_X6 hown hK hP 1 rfl rfl 2 (by decide) (hts _ fl_RX6_19) (fun _ h9 => h9) rfl dX6_select_9 ?_
  refine lv_iconst (v := (-1)) hx hb dX6_select_12 (by decide) ?_
  obtain ⟨o13, e13, h⟩ := bd h
  refine Cv.S (wr := [(h_fo, .inr (1, [.int fo_operators, .ref h_fo_roots, .ref h_fo_leftChildren, .ref h_fo_rightChildren, .ref h_fo_counts])), (h_tr, .inr (5, [.int fo_operators, .ref h_tr_roots, .ref h_tr_ranks, .ref h_tr_allowedRoots, .ref h_tr_ranksBelowRoot, .ref h_tr_results])), (h_fo_counts, .inl (gI G, 1210, .inl fo_counts)), (h_fo_leftChildren, .inl (gI G, 10, .inl fo_leftChildren)), (h_fo_rightChildren, .inl (gI G, 10, .inl fo_rightChildren)), (h_tr_allowedRoots, .inl (gI G, 121, .inl tr_allowedRoots)), (h_tr_roots, .inl (gI G, 121, .inl tr_roots))]) (c_J7_fill_53178 F l G 121 h_tr_ranks tr_ranks (-1) H.size o13 e13) hB km_J7_fill_53178 st_J7_fill_53178 ml_RX6_35 hP hD hS hl [6] [0, 1, 2, 3, 4, 5, 7] ⟨rfl, rfl, ⟨rfl, rfl⟩, by decide⟩ ⟨⟨Nat.le_of_ble_eq_true rfl, Nat.le_of_ble_eq_true rfl⟩, Nat.le_of_ble_eq_true rfl, Nat.le_of_ble_eq_true rfl, Nat.le_of_ble_eq_true rfl⟩ rfl dX6_select_13 (fun z H locs hP hD hS => ?_)
  have hP : va_P (gD G) vwCl [(h_fo, .inr (1, [.int fo_operators, .ref h_fo_roots, .ref h_fo_leftChildren, .ref h_fo_rightChildren, .ref h_fo_counts])), (h_tr, .inr (5, [.int fo_operators, .ref h_tr_roots, .ref h_tr_ranks, .ref h_tr_allowedRoots, .ref h_tr_ranksBelowRoot, .ref h_tr_results])), (h_fo_counts, .inl (gI G, 1210, .inl fo_counts)), (h_fo_leftChildren, .inl (gI G, 10, .inl fo_leftChildren)), (h_fo_rightChildren, .inl (gI G, 10, .inl fo_rightChildren)), (h_tr_allowedRoots, .inl (gI G, 121, .inl tr_allowedRoots)), (h_tr_roots, .inl (gI G, 121, .inl tr_roots)), (h_tr_ranks, .inl (gI G, 121, .inl o13))] H := hP
  have hD : va_D A [(h_fo, .inr (1, [.int fo_operators, .ref h_fo_roots, .ref h_fo_leftChildren, .ref h_fo_rightChildren, .ref h_fo_counts])), (h_tr, .inr (5, [.int fo_operators, .ref h_tr_roots, .ref h_tr_ranks, .ref h_tr_allowedRoots, .ref h_tr_ranksBelowRoot, .ref h_tr_results])), (h_fo_counts, .inl (gI G, 1210, .inl fo_counts)), (h_fo_leftChildren, .inl (gI G, 10, .inl fo_leftChildren)), (h_fo_rightChildren, .inl (gI G, 10, .inl fo_rightChildren)), (h_tr_allowedRoots, .inl (gI G, 121, .inl tr_allowedRoots)), (h_tr_roots, .inl (gI G, 121, .inl tr_roots)), (h_tr_ranks, .inl (gI G, 121, .inl o13))] := hD
  refine lv_aload_n hx hb dX6_select_16 rfl (lv_at hl 0 rfl) ?_
  refine lv_iconst (v := 0) hx hb dX6_select_17 (by decide) ?_
  refine lv_aload_n hx hb dX6_select_18 rfl (lv_at hl 0 rfl) ?_
  refine va_get (D := gD G) (ci := 5) (v := .int fo_operators) (C := RX6) (T := TX6) (N := 6) hx hb hts lk_X6 hown hK hP 1 rfl rfl 0 (by decide) (hts _ fl_RX6_9) (fun _ h9 => h9) rfl dX6_select_19 ?_
  refine lv_iconst (v := (-1)) hx hb dX6_select_22 (by decide) ?_
  refine lv_iload_n hx hb dX6_select_23 rfl (lv_at hl 2 rfl) ?_
  obtain ⟨o24, e24, h⟩ := bd h
  refine Cv.V (wr := [(h_fo, .inr (1, [.int fo_operators, .ref h_fo_roots, .ref h_fo_leftChildren, .ref h_fo_rightChildren, .ref h_fo_counts])), (h_fo_counts, .inl (gI G, 1210, .inl fo_counts)), (h_fo_leftChildren, .inl (gI G, 10, .inl fo_leftChildren)), (h_fo_rightChildren, .inl (gI G, 10, .inl fo_rightChildren)), (h_tr_roots, .inl (gI G, 121, .inl tr_roots))]) (c_X6_putSubtree F l G h_tr h_tr_roots h_tr_ranks h_tr_allowedRoots h_tr_ranksBelowRoot h_tr_results fo_operators tr_allowedRoots o13 0 fo_operators (-1) p2 H.size o24 e24) hB km_X6_putSubtree ⟨im_X6_putSubtree, sl_X6_putSubtree⟩ ml_RX6_41 hP hD hS hl ⟨0, 5, _, _, rfl, rfl, rfl⟩ [1, 5, 7] [0, 2, 3, 4, 6] ⟨rfl, rfl, ⟨rfl, rfl⟩, by decide⟩ ⟨⟨Nat.le_of_ble_eq_true rfl, Nat.le_of_ble_eq_true rfl⟩, Nat.le_of_ble_eq_true rfl, Nat.le_of_ble_eq_true rfl, Nat.le_of_ble_eq_true rfl⟩ rfl dX6_select_24 (fun z H locs hP hD hS => ?_)
  have hP : va_P (gD G) vwCl [(h_fo, .inr (1, [.int fo_operators, .ref h_fo_roots, .ref h_fo_leftChildren, .ref h_fo_rightChildren, .ref h_fo_counts])), (h_fo_counts, .inl (gI G, 1210, .inl fo_counts)), (h_fo_leftChildren, .inl (gI G, 10, .inl fo_leftChildren)), (h_fo_rightChildren, .inl (gI G, 10, .inl fo_rightChildren)), (h_tr_roots, .inl (gI G, 121, .inl tr_roots)), (h_tr, .inr (5, [.int fo_operators, .ref h_tr_roots, .ref h_tr_ranks, .ref h_tr_allowedRoots, .ref h_tr_ranksBelowRoot, .ref h_tr_results])), (h_tr_allowedRoots, .inl (gI G, 121, .inl (o24.1))), (h_tr_ranks, .inl (gI G, 121, .inl (o24.2)))] H := hP
  have hD : va_D A [(h_fo, .inr (1, [.int fo_operators, .ref h_fo_roots, .ref h_fo_leftChildren, .ref h_fo_rightChildren, .ref h_fo_counts])), (h_fo_counts, .inl (gI G, 1210, .inl fo_counts)), (h_fo_leftChildren, .inl (gI G, 10, .inl fo_leftChildren)), (h_fo_rightChildren, .inl (gI G, 10, .inl fo_rightChildren)), (h_tr_roots, .inl (gI G, 121, .inl tr_roots)), (h_tr, .inr (5, [.int fo_operators, .ref h_tr_roots, .ref h_tr_ranks, .ref h_tr_allowedRoots, .ref h_tr_ranksBelowRoot, .ref h_tr_results])), (h_tr_allowedRoots, .inl (gI G, 121, .inl (o24.1))), (h_tr_ranks, .inl (gI G, 121, .inl (o24.2)))] := hD
  refine lv_aload_n hx hb dX6_select_27 rfl (lv_at hl 0 rfl) ?_
  refine va_get (D := gD G) (ci := 5) (v := .int fo_operators) (C := RX6) (T := TX6) (N := 6) hx hb hts lk_X6 hown hK hP 5 rfl rfl 0 (by decide) (hts _ fl_RX6_9) (fun _ h9 => h9) rfl dX6_select_28 ?_
  refine lv_istore_n (lv' := [(3, .int fo_operators), (0, .ref h_tr), (1, .ref h_fo), (2, .int p2)]) hx hb dX6_select_31 rfl hl (by decide) rfl (fun ls hl => ?_)
  have Lp32 : ∀ (n : Nat) (tr_operators : Int32) (v3 : Int32) (tr_allowedRoots : Nat → Int32) (tr_ranks : Nat → Int32) (tr_roots : Nat → Int32) (X : (Nat → Int32) → (Nat → Int32) → (Nat → Int32) → Option ((Nat → Int32) × Int32 × (Nat → Int32) × (Nat → Int32))) (H : Heap) (locs : List Loc) (ls : Array Slot), va_P (gD G) vwCl [(h_fo, .inr (1, [.int fo_operators, .ref h_fo_roots, .ref h_fo_leftChildren, .ref h_fo_rightChildren, .ref h_fo_counts])), (h_tr, .inr (5, [.int tr_operators, .ref h_tr_roots, .ref h_tr_ranks, .ref h_tr_allowedRoots, .ref h_tr_ranksBelowRoot, .ref h_tr_results])), (h_fo_counts, .inl (gI G, 1210, .inl fo_counts)), (h_fo_leftChildren, .inl (gI G, 10, .inl fo_leftChildren)), (h_fo_rightChildren, .inl (gI G, 10, .inl fo_rightChildren)), (h_tr_allowedRoots, .inl (gI G, 121, .inl tr_allowedRoots)), (h_tr_ranks, .inl (gI G, 121, .inl tr_ranks)), (h_tr_roots, .inl (gI G, 121, .inl tr_roots))] H → va_D A [(h_fo, .inr (1, [.int fo_operators, .ref h_fo_roots, .ref h_fo_leftChildren, .ref h_fo_rightChildren, .ref h_fo_counts])), (h_tr, .inr (5, [.int tr_operators, .ref h_tr_roots, .ref h_tr_ranks, .ref h_tr_allowedRoots, .ref h_tr_ranksBelowRoot, .ref h_tr_results])), (h_fo_counts, .inl (gI G, 1210, .inl fo_counts)), (h_fo_leftChildren, .inl (gI G, 10, .inl fo_leftChildren)), (h_fo_rightChildren, .inl (gI G, 10, .inl fo_rightChildren)), (h_tr_allowedRoots, .inl (gI G, 121, .inl tr_allowedRoots)), (h_tr_ranks, .inl (gI G, 121, .inl tr_ranks)), (h_tr_roots, .inl (gI G, 121, .inl tr_roots))] → va_S A s.heap H locs → lv_has ls 5 [(0, .ref h_tr), (1, .ref h_fo), (3, .int v3)] → f_X6_select_l32 F fo_counts fo_leftChildren fo_rightChildren tr_operators n v3 tr_allowedRoots tr_ranks tr_roots X = some out → (∀ (tr_allowedRoots : Nat → Int32) (tr_ranks : Nat → Int32) (tr_roots : Nat → Int32) (H : Heap) (locs : List Loc) (ls : Array Slot), va_P (gD G) vwCl [(h_fo, .inr (1, [.int fo_operators, .ref h_fo_roots, .ref h_fo_leftChildren, .ref h_fo_rightChildren, .ref h_fo_counts])), (h_tr, .inr (5, [.int tr_operators, .ref h_tr_roots, .ref h_tr_ranks, .ref h_tr_allowedRoots, .ref h_tr_ranksBelowRoot, .ref h_tr_results])), (h_fo_counts, .inl (gI G, 1210, .inl fo_counts)), (h_fo_leftChildren, .inl (gI G, 10, .inl fo_leftChildren)), (h_fo_rightChildren, .inl (gI G, 10, .inl fo_rightChildren)), (h_tr_allowedRoots, .inl (gI G, 121, .inl tr_allowedRoots)), (h_tr_ranks, .inl (gI G, 121, .inl tr_ranks)), (h_tr_roots, .inl (gI G, 121, .inl tr_roots))] H → va_D A [(h_fo, .inr (1, [.int fo_operators, .ref h_fo_roots, .ref h_fo_leftChildren, .ref h_fo_rightChildren, .ref h_fo_counts])), (h_tr, .inr (5, [.int tr_operators, .ref h_tr_roots, .ref h_tr_ranks, .ref h_tr_allowedRoots, .ref h_tr_ranksBelowRoot, .ref h_tr_results])), (h_fo_counts, .inl (gI G, 1210, .inl fo_counts)), (h_fo_leftChildren, .inl (gI G, 10, .inl fo_leftChildren)), (h_fo_rightChildren, .inl (gI G, 10, .inl fo_rightChildren)), (h_tr_allowedRoots, .inl (gI G, 121, .inl tr_allowedRoots)), (h_tr_ranks, .inl (gI G, 121, .inl tr_ranks)), (h_tr_roots, .inl (gI G, 121, .inl tr_roots))] → va_S A s.heap H locs → lv_has ls 5 [] → X tr_allowedRoots tr_ranks tr_roots = some out → W p l e rm_X6_select s m args below meth c H locs 0 0 Q (F0 m 86 ls [])) → W p l e rm_X6_select s m args below meth c H locs 0 0 Q (F0 m 32 ls []) := by
    intro n
    induction n with
    | zero => intro tr_operators v3 tr_allowedRoots tr_ranks tr_roots X H locs ls hP hD hS hl h HX; rw [f_X6_select_l32] at h; cases h
    | succ n ih =>
        intro tr_operators v3 tr_allowedRoots tr_ranks tr_roots X H locs ls hP hD hS hl h HX
        rw [f_X6_select_l32] at h
        refine lv_iload_n hx hb dX6_select_32 rfl (lv_at hl 2 rfl) ?_
        refine lv_if_le (tgt := 86) hx hb dX6_select_33 (by decide) (fun c33 => ?_) (fun c33 => ?_)
        · have h := ip c33 h
          exact HX tr_allowedRoots tr_ranks tr_roots H locs ls hP hD hS (lv_sub hl [] rfl) h
        · have h := ing c33 h
          refine lv_iconst (v := 0) hx hb dX6_select_36 (by decide) ?_
          refine lv_istore (lv' := [(4, .int 0), (0, .ref h_tr), (1, .ref h_fo), (3, .int v3)]) hx hb dX6_select_37 hl (by decide) rfl (fun ls hl => ?_)
          have Lp39 : ∀ (n : Nat) (v3 : Int32) (tr_operators : Int32) (v4 : Int32) (tr_allowedRoots : Nat → Int32) (tr_ranks : Nat → Int32) (tr_roots : Nat → Int32) (X : (Nat → Int32) → (Nat → Int32) → (Nat → Int32) → Option ((Nat → Int32) × Int32 × (Nat → Int32) × (Nat → Int32))) (H : Heap) (locs : List Loc) (ls : Array Slot), va_P (gD G) vwCl [(h_fo, .inr (1, [.int fo_operators, .ref h_fo_roots, .ref h_fo_leftChildren, .ref h_fo_rightChildren, .ref h_fo_counts])), (h_tr, .inr (5, [.int tr_operators, .ref h_tr_roots, .ref h_tr_ranks, .ref h_tr_allowedRoots, .ref h_tr_ranksBelowRoot, .ref h_tr_results])), (h_fo_counts, .inl (gI G, 1210, .inl fo_counts)), (h_fo_leftChildren, .inl (gI G, 10, .inl fo_leftChildren)), (h_fo_rightChildren, .inl (gI G, 10, .inl fo_rightChildren)), (h_tr_allowedRoots, .inl (gI G, 121, .inl tr_allowedRoots)), (h_tr_ranks, .inl (gI G, 121, .inl tr_ranks)), (h_tr_roots, .inl (gI G, 121, .inl tr_roots))] H → va_D A [(h_fo, .inr (1, [.int fo_operators, .ref h_fo_roots, .ref h_fo_leftChildren, .ref h_fo_rightChildren, .ref h_fo_counts])), (h_tr, .inr (5, [.int tr_operators, .ref h_tr_roots, .ref h_tr_ranks, .ref h_tr_allowedRoots, .ref h_tr_ranksBelowRoot, .ref h_tr_results])), (h_fo_counts, .inl (gI G, 1210, .inl fo_counts)), (h_fo_leftChildren, .inl (gI G, 10, .inl fo_leftChildren)), (h_fo_rightChildren, .inl (gI G, 10, .inl fo_rightChildren)), (h_tr_allowedRoots, .inl (gI G, 121, .inl tr_allowedRoots)), (h_tr_ranks, .inl (gI G, 121, .inl tr_ranks)), (h_tr_roots, .inl (gI G, 121, .inl tr_roots))] → va_S A s.heap H locs → lv_has ls 5 [(0, .ref h_tr), (1, .ref h_fo), (3, .int v3), (4, .int v4)] → f_X6_select_l39 F v3 fo_counts fo_leftChildren fo_rightChildren tr_operators n v4 tr_allowedRoots tr_ranks tr_roots X = some out → (∀ (tr_allowedRoots : Nat → Int32) (tr_ranks : Nat → Int32) (tr_roots : Nat → Int32) (H : Heap) (locs : List Loc) (ls : Array Slot), va_P (gD G) vwCl [(h_fo, .inr (1, [.int fo_operators, .ref h_fo_roots, .ref h_fo_leftChildren, .ref h_fo_rightChildren, .ref h_fo_counts])), (h_tr, .inr (5, [.int tr_operators, .ref h_tr_roots, .ref h_tr_ranks, .ref h_tr_allowedRoots, .ref h_tr_ranksBelowRoot, .ref h_tr_results])), (h_fo_counts, .inl (gI G, 1210, .inl fo_counts)), (h_fo_leftChildren, .inl (gI G, 10, .inl fo_leftChildren)), (h_fo_rightChildren, .inl (gI G, 10, .inl fo_rightChildren)), (h_tr_allowedRoots, .inl (gI G, 121, .inl tr_allowedRoots)), (h_tr_ranks, .inl (gI G, 121, .inl tr_ranks)), (h_tr_roots, .inl (gI G, 121, .inl tr_roots))] H → va_D A [(h_fo, .inr (1, [.int fo_operators, .ref h_fo_roots, .ref h_fo_leftChildren, .ref h_fo_rightChildren, .ref h_fo_counts])), (h_tr, .inr (5, [.int tr_operators, .ref h_tr_roots, .ref h_tr_ranks, .ref h_tr_allowedRoots, .ref h_tr_ranksBelowRoot, .ref h_tr_results])), (h_fo_counts, .inl (gI G, 1210, .inl fo_counts)), (h_fo_leftChildren, .inl (gI G, 10, .inl fo_leftChildren)), (h_fo_rightChildren, .inl (gI G, 10, .inl fo_rightChildren)), (h_tr_allowedRoots, .inl (gI G, 121, .inl tr_allowedRoots)), (h_tr_ranks, .inl (gI G, 121, .inl tr_ranks)), (h_tr_roots, .inl (gI G, 121, .inl tr_roots))] → va_S A s.heap H locs → lv_has ls 5 [(0, .ref h_tr), (1, .ref h_fo), (3, .int v3)] → X tr_allowedRoots tr_ranks tr_roots = some out → W p l e rm_X6_select s m args below meth c H locs 0 0 Q (F0 m 80 ls [])) → W p l e rm_X6_select s m args below meth c H locs 0 0 Q (F0 m 39 ls []) := by
            intro n
            induction n with
            | zero => intro v3 tr_operators v4 tr_allowedRoots tr_ranks tr_roots X H locs ls hP hD hS hl h HX; rw [f_X6_select_l39] at h; cases h
            | succ n ih =>
                intro v3 tr_operators v4 tr_allowedRoots tr_ranks tr_roots X H locs ls hP hD hS hl h HX
                rw [f_X6_select_l39] at h
                refine lv_iload hx hb dX6_select_39 (lv_at hl 3 rfl) ?_
                refine lv_iload_n hx hb dX6_select_41 rfl (lv_at hl 2 rfl) ?_
                refine lv_iadd hx hb dX6_select_42 ?_
                refine lv_aload_n hx hb dX6_select_43 rfl (lv_at hl 0 rfl) ?_
                refine va_get (D := gD G) (ci := 5) (v := .int tr_operators) (C := RX6) (T := TX6) (N := 6) hx hb hts lk_X6 hown hK hP 1 rfl rfl 0 (by decide) (hts _ fl_RX6_9) (fun _ h9 => h9) rfl dX6_select_44 ?_
                refine lv_icmp_gt (tgt := 80) hx hb dX6_select_47 (by decide) (fun c47 => ?_) (fun c47 => ?_)
                · have h := ip c47 h
                  exact HX tr_allowedRoots tr_ranks tr_roots H locs ls hP hD hS (lv_sub hl [0, 1, 2] rfl) h
                · have h := ing c47 h
                  refine lv_aload_n hx hb dX6_select_50 rfl (lv_at hl 0 rfl) ?_
                  refine lv_iload hx hb dX6_select_51 (lv_at hl 3 rfl) ?_
                  refine lv_iload hx hb dX6_select_53 (lv_at hl 3 rfl) ?_
                  refine lv_iload_n hx hb dX6_select_55 rfl (lv_at hl 2 rfl) ?_
                  refine lv_iadd hx hb dX6_select_56 ?_
                  obtain ⟨o57, e57, h⟩ := bd h
                  refine Ci.V (wr := [(h_fo, .inr (1, [.int fo_operators, .ref h_fo_roots, .ref h_fo_leftChildren, .ref h_fo_rightChildren, .ref h_fo_counts])), (h_fo_counts, .inl (gI G, 1210, .inl fo_counts)), (h_fo_leftChildren, .inl (gI G, 10, .inl fo_leftChildren)), (h_fo_rightChildren, .inl (gI G, 10, .inl fo_rightChildren)), (h_tr_allowedRoots, .inl (gI G, 121, .inl tr_allowedRoots)), (h_tr_roots, .inl (gI G, 121, .inl tr_roots))]) (c_X6_hasSubtree F l G h_tr h_tr_roots h_tr_ranks h_tr_allowedRoots h_tr_ranksBelowRoot h_tr_results tr_operators tr_ranks v4 (v4 + v3) H.size o57 e57) hB km_X6_hasSubtree ⟨im_X6_hasSubtree, sl_X6_hasSubtree⟩ ml_RX6_45 hP hD hS hl ⟨0, 5, _, _, rfl, rfl, rfl⟩ [1, 6] [0, 2, 3, 4, 5, 7] ⟨rfl, rfl, ⟨rfl, rfl⟩, by decide⟩ ⟨⟨Nat.le_of_ble_eq_true rfl, Nat.le_of_ble_eq_true rfl⟩, Nat.le_of_ble_eq_true rfl, Nat.le_of_ble_eq_true rfl, Nat.le_of_ble_eq_true rfl⟩ rfl dX6_select_57 (fun z H locs hP hD hS => ?_)
                  have hP : va_P (gD G) vwCl [(h_fo, .inr (1, [.int fo_operators, .ref h_fo_roots, .ref h_fo_leftChildren, .ref h_fo_rightChildren, .ref h_fo_counts])), (h_fo_counts, .inl (gI G, 1210, .inl fo_counts)), (h_fo_leftChildren, .inl (gI G, 10, .inl fo_leftChildren)), (h_fo_rightChildren, .inl (gI G, 10, .inl fo_rightChildren)), (h_tr_allowedRoots, .inl (gI G, 121, .inl tr_allowedRoots)), (h_tr_roots, .inl (gI G, 121, .inl tr_roots)), (h_tr, .inr (5, [.int tr_operators, .ref h_tr_roots, .ref h_tr_ranks, .ref h_tr_allowedRoots, .ref h_tr_ranksBelowRoot, .ref h_tr_results])), (h_tr_ranks, .inl (gI G, 121, .inl tr_ranks))] H := hP
                  have hD : va_D A [(h_fo, .inr (1, [.int fo_operators, .ref h_fo_roots, .ref h_fo_leftChildren, .ref h_fo_rightChildren, .ref h_fo_counts])), (h_fo_counts, .inl (gI G, 1210, .inl fo_counts)), (h_fo_leftChildren, .inl (gI G, 10, .inl fo_leftChildren)), (h_fo_rightChildren, .inl (gI G, 10, .inl fo_rightChildren)), (h_tr_allowedRoots, .inl (gI G, 121, .inl tr_allowedRoots)), (h_tr_roots, .inl (gI G, 121, .inl tr_roots)), (h_tr, .inr (5, [.int tr_operators, .ref h_tr_roots, .ref h_tr_ranks, .ref h_tr_allowedRoots, .ref h_tr_ranksBelowRoot, .ref h_tr_results])), (h_tr_ranks, .inl (gI G, 121, .inl tr_ranks))] := hD
                  refine lv_if_eq (tgt := 74) hx hb dX6_select_60 (by decide) (fun c60 => ?_) (fun c60 => ?_)
                  · have h := ip c60 h
                    refine lv_iinc (v := (v4 + 1)) (lv' := [(4, .int (v4 + 1)), (0, .ref h_tr), (1, .ref h_fo), (3, .int v3)]) hx hb dX6_select_74 hl (k := 3) rfl rfl (by decide) rfl (fun ls hl => ?_)
                    refine lv_goto (tgt := 39) hx hb dX6_select_77 (by decide) ?_
                    exact ih v3 tr_operators (v4 + 1) tr_allowedRoots tr_ranks tr_roots X H locs ls (hP.sub [0, 6, 1, 2, 3, 4, 7, 5] rfl) (hD.sub [0, 6, 1, 2, 3, 4, 7, 5] (by decide) rfl) hS (lv_sub hl [1, 2, 3, 0] rfl) h HX
                  · have h := ing c60 h
                    refine lv_aload_n hx hb dX6_select_63 rfl (lv_at hl 0 rfl) ?_
                    refine lv_aload_n hx hb dX6_select_64 rfl (lv_at hl 1 rfl) ?_
                    refine lv_iload hx hb dX6_select_65 (lv_at hl 3 rfl) ?_
                    refine lv_iload hx hb dX6_select_67 (lv_at hl 3 rfl) ?_
                    refine lv_iload_n hx hb dX6_select_69 rfl (lv_at hl 2 rfl) ?_
                    refine lv_iadd hx hb dX6_select_70 ?_
                    obtain ⟨o71, e71, h⟩ := bd h
                    refine Cv.V (wr := []) (c_X6_splitSubtree F l G h_fo h_fo_roots h_fo_leftChildren h_fo_rightChildren h_fo_counts h_tr h_tr_roots h_tr_ranks h_tr_allowedRoots h_tr_ranksBelowRoot h_tr_results fo_operators tr_operators fo_counts fo_leftChildren fo_rightChildren tr_allowedRoots tr_ranks tr_roots v4 (v4 + v3) H.size o71 e71) hB km_X6_splitSubtree ⟨im_X6_splitSubtree, sl_X6_splitSubtree⟩ ml_RX6_49 hP hD hS hl ⟨1, 5, _, _, rfl, rfl, rfl⟩ [0, 6, 1, 2, 3, 4, 7, 5] [] ⟨rfl, rfl, ⟨rfl, rfl⟩, by decide⟩ ⟨⟨Nat.le_of_ble_eq_true rfl, Nat.le_of_ble_eq_true rfl⟩, Nat.le_of_ble_eq_true rfl, Nat.le_of_ble_eq_true rfl, Nat.le_of_ble_eq_true rfl⟩ rfl dX6_select_71 (fun z H locs hP hD hS => ?_)
                    have hP : va_P (gD G) vwCl [(h_fo, .inr (1, [.int fo_operators, .ref h_fo_roots, .ref h_fo_leftChildren, .ref h_fo_rightChildren, .ref h_fo_counts])), (h_tr, .inr (5, [.int tr_operators, .ref h_tr_roots, .ref h_tr_ranks, .ref h_tr_allowedRoots, .ref h_tr_ranksBelowRoot, .ref h_tr_results])), (h_fo_counts, .inl (gI G, 1210, .inl fo_counts)), (h_fo_leftChildren, .inl (gI G, 10, .inl fo_leftChildren)), (h_fo_rightChildren, .inl (gI G, 10, .inl fo_rightChildren)), (h_tr_allowedRoots, .inl (gI G, 121, .inl (o71.1))), (h_tr_ranks, .inl (gI G, 121, .inl (o71.2.1))), (h_tr_roots, .inl (gI G, 121, .inl (o71.2.2)))] H := hP
                    have hD : va_D A [(h_fo, .inr (1, [.int fo_operators, .ref h_fo_roots, .ref h_fo_leftChildren, .ref h_fo_rightChildren, .ref h_fo_counts])), (h_tr, .inr (5, [.int tr_operators, .ref h_tr_roots, .ref h_tr_ranks, .ref h_tr_allowedRoots, .ref h_tr_ranksBelowRoot, .ref h_tr_results])), (h_fo_counts, .inl (gI G, 1210, .inl fo_counts)), (h_fo_leftChildren, .inl (gI G, 10, .inl fo_leftChildren)), (h_fo_rightChildren, .inl (gI G, 10, .inl fo_rightChildren)), (h_tr_allowedRoots, .inl (gI G, 121, .inl (o71.1))), (h_tr_ranks, .inl (gI G, 121, .inl (o71.2.1))), (h_tr_roots, .inl (gI G, 121, .inl (o71.2.2)))] := hD
                    refine lv_iinc (v := (v4 + 1)) (lv' := [(4, .int (v4 + 1)), (0, .ref h_tr), (1, .ref h_fo), (3, .int v3)]) hx hb dX6_select_74 hl (k := 3) rfl rfl (by decide) rfl (fun ls hl => ?_)
                    refine lv_goto (tgt := 39) hx hb dX6_select_77 (by decide) ?_
                    exact ih v3 tr_operators (v4 + 1) (o71.1) (o71.2.1) (o71.2.2) X H locs ls hP hD hS (lv_sub hl [1, 2, 3, 0] rfl) h HX
          refine Lp39 F v3 tr_operators 0 tr_allowedRoots tr_ranks tr_roots _ H locs ls hP hD hS (lv_sub hl [1, 2, 3, 0] rfl) h (fun tr_allowedRoots tr_ranks tr_roots H locs ls hP hD hS hl h => ?_)
          refine lv_iinc (v := (v3 + (-1))) (lv' := [(3, .int (v3 + (-1))), (0, .ref h_tr), (1, .ref h_fo)]) hx hb dX6_select_80 hl (k := 2) rfl rfl (by decide) rfl (fun ls hl => ?_)
          refine lv_goto (tgt := 32) hx hb dX6_select_83 (by decide) ?_
          exact ih tr_operators (v3 + (-1)) tr_allowedRoots tr_ranks tr_roots X H locs ls hP hD hS (lv_sub hl [1, 2, 0] rfl) h HX
  refine Lp32 F fo_operators fo_operators (o24.1) (o24.2) tr_roots _ H locs ls (hP.sub [0, 5, 1, 2, 3, 6, 7, 4] rfl) (hD.sub [0, 5, 1, 2, 3, 6, 7, 4] (by decide) rfl) hS (lv_sub hl [1, 2, 0] rfl) h (fun tr_allowedRoots tr_ranks tr_roots H locs ls hP hD hS hl h => ?_)
  cases h
  exact hret (fun _ => 0) _ _ _ _ hP hD hS dX6_select_86
abbrev rm_X6_operatorInPreorder : Room := { frames := 1, cells := 0, slots := 0, locals := 21 }
theorem km_X6_operatorInPreorder : KM yX6_operatorInPreorder cX6_operatorInPreorder 7 (some .int) 1 := ⟨co_X6_operatorInPreorder, in_RX6, by decide +kernel⟩
set_option maxHeartbeats 4000000 in
set_option maxRecDepth 100000 in
theorem c_X6_operatorInPreorder (F : Nat) (l : Launch) (G : GT) (h_tr h_tr_roots h_tr_ranks h_tr_allowedRoots h_tr_ranksBelowRoot h_tr_results : Nat) (tr_operators : Int32) (tr_roots : Nat → Int32) (p1 : Int32) (sz : Nat) (out : Int32) (h : f_X6_operatorInPreorder F p1 tr_operators tr_roots = some out) : Ci G l yX6_operatorInPreorder cX6_operatorInPreorder 7 (some .int) rm_X6_operatorInPreorder [.ref h_tr, .int p1] [(h_tr, .inr (5, [.int tr_operators, .ref h_tr_roots, .ref h_tr_ranks, .ref h_tr_allowedRoots, .ref h_tr_ranksBelowRoot, .ref h_tr_results])), (h_tr_roots, .inl (gI G, 121, .inl tr_roots))] sz out (fun _ => [(h_tr, .inr (5, [.int tr_operators, .ref h_tr_roots, .ref h_tr_ranks, .ref h_tr_allowedRoots, .ref h_tr_ranksBelowRoot, .ref h_tr_results])), (h_tr_roots, .inl (gI G, 121, .inl tr_roots))]) := by
  refine Ci.start rfl (by decide) (Nat.le_of_ble_eq_true rfl) ?_
  intro p e s m args below meth c A Q H locs ls hB hP hD hS hl hret
  obtain ⟨hx, hb, hmL, hr, hown, hts, hlocks, hnm, hA, hE⟩ := id hB
  obtain ⟨hK, hN, hV, hR, hZ, hZq, hAO⟩ := id hE
  have hown : s.vm.findClass RX6 = some m.cls := hown
  have hl : lv_has ls 7 [(0, .ref h_tr), (1, .int p1)] := hl
  rw [f_X6_operatorInPreorder] at h
  refine lv_iconst (v := 0) hx hb dX6_operatorInPreorder_0 (by decide) ?_
  refine lv_istore_n (lv' := [(2, .int 0), (0, .ref h_tr), (1, .int p1)]) hx hb dX6_operatorInPreorder_1 rfl hl (by decide) rfl (fun ls hl => ?_)
  refine lv_aload_n hx hb dX6_operatorInPreorder_2 rfl (lv_at hl 1 rfl) ?_
  refine va_get (D := gD G) (ci := 5) (v := .int tr_operators) (C := RX6) (T := TX6) (N := 6) hx hb hts lk_X6 hown hK hP 0 rfl rfl 0 (by decide) (hts _ fl_RX6_9) (fun _ h9 => h9) rfl dX6_operatorInPreorder_3 ?_
  refine lv_istore_n (lv' := [(3, .int tr_operators), (2, .int 0), (0, .ref h_tr), (1, .int p1)]) hx hb dX6_operatorInPreorder_6 rfl hl (by decide) rfl (fun ls hl => ?_)
  refine lv_iload_n hx hb dX6_operatorInPreorder_7 rfl (lv_at hl 3 rfl) ?_
  refine lv_istore (lv' := [(4, .int p1), (3, .int tr_operators), (2, .int 0), (0, .ref h_tr), (1, .int p1)]) hx hb dX6_operatorInPreorder_8 hl (by decide) rfl (fun ls hl => ?_)
  refine lv_iconst (v := 0) hx hb dX6_operatorInPreorder_10 (by decide) ?_
  refine lv_istore (lv' := [(5, .int 0), (4, .int p1), (3, .int tr_operators), (2, .int 0), (0, .ref h_tr), (1, .int p1)]) hx hb dX6_operatorInPreorder_11 hl (by decide) rfl (fun ls hl => ?_)
  have Lp13 : ∀ (n : Nat) (v2 : Int32) (v3 : Int32) (v4 : Int32) (v5 : Int32) (X : Option (Int32)) (H : Heap) (locs : List Loc) (ls : Array Slot), va_P (gD G) vwCl [(h_tr, .inr (5, [.int tr_operators, .ref h_tr_roots, .ref h_tr_ranks, .ref h_tr_allowedRoots, .ref h_tr_ranksBelowRoot, .ref h_tr_results])), (h_tr_roots, .inl (gI G, 121, .inl tr_roots))] H → va_D A [(h_tr, .inr (5, [.int tr_operators, .ref h_tr_roots, .ref h_tr_ranks, .ref h_tr_allowedRoots, .ref h_tr_ranksBelowRoot, .ref h_tr_results])), (h_tr_roots, .inl (gI G, 121, .inl tr_roots))] → va_S A s.heap H locs → lv_has ls 7 [(0, .ref h_tr), (2, .int v2), (3, .int v3), (4, .int v4), (5, .int v5)] → f_X6_operatorInPreorder_l13 F tr_operators tr_roots n v2 v3 v4 v5 X = some out → (∀ (_ : True) (H : Heap) (locs : List Loc) (ls : Array Slot), va_P (gD G) vwCl [(h_tr, .inr (5, [.int tr_operators, .ref h_tr_roots, .ref h_tr_ranks, .ref h_tr_allowedRoots, .ref h_tr_ranksBelowRoot, .ref h_tr_results])), (h_tr_roots, .inl (gI G, 121, .inl tr_roots))] H → va_D A [(h_tr, .inr (5, [.int tr_operators, .ref h_tr_roots, .ref h_tr_ranks, .ref h_tr_allowedRoots, .ref h_tr_ranksBelowRoot, .ref h_tr_results])), (h_tr_roots, .inl (gI G, 121, .inl tr_roots))] → va_S A s.heap H locs → lv_has ls 7 [] → X  = some out → W p l e rm_X6_operatorInPreorder s m args below meth c H locs 0 0 Q (F0 m 88 ls [])) → W p l e rm_X6_operatorInPreorder s m args below meth c H locs 0 0 Q (F0 m 13 ls []) := by
    intro n
    induction n with
    | zero => intro v2 v3 v4 v5 X H locs ls hP hD hS hl h HX; rw [f_X6_operatorInPreorder_l13] at h; cases h
    | succ n ih =>
        intro v2 v3 v4 v5 X H locs ls hP hD hS hl h HX
        rw [f_X6_operatorInPreorder_l13] at h
        refine lv_iload hx hb dX6_operatorInPreorder_13 (lv_at hl 4 rfl) ?_
        refine lv_aload_n hx hb dX6_operatorInPreorder_15 rfl (lv_at hl 0 rfl) ?_
        refine va_get (D := gD G) (ci := 5) (v := .int tr_operators) (C := RX6) (T := TX6) (N := 6) hx hb hts lk_X6 hown hK hP 0 rfl rfl 0 (by decide) (hts _ fl_RX6_9) (fun _ h9 => h9) rfl dX6_operatorInPreorder_16 ?_
        refine lv_icmp_ge (tgt := 88) hx hb dX6_operatorInPreorder_19 (by decide) (fun c19 => ?_) (fun c19 => ?_)
        · have h := ip c19 h
          exact HX trivial H locs ls hP hD hS (lv_sub hl [] rfl) h
        · have h := ing c19 h
          refine lv_iload hx hb dX6_operatorInPreorder_22 (lv_at hl 3 rfl) ?_
          refine lv_iload_n hx hb dX6_operatorInPreorder_24 rfl (lv_at hl 2 rfl) ?_
          refine lv_iload_n hx hb dX6_operatorInPreorder_25 rfl (lv_at hl 1 rfl) ?_
          refine lv_isub hx hb dX6_operatorInPreorder_26 ?_
          refine lv_icmp_ge (tgt := 88) hx hb dX6_operatorInPreorder_27 (by decide) (fun c27 => ?_) (fun c27 => ?_)
          · have h := ip c27 h
            exact HX trivial H locs ls hP hD hS (lv_sub hl [] rfl) h
          · have h := ing c27 h
            refine lv_aload_n hx hb dX6_operatorInPreorder_30 rfl (lv_at hl 0 rfl) ?_
            refine va_get (D := gD G) (ci := 5) (v := .ref h_tr_roots) (C := RX6) (T := TX6) (N := 6) hx hb hts lk_X6 hown hK hP 0 rfl rfl 1 (by decide) (hts _ fl_RX6_15) (fun _ h9 => h9) rfl dX6_operatorInPreorder_31 ?_
            refine lv_iload_n hx hb dX6_operatorInPreorder_34 rfl (lv_at hl 1 rfl) ?_
            refine lv_iload_n hx hb dX6_operatorInPreorder_35 rfl (lv_at hl 2 rfl) ?_
            obtain ⟨o36, e36, h⟩ := bd h
            refine Ci.SN (wr := [(h_tr, .inr (5, [.int tr_operators, .ref h_tr_roots, .ref h_tr_ranks, .ref h_tr_allowedRoots, .ref h_tr_ranksBelowRoot, .ref h_tr_results])), (h_tr_roots, .inl (gI G, 121, .inl tr_roots))]) (c_X7_spanIndex F l G v2 v3 H.size o36 e36) hB km_X7_spanIndex st_X7_spanIndex mn_RX6_53 hP hD hS hl [] [0, 1] ⟨rfl, rfl, ⟨rfl, rfl⟩, by decide⟩ ⟨⟨Nat.le_of_ble_eq_true rfl, Nat.le_of_ble_eq_true rfl⟩, Nat.le_of_ble_eq_true rfl, Nat.le_of_ble_eq_true rfl, Nat.le_of_ble_eq_true rfl⟩ rfl dX6_operatorInPreorder_36 (fun z H locs hP hD hS => ?_)
            have hP : va_P (gD G) vwCl [(h_tr, .inr (5, [.int tr_operators, .ref h_tr_roots, .ref h_tr_ranks, .ref h_tr_allowedRoots, .ref h_tr_ranksBelowRoot, .ref h_tr_results])), (h_tr_roots, .inl (gI G, 121, .inl tr_roots))] H := hP
            have hD : va_D A [(h_tr, .inr (5, [.int tr_operators, .ref h_tr_roots, .ref h_tr_ranks, .ref h_tr_allowedRoots, .ref h_tr_ranksBelowRoot, .ref h_tr_results])), (h_tr_roots, .inl (gI G, 121, .inl tr_roots))] := hD
            obtain ⟨g39, h⟩ := gda h
            refine va_iald hx hb hK hP 1 1 rfl rfl g39 dX6_operatorInPreorder_39 ?_
            refine lv_istore (lv' := [(6, .int (tr_roots (Int32.toNatClampNeg o36))), (0, .ref h_tr), (2, .int v2), (3, .int v3), (4, .int v4), (5, .int v5)]) hx hb dX6_operatorInPreorder_40 hl (by decide) rfl (fun ls hl => ?_)
            refine lv_iload hx hb dX6_operatorInPreorder_42 (lv_at hl 4 rfl) ?_
            refine lv_if_ne (tgt := 50) hx hb dX6_operatorInPreorder_44 (by decide) (fun c44 => ?_) (fun c44 => ?_)
            · have h := ing c44 h
              refine lv_iinc (v := (v4 + (-1))) (lv' := [(4, .int (v4 + (-1))), (6, .int (tr_roots (Int32.toNatClampNeg o36))), (0, .ref h_tr), (2, .int v2), (3, .int v3), (5, .int v5)]) hx hb dX6_operatorInPreorder_50 hl (k := 4) rfl rfl (by decide) rfl (fun ls hl => ?_)
              refine lv_iload hx hb dX6_operatorInPreorder_53 (lv_at hl 0 rfl) ?_
              refine lv_iload hx hb dX6_operatorInPreorder_55 (lv_at hl 1 rfl) ?_
              refine lv_iload_n hx hb dX6_operatorInPreorder_57 rfl (lv_at hl 3 rfl) ?_
              refine lv_isub hx hb dX6_operatorInPreorder_58 ?_
              refine lv_icmp_ge (tgt := 68) hx hb dX6_operatorInPreorder_59 (by decide) (fun c59 => ?_) (fun c59 => ?_)
              · have h := ip c59 h
                refine lv_iload hx hb dX6_operatorInPreorder_68 (lv_at hl 0 rfl) ?_
                refine lv_iload hx hb dX6_operatorInPreorder_70 (lv_at hl 1 rfl) ?_
                refine lv_iload_n hx hb dX6_operatorInPreorder_72 rfl (lv_at hl 3 rfl) ?_
                refine lv_isub hx hb dX6_operatorInPreorder_73 ?_
                refine lv_isub hx hb dX6_operatorInPreorder_74 ?_
                refine lv_istore (lv' := [(4, .int ((v4 + (-1)) - ((tr_roots (Int32.toNatClampNeg o36)) - v2))), (6, .int (tr_roots (Int32.toNatClampNeg o36))), (0, .ref h_tr), (2, .int v2), (3, .int v3), (5, .int v5)]) hx hb dX6_operatorInPreorder_75 hl (by decide) rfl (fun ls hl => ?_)
                refine lv_iload hx hb dX6_operatorInPreorder_77 (lv_at hl 1 rfl) ?_
                refine lv_iconst (v := 1) hx hb dX6_operatorInPreorder_79 (by decide) ?_
                refine lv_iadd hx hb dX6_operatorInPreorder_80 ?_
                refine lv_istore_n (lv' := [(2, .int ((tr_roots (Int32.toNatClampNeg o36)) + 1)), (4, .int ((v4 + (-1)) - ((tr_roots (Int32.toNatClampNeg o36)) - v2))), (6, .int (tr_roots (Int32.toNatClampNeg o36))), (0, .ref h_tr), (3, .int v3), (5, .int v5)]) hx hb dX6_operatorInPreorder_81 rfl hl (by decide) rfl (fun ls hl => ?_)
                refine lv_iinc (v := (v5 + 1)) (lv' := [(5, .int (v5 + 1)), (2, .int ((tr_roots (Int32.toNatClampNeg o36)) + 1)), (4, .int ((v4 + (-1)) - ((tr_roots (Int32.toNatClampNeg o36)) - v2))), (6, .int (tr_roots (Int32.toNatClampNeg o36))), (0, .ref h_tr), (3, .int v3)]) hx hb dX6_operatorInPreorder_82 hl (k := 5) rfl rfl (by decide) rfl (fun ls hl => ?_)
                refine lv_goto (tgt := 13) hx hb dX6_operatorInPreorder_85 (by decide) ?_
                exact ih ((tr_roots (Int32.toNatClampNeg o36)) + 1) v3 ((v4 + (-1)) - ((tr_roots (Int32.toNatClampNeg o36)) - v2)) (v5 + 1) X H locs ls hP hD hS (lv_sub hl [4, 1, 5, 2, 0] rfl) h HX
              · have h := ing c59 h
                refine lv_iload hx hb dX6_operatorInPreorder_62 (lv_at hl 1 rfl) ?_
                refine lv_istore_n (lv' := [(3, .int (tr_roots (Int32.toNatClampNeg o36))), (4, .int (v4 + (-1))), (6, .int (tr_roots (Int32.toNatClampNeg o36))), (0, .ref h_tr), (2, .int v2), (5, .int v5)]) hx hb dX6_operatorInPreorder_64 rfl hl (by decide) rfl (fun ls hl => ?_)
                refine lv_goto (tgt := 82) hx hb dX6_operatorInPreorder_65 (by decide) ?_
                refine lv_iinc (v := (v5 + 1)) (lv' := [(5, .int (v5 + 1)), (3, .int (tr_roots (Int32.toNatClampNeg o36))), (4, .int (v4 + (-1))), (6, .int (tr_roots (Int32.toNatClampNeg o36))), (0, .ref h_tr), (2, .int v2)]) hx hb dX6_operatorInPreorder_82 hl (k := 5) rfl rfl (by decide) rfl (fun ls hl => ?_)
                refine lv_goto (tgt := 13) hx hb dX6_operatorInPreorder_85 (by decide) ?_
                exact ih v2 (tr_roots (Int32.toNatClampNeg o36)) (v4 + (-1)) (v5 + 1) X H locs ls hP hD hS (lv_sub hl [4, 5, 1, 2, 0] rfl) h HX
            · have h := ip c44 h
              refine lv_iload hx hb dX6_operatorInPreorder_47 (lv_at hl 0 rfl) ?_
              cases h
              exact hret (fun _ => 0) _ _ _ _ hP hD hS rfl dX6_operatorInPreorder_49
  refine Lp13 F 0 tr_operators p1 0 _ H locs ls hP hD hS (lv_sub hl [4, 3, 2, 1, 0] rfl) h (fun _ H locs ls hP hD hS hl h => ?_)
  refine lv_bipush (v := (-4)) hx hb dX6_operatorInPreorder_88 (by decide) ?_
  cases h
  exact hret (fun _ => 0) _ _ _ _ hP hD hS rfl dX6_operatorInPreorder_90
abbrev rm_X6_childSurvives : Room := { frames := 1, cells := 0, slots := 0, locals := 21 }
theorem km_X6_childSurvives : KM yX6_childSurvives cX6_childSurvives 4 (some .boolean) 3 := ⟨co_X6_childSurvives, in_RX6, by decide +kernel⟩
set_option maxHeartbeats 4000000 in
set_option maxRecDepth 100000 in
theorem c_X6_childSurvives (F : Nat) (l : Launch) (G : GT) (h_tr h_tr_roots h_tr_ranks h_tr_allowedRoots h_tr_ranksBelowRoot h_tr_results : Nat) (tr_operators : Int32) (tr_roots : Nat → Int32) (p1 : Int32) (p2 : Int32) (p3 : Int32) (sz : Nat) (out : Int32) (h : f_X6_childSurvives F p1 p2 p3 tr_roots = some out) : Ci G l yX6_childSurvives cX6_childSurvives 4 (some .boolean) rm_X6_childSurvives [.ref h_tr, .int p1, .int p2, .int p3] [(h_tr, .inr (5, [.int tr_operators, .ref h_tr_roots, .ref h_tr_ranks, .ref h_tr_allowedRoots, .ref h_tr_ranksBelowRoot, .ref h_tr_results])), (h_tr_roots, .inl (gI G, 121, .inl tr_roots))] sz out (fun _ => [(h_tr, .inr (5, [.int tr_operators, .ref h_tr_roots, .ref h_tr_ranks, .ref h_tr_allowedRoots, .ref h_tr_ranksBelowRoot, .ref h_tr_results])), (h_tr_roots, .inl (gI G, 121, .inl tr_roots))]) := by
  refine Ci.start rfl (by decide) (Nat.le_of_ble_eq_true rfl) ?_
  intro p e s m args below meth c A Q H locs ls hB hP hD hS hl hret
  obtain ⟨hx, hb, hmL, hr, hown, hts, hlocks, hnm, hA, hE⟩ := id hB
  obtain ⟨hK, hN, hV, hR, hZ, hZq, hAO⟩ := id hE
  have hown : s.vm.findClass RX6 = some m.cls := hown
  have hl : lv_has ls 4 [(0, .ref h_tr), (1, .int p1), (2, .int p2), (3, .int p3)] := hl
  rw [f_X6_childSurvives] at h
  refine lv_iload_n hx hb dX6_childSurvives_0 rfl (lv_at hl 1 rfl) ?_
  refine lv_iload_n hx hb dX6_childSurvives_1 rfl (lv_at hl 2 rfl) ?_
  refine lv_icmp_ge (tgt := 22) hx hb dX6_childSurvives_2 (by decide) (fun c2 => ?_) (fun c2 => ?_)
  · have h := ip c2 h
    refine lv_iconst (v := 1) hx hb dX6_childSurvives_22 (by decide) ?_
    refine lv_goto (tgt := 27) hx hb dX6_childSurvives_23 (by decide) ?_
    cases h
    exact hret (fun _ => 0) _ _ _ _ hP hD hS (nz (Or.inr rfl)) dX6_childSurvives_27
  · have h := ing c2 h
    refine lv_aload_n hx hb dX6_childSurvives_5 rfl (lv_at hl 0 rfl) ?_
    refine va_get (D := gD G) (ci := 5) (v := .ref h_tr_roots) (C := RX6) (T := TX6) (N := 6) hx hb hts lk_X6 hown hK hP 0 rfl rfl 1 (by decide) (hts _ fl_RX6_15) (fun _ h9 => h9) rfl dX6_childSurvives_6 ?_
    refine lv_iload_n hx hb dX6_childSurvives_9 rfl (lv_at hl 1 rfl) ?_
    refine lv_iload_n hx hb dX6_childSurvives_10 rfl (lv_at hl 2 rfl) ?_
    obtain ⟨o11, e11, h⟩ := bd h
    refine Ci.SN (wr := [(h_tr, .inr (5, [.int tr_operators, .ref h_tr_roots, .ref h_tr_ranks, .ref h_tr_allowedRoots, .ref h_tr_ranksBelowRoot, .ref h_tr_results])), (h_tr_roots, .inl (gI G, 121, .inl tr_roots))]) (c_X7_spanIndex F l G p1 p2 H.size o11 e11) hB km_X7_spanIndex st_X7_spanIndex mn_RX6_53 hP hD hS hl [] [0, 1] ⟨rfl, rfl, ⟨rfl, rfl⟩, by decide⟩ ⟨⟨Nat.le_of_ble_eq_true rfl, Nat.le_of_ble_eq_true rfl⟩, Nat.le_of_ble_eq_true rfl, Nat.le_of_ble_eq_true rfl, Nat.le_of_ble_eq_true rfl⟩ rfl dX6_childSurvives_11 (fun z H locs hP hD hS => ?_)
    have hP : va_P (gD G) vwCl [(h_tr, .inr (5, [.int tr_operators, .ref h_tr_roots, .ref h_tr_ranks, .ref h_tr_allowedRoots, .ref h_tr_ranksBelowRoot, .ref h_tr_results])), (h_tr_roots, .inl (gI G, 121, .inl tr_roots))] H := hP
    have hD : va_D A [(h_tr, .inr (5, [.int tr_operators, .ref h_tr_roots, .ref h_tr_ranks, .ref h_tr_allowedRoots, .ref h_tr_ranksBelowRoot, .ref h_tr_results])), (h_tr_roots, .inl (gI G, 121, .inl tr_roots))] := hD
    obtain ⟨g14, h⟩ := gda h
    refine va_iald hx hb hK hP 1 1 rfl rfl g14 dX6_childSurvives_14 ?_
    refine lv_iload_n hx hb dX6_childSurvives_15 rfl (lv_at hl 3 rfl) ?_
    obtain ⟨o16, e16, h⟩ := bd h
    refine Ci.S (wr := [(h_tr, .inr (5, [.int tr_operators, .ref h_tr_roots, .ref h_tr_ranks, .ref h_tr_allowedRoots, .ref h_tr_ranksBelowRoot, .ref h_tr_results])), (h_tr_roots, .inl (gI G, 121, .inl tr_roots))]) (c_X2_isIn F l G (tr_roots (Int32.toNatClampNeg o11)) p3 H.size o16 e16) hB km_X2_isIn st_X2_isIn ml_RX6_82 hP hD hS hl [] [0, 1] ⟨rfl, rfl, ⟨rfl, rfl⟩, by decide⟩ ⟨⟨Nat.le_of_ble_eq_true rfl, Nat.le_of_ble_eq_true rfl⟩, Nat.le_of_ble_eq_true rfl, Nat.le_of_ble_eq_true rfl, Nat.le_of_ble_eq_true rfl⟩ rfl dX6_childSurvives_16 (fun z H locs hP hD hS => ?_)
    have hP : va_P (gD G) vwCl [(h_tr, .inr (5, [.int tr_operators, .ref h_tr_roots, .ref h_tr_ranks, .ref h_tr_allowedRoots, .ref h_tr_ranksBelowRoot, .ref h_tr_results])), (h_tr_roots, .inl (gI G, 121, .inl tr_roots))] H := hP
    have hD : va_D A [(h_tr, .inr (5, [.int tr_operators, .ref h_tr_roots, .ref h_tr_ranks, .ref h_tr_allowedRoots, .ref h_tr_ranksBelowRoot, .ref h_tr_results])), (h_tr_roots, .inl (gI G, 121, .inl tr_roots))] := hD
    refine lv_if_eq (tgt := 26) hx hb dX6_childSurvives_19 (by decide) (fun c19 => ?_) (fun c19 => ?_)
    · have h := ip c19 h
      refine lv_iconst (v := 0) hx hb dX6_childSurvives_26 (by decide) ?_
      cases h
      exact hret (fun _ => 0) _ _ _ _ hP hD hS (nz (Or.inl rfl)) dX6_childSurvives_27
    · have h := ing c19 h
      refine lv_iconst (v := 1) hx hb dX6_childSurvives_22 (by decide) ?_
      refine lv_goto (tgt := 27) hx hb dX6_childSurvives_23 (by decide) ?_
      cases h
      exact hret (fun _ => 0) _ _ _ _ hP hD hS (nz (Or.inr rfl)) dX6_childSurvives_27
abbrev rm_X6_rootSurvives : Room := { frames := 2, cells := 0, slots := 0, locals := 44 }
theorem km_X6_rootSurvives : KM yX6_rootSurvives cX6_rootSurvives 5 (some .boolean) 3 := ⟨co_X6_rootSurvives, in_RX6, by decide +kernel⟩
set_option maxHeartbeats 4000000 in
set_option maxRecDepth 100000 in
theorem c_X6_rootSurvives (F : Nat) (l : Launch) (G : GT) (h_fo h_fo_roots h_fo_leftChildren h_fo_rightChildren h_fo_counts h_tr h_tr_roots h_tr_ranks h_tr_allowedRoots h_tr_ranksBelowRoot h_tr_results : Nat) (fo_operators : Int32) (tr_operators : Int32) (fo_leftChildren : Nat → Int32) (fo_rightChildren : Nat → Int32) (fo_roots : Nat → Int32) (tr_roots : Nat → Int32) (p2 : Int32) (p3 : Int32) (sz : Nat) (out : Int32) (h : f_X6_rootSurvives F p2 p3 fo_leftChildren fo_rightChildren fo_roots tr_roots = some out) : Ci G l yX6_rootSurvives cX6_rootSurvives 5 (some .boolean) rm_X6_rootSurvives [.ref h_tr, .ref h_fo, .int p2, .int p3] [(h_fo, .inr (1, [.int fo_operators, .ref h_fo_roots, .ref h_fo_leftChildren, .ref h_fo_rightChildren, .ref h_fo_counts])), (h_tr, .inr (5, [.int tr_operators, .ref h_tr_roots, .ref h_tr_ranks, .ref h_tr_allowedRoots, .ref h_tr_ranksBelowRoot, .ref h_tr_results])), (h_fo_leftChildren, .inl (gI G, 10, .inl fo_leftChildren)), (h_fo_rightChildren, .inl (gI G, 10, .inl fo_rightChildren)), (h_fo_roots, .inl (gI G, 121, .inl fo_roots)), (h_tr_roots, .inl (gI G, 121, .inl tr_roots))] sz out (fun _ => [(h_fo, .inr (1, [.int fo_operators, .ref h_fo_roots, .ref h_fo_leftChildren, .ref h_fo_rightChildren, .ref h_fo_counts])), (h_tr, .inr (5, [.int tr_operators, .ref h_tr_roots, .ref h_tr_ranks, .ref h_tr_allowedRoots, .ref h_tr_ranksBelowRoot, .ref h_tr_results])), (h_fo_leftChildren, .inl (gI G, 10, .inl fo_leftChildren)), (h_fo_rightChildren, .inl (gI G, 10, .inl fo_rightChildren)), (h_fo_roots, .inl (gI G, 121, .inl fo_roots)), (h_tr_roots, .inl (gI G, 121, .inl tr_roots))]) := by
  refine Ci.start rfl (by decide) (Nat.le_of_ble_eq_true rfl) ?_
  intro p e s m args below meth c A Q H locs ls hB hP hD hS hl hret
  obtain ⟨hx, hb, hmL, hr, hown, hts, hlocks, hnm, hA, hE⟩ := id hB
  obtain ⟨hK, hN, hV, hR, hZ, hZq, hAO⟩ := id hE
  have hown : s.vm.findClass RX6 = some m.cls := hown
  have hl : lv_has ls 5 [(0, .ref h_tr), (1, .ref h_fo), (2, .int p2), (3, .int p3)] := hl
  rw [f_X6_rootSurvives] at h
  refine lv_aload_n hx hb dX6_rootSurvives_0 rfl (lv_at hl 0 rfl) ?_
  refine va_get (D := gD G) (ci := 5) (v := .ref h_tr_roots) (C := RX6) (T := TX6) (N := 6) hx hb hts lk_X6 hown hK hP 1 rfl rfl 1 (by decide) (hts _ fl_RX6_15) (fun _ h9 => h9) rfl dX6_rootSurvives_1 ?_
  refine lv_iload_n hx hb dX6_rootSurvives_4 rfl (lv_at hl 2 rfl) ?_
  refine lv_iload_n hx hb dX6_rootSurvives_5 rfl (lv_at hl 3 rfl) ?_
  obtain ⟨o6, e6, h⟩ := bd h
  refine Ci.SN (wr := [(h_fo, .inr (1, [.int fo_operators, .ref h_fo_roots, .ref h_fo_leftChildren, .ref h_fo_rightChildren, .ref h_fo_counts])), (h_tr, .inr (5, [.int tr_operators, .ref h_tr_roots, .ref h_tr_ranks, .ref h_tr_allowedRoots, .ref h_tr_ranksBelowRoot, .ref h_tr_results])), (h_fo_leftChildren, .inl (gI G, 10, .inl fo_leftChildren)), (h_fo_rightChildren, .inl (gI G, 10, .inl fo_rightChildren)), (h_fo_roots, .inl (gI G, 121, .inl fo_roots)), (h_tr_roots, .inl (gI G, 121, .inl tr_roots))]) (c_X7_spanIndex F l G p2 p3 H.size o6 e6) hB km_X7_spanIndex st_X7_spanIndex mn_RX6_53 hP hD hS hl [] [0, 1, 2, 3, 4, 5] ⟨rfl, rfl, ⟨rfl, rfl⟩, by decide⟩ ⟨⟨Nat.le_of_ble_eq_true rfl, Nat.le_of_ble_eq_true rfl⟩, Nat.le_of_ble_eq_true rfl, Nat.le_of_ble_eq_true rfl, Nat.le_of_ble_eq_true rfl⟩ rfl dX6_rootSurvives_6 (fun z H locs hP hD hS => ?_)
  have hP : va_P (gD G) vwCl [(h_fo, .inr (1, [.int fo_operators, .ref h_fo_roots, .ref h_fo_leftChildren, .ref h_fo_rightChildren, .ref h_fo_counts])), (h_tr, .inr (5, [.int tr_operators, .ref h_tr_roots, .ref h_tr_ranks, .ref h_tr_allowedRoots, .ref h_tr_ranksBelowRoot, .ref h_tr_results])), (h_fo_leftChildren, .inl (gI G, 10, .inl fo_leftChildren)), (h_fo_rightChildren, .inl (gI G, 10, .inl fo_rightChildren)), (h_fo_roots, .inl (gI G, 121, .inl fo_roots)), (h_tr_roots, .inl (gI G, 121, .inl tr_roots))] H := hP
  have hD : va_D A [(h_fo, .inr (1, [.int fo_operators, .ref h_fo_roots, .ref h_fo_leftChildren, .ref h_fo_rightChildren, .ref h_fo_counts])), (h_tr, .inr (5, [.int tr_operators, .ref h_tr_roots, .ref h_tr_ranks, .ref h_tr_allowedRoots, .ref h_tr_ranksBelowRoot, .ref h_tr_results])), (h_fo_leftChildren, .inl (gI G, 10, .inl fo_leftChildren)), (h_fo_rightChildren, .inl (gI G, 10, .inl fo_rightChildren)), (h_fo_roots, .inl (gI G, 121, .inl fo_roots)), (h_tr_roots, .inl (gI G, 121, .inl tr_roots))] := hD
  obtain ⟨g9, h⟩ := gda h
  refine va_iald hx hb hK hP 5 1 rfl rfl g9 dX6_rootSurvives_9 ?_
  refine lv_istore (lv' := [(4, .int (tr_roots (Int32.toNatClampNeg o6))), (0, .ref h_tr), (1, .ref h_fo), (2, .int p2), (3, .int p3)]) hx hb dX6_rootSurvives_10 hl (by decide) rfl (fun ls hl => ?_)
  refine lv_aload_n hx hb dX6_rootSurvives_12 rfl (lv_at hl 2 rfl) ?_
  refine lv_iload_n hx hb dX6_rootSurvives_13 rfl (lv_at hl 3 rfl) ?_
  refine lv_iload_n hx hb dX6_rootSurvives_14 rfl (lv_at hl 4 rfl) ?_
  refine lv_iload hx hb dX6_rootSurvives_15 (lv_at hl 0 rfl) ?_
  obtain ⟨o17, e17, h⟩ := bd h
  refine Ci.V (wr := [(h_tr, .inr (5, [.int tr_operators, .ref h_tr_roots, .ref h_tr_ranks, .ref h_tr_allowedRoots, .ref h_tr_ranksBelowRoot, .ref h_tr_results])), (h_fo_leftChildren, .inl (gI G, 10, .inl fo_leftChildren)), (h_fo_rightChildren, .inl (gI G, 10, .inl fo_rightChildren)), (h_tr_roots, .inl (gI G, 121, .inl tr_roots))]) (c_X2_allowsRoot F l G h_fo h_fo_roots h_fo_leftChildren h_fo_rightChildren h_fo_counts fo_operators fo_roots p2 p3 (tr_roots (Int32.toNatClampNeg o6)) H.size o17 e17) hB km_X2_allowsRoot ⟨im_X2_allowsRoot, sl_X2_allowsRoot⟩ ml_RX6_75 hP hD hS hl ⟨0, 1, _, _, rfl, rfl, rfl⟩ [0, 4] [1, 2, 3, 5] ⟨rfl, rfl, ⟨rfl, rfl⟩, by decide⟩ ⟨⟨Nat.le_of_ble_eq_true rfl, Nat.le_of_ble_eq_true rfl⟩, Nat.le_of_ble_eq_true rfl, Nat.le_of_ble_eq_true rfl, Nat.le_of_ble_eq_true rfl⟩ rfl dX6_rootSurvives_17 (fun z H locs hP hD hS => ?_)
  have hP : va_P (gD G) vwCl [(h_tr, .inr (5, [.int tr_operators, .ref h_tr_roots, .ref h_tr_ranks, .ref h_tr_allowedRoots, .ref h_tr_ranksBelowRoot, .ref h_tr_results])), (h_fo_leftChildren, .inl (gI G, 10, .inl fo_leftChildren)), (h_fo_rightChildren, .inl (gI G, 10, .inl fo_rightChildren)), (h_tr_roots, .inl (gI G, 121, .inl tr_roots)), (h_fo, .inr (1, [.int fo_operators, .ref h_fo_roots, .ref h_fo_leftChildren, .ref h_fo_rightChildren, .ref h_fo_counts])), (h_fo_roots, .inl (gI G, 121, .inl fo_roots))] H := hP
  have hD : va_D A [(h_tr, .inr (5, [.int tr_operators, .ref h_tr_roots, .ref h_tr_ranks, .ref h_tr_allowedRoots, .ref h_tr_ranksBelowRoot, .ref h_tr_results])), (h_fo_leftChildren, .inl (gI G, 10, .inl fo_leftChildren)), (h_fo_rightChildren, .inl (gI G, 10, .inl fo_rightChildren)), (h_tr_roots, .inl (gI G, 121, .inl tr_roots)), (h_fo, .inr (1, [.int fo_operators, .ref h_fo_roots, .ref h_fo_leftChildren, .ref h_fo_rightChildren, .ref h_fo_counts])), (h_fo_roots, .inl (gI G, 121, .inl fo_roots))] := hD
  refine lv_if_eq (tgt := 63) hx hb dX6_rootSurvives_20 (by decide) (fun c20 => ?_) (fun c20 => ?_)
  · have h := ip c20 h
    refine lv_iconst (v := 0) hx hb dX6_rootSurvives_63 (by decide) ?_
    cases h
    exact hret (fun _ => 0) _ _ _ _ (hP.sub [4, 0, 1, 2, 5, 3] rfl) (hD.sub [4, 0, 1, 2, 5, 3] (by decide) rfl) hS (nz (Or.inl rfl)) dX6_rootSurvives_64
  · have h := ing c20 h
    refine lv_aload_n hx hb dX6_rootSurvives_23 rfl (lv_at hl 1 rfl) ?_
    refine lv_iload_n hx hb dX6_rootSurvives_24 rfl (lv_at hl 3 rfl) ?_
    refine lv_iload hx hb dX6_rootSurvives_25 (lv_at hl 0 rfl) ?_
    refine lv_aload_n hx hb dX6_rootSurvives_27 rfl (lv_at hl 2 rfl) ?_
    refine va_getN (D := gD G) (ci := 1) (v := .ref h_fo_leftChildren) (C := RX2) (T := TX2) (N := 5) hx hb hts lk_X2 hown hK hP 4 rfl rfl 2 (by decide) (va_Nw.use rfl (hN _ fn_RX6_68)) (fun _ h9 => h9) rfl dX6_rootSurvives_28 ?_
    refine lv_iload hx hb dX6_rootSurvives_31 (lv_at hl 0 rfl) ?_
    obtain ⟨g33, h⟩ := gda h
    refine va_iald hx hb hK hP 1 1 rfl rfl g33 dX6_rootSurvives_33 ?_
    obtain ⟨o34, e34, h⟩ := bd h
    refine Ci.V (wr := [(h_fo_leftChildren, .inl (gI G, 10, .inl fo_leftChildren)), (h_fo_rightChildren, .inl (gI G, 10, .inl fo_rightChildren)), (h_fo, .inr (1, [.int fo_operators, .ref h_fo_roots, .ref h_fo_leftChildren, .ref h_fo_rightChildren, .ref h_fo_counts])), (h_fo_roots, .inl (gI G, 121, .inl fo_roots))]) (c_X6_childSurvives F l G h_tr h_tr_roots h_tr_ranks h_tr_allowedRoots h_tr_ranksBelowRoot h_tr_results tr_operators tr_roots p2 (tr_roots (Int32.toNatClampNeg o6)) (fo_leftChildren (Int32.toNatClampNeg (tr_roots (Int32.toNatClampNeg o6)))) H.size o34 e34) hB km_X6_childSurvives ⟨im_X6_childSurvives, sl_X6_childSurvives⟩ ml_RX6_79 hP hD hS hl ⟨0, 5, _, _, rfl, rfl, rfl⟩ [0, 3] [1, 2, 4, 5] ⟨rfl, rfl, ⟨rfl, rfl⟩, by decide⟩ ⟨⟨Nat.le_of_ble_eq_true rfl, Nat.le_of_ble_eq_true rfl⟩, Nat.le_of_ble_eq_true rfl, Nat.le_of_ble_eq_true rfl, Nat.le_of_ble_eq_true rfl⟩ rfl dX6_rootSurvives_34 (fun z H locs hP hD hS => ?_)
    have hP : va_P (gD G) vwCl [(h_fo_leftChildren, .inl (gI G, 10, .inl fo_leftChildren)), (h_fo_rightChildren, .inl (gI G, 10, .inl fo_rightChildren)), (h_fo, .inr (1, [.int fo_operators, .ref h_fo_roots, .ref h_fo_leftChildren, .ref h_fo_rightChildren, .ref h_fo_counts])), (h_fo_roots, .inl (gI G, 121, .inl fo_roots)), (h_tr, .inr (5, [.int tr_operators, .ref h_tr_roots, .ref h_tr_ranks, .ref h_tr_allowedRoots, .ref h_tr_ranksBelowRoot, .ref h_tr_results])), (h_tr_roots, .inl (gI G, 121, .inl tr_roots))] H := hP
    have hD : va_D A [(h_fo_leftChildren, .inl (gI G, 10, .inl fo_leftChildren)), (h_fo_rightChildren, .inl (gI G, 10, .inl fo_rightChildren)), (h_fo, .inr (1, [.int fo_operators, .ref h_fo_roots, .ref h_fo_leftChildren, .ref h_fo_rightChildren, .ref h_fo_counts])), (h_fo_roots, .inl (gI G, 121, .inl fo_roots)), (h_tr, .inr (5, [.int tr_operators, .ref h_tr_roots, .ref h_tr_ranks, .ref h_tr_allowedRoots, .ref h_tr_ranksBelowRoot, .ref h_tr_results])), (h_tr_roots, .inl (gI G, 121, .inl tr_roots))] := hD
    refine lv_if_eq (tgt := 63) hx hb dX6_rootSurvives_37 (by decide) (fun c37 => ?_) (fun c37 => ?_)
    · have h := ip c37 h
      refine lv_iconst (v := 0) hx hb dX6_rootSurvives_63 (by decide) ?_
      cases h
      exact hret (fun _ => 0) _ _ _ _ (hP.sub [2, 4, 0, 1, 3, 5] rfl) (hD.sub [2, 4, 0, 1, 3, 5] (by decide) rfl) hS (nz (Or.inl rfl)) dX6_rootSurvives_64
    · have h := ing c37 h
      refine lv_aload_n hx hb dX6_rootSurvives_40 rfl (lv_at hl 1 rfl) ?_
      refine lv_iload hx hb dX6_rootSurvives_41 (lv_at hl 0 rfl) ?_
      refine lv_iconst (v := 1) hx hb dX6_rootSurvives_43 (by decide) ?_
      refine lv_iadd hx hb dX6_rootSurvives_44 ?_
      refine lv_iload_n hx hb dX6_rootSurvives_45 rfl (lv_at hl 4 rfl) ?_
      refine lv_aload_n hx hb dX6_rootSurvives_46 rfl (lv_at hl 2 rfl) ?_
      refine va_getN (D := gD G) (ci := 1) (v := .ref h_fo_rightChildren) (C := RX2) (T := TX2) (N := 5) hx hb hts lk_X2 hown hK hP 2 rfl rfl 3 (by decide) (va_Nw.use rfl (hN _ fn_RX6_61)) (fun _ h9 => h9) rfl dX6_rootSurvives_47 ?_
      refine lv_iload hx hb dX6_rootSurvives_50 (lv_at hl 0 rfl) ?_
      obtain ⟨g52, h⟩ := gda h
      refine va_iald hx hb hK hP 1 1 rfl rfl g52 dX6_rootSurvives_52 ?_
      obtain ⟨o53, e53, h⟩ := bd h
      refine Ci.V (wr := [(h_fo_leftChildren, .inl (gI G, 10, .inl fo_leftChildren)), (h_fo_rightChildren, .inl (gI G, 10, .inl fo_rightChildren)), (h_fo, .inr (1, [.int fo_operators, .ref h_fo_roots, .ref h_fo_leftChildren, .ref h_fo_rightChildren, .ref h_fo_counts])), (h_fo_roots, .inl (gI G, 121, .inl fo_roots))]) (c_X6_childSurvives F l G h_tr h_tr_roots h_tr_ranks h_tr_allowedRoots h_tr_ranksBelowRoot h_tr_results tr_operators tr_roots ((tr_roots (Int32.toNatClampNeg o6)) + 1) p3 (fo_rightChildren (Int32.toNatClampNeg (tr_roots (Int32.toNatClampNeg o6)))) H.size o53 e53) hB km_X6_childSurvives ⟨im_X6_childSurvives, sl_X6_childSurvives⟩ ml_RX6_79 hP hD hS hl ⟨0, 5, _, _, rfl, rfl, rfl⟩ [4, 5] [0, 1, 2, 3] ⟨rfl, rfl, ⟨rfl, rfl⟩, by decide⟩ ⟨⟨Nat.le_of_ble_eq_true rfl, Nat.le_of_ble_eq_true rfl⟩, Nat.le_of_ble_eq_true rfl, Nat.le_of_ble_eq_true rfl, Nat.le_of_ble_eq_true rfl⟩ rfl dX6_rootSurvives_53 (fun z H locs hP hD hS => ?_)
      have hP : va_P (gD G) vwCl [(h_fo_leftChildren, .inl (gI G, 10, .inl fo_leftChildren)), (h_fo_rightChildren, .inl (gI G, 10, .inl fo_rightChildren)), (h_fo, .inr (1, [.int fo_operators, .ref h_fo_roots, .ref h_fo_leftChildren, .ref h_fo_rightChildren, .ref h_fo_counts])), (h_fo_roots, .inl (gI G, 121, .inl fo_roots)), (h_tr, .inr (5, [.int tr_operators, .ref h_tr_roots, .ref h_tr_ranks, .ref h_tr_allowedRoots, .ref h_tr_ranksBelowRoot, .ref h_tr_results])), (h_tr_roots, .inl (gI G, 121, .inl tr_roots))] H := hP
      have hD : va_D A [(h_fo_leftChildren, .inl (gI G, 10, .inl fo_leftChildren)), (h_fo_rightChildren, .inl (gI G, 10, .inl fo_rightChildren)), (h_fo, .inr (1, [.int fo_operators, .ref h_fo_roots, .ref h_fo_leftChildren, .ref h_fo_rightChildren, .ref h_fo_counts])), (h_fo_roots, .inl (gI G, 121, .inl fo_roots)), (h_tr, .inr (5, [.int tr_operators, .ref h_tr_roots, .ref h_tr_ranks, .ref h_tr_allowedRoots, .ref h_tr_ranksBelowRoot, .ref h_tr_results])), (h_tr_roots, .inl (gI G, 121, .inl tr_roots))] := hD
      refine lv_if_eq (tgt := 63) hx hb dX6_rootSurvives_56 (by decide) (fun c56 => ?_) (fun c56 => ?_)
      · have h := ip c56 h
        refine lv_iconst (v := 0) hx hb dX6_rootSurvives_63 (by decide) ?_
        cases h
        exact hret (fun _ => 0) _ _ _ _ (hP.sub [2, 4, 0, 1, 3, 5] rfl) (hD.sub [2, 4, 0, 1, 3, 5] (by decide) rfl) hS (nz (Or.inl rfl)) dX6_rootSurvives_64
      · have h := ing c56 h
        refine lv_iconst (v := 1) hx hb dX6_rootSurvives_59 (by decide) ?_
        refine lv_goto (tgt := 64) hx hb dX6_rootSurvives_60 (by decide) ?_
        cases h
        exact hret (fun _ => 0) _ _ _ _ (hP.sub [2, 4, 0, 1, 3, 5] rfl) (hD.sub [2, 4, 0, 1, 3, 5] (by decide) rfl) hS (nz (Or.inr rfl)) dX6_rootSurvives_64
abbrev rm_X6_survives : Room := { frames := 3, cells := 0, slots := 0, locals := 68 }
theorem km_X6_survives : KM yX6_survives cX6_survives 4 (some .boolean) 1 := ⟨co_X6_survives, in_RX6, by decide +kernel⟩
set_option maxHeartbeats 4000000 in
set_option maxRecDepth 100000 in
theorem c_X6_survives (F : Nat) (l : Launch) (G : GT) (h_fo h_fo_roots h_fo_leftChildren h_fo_rightChildren h_fo_counts h_tr h_tr_roots h_tr_ranks h_tr_allowedRoots h_tr_ranksBelowRoot h_tr_results : Nat) (fo_operators : Int32) (tr_operators : Int32) (fo_leftChildren : Nat → Int32) (fo_rightChildren : Nat → Int32) (fo_roots : Nat → Int32) (tr_ranks : Nat → Int32) (tr_roots : Nat → Int32) (sz : Nat) (out : Int32) (h : f_X6_survives F fo_leftChildren fo_rightChildren fo_roots tr_operators tr_ranks tr_roots = some out) : Ci G l yX6_survives cX6_survives 4 (some .boolean) rm_X6_survives [.ref h_tr, .ref h_fo] [(h_fo, .inr (1, [.int fo_operators, .ref h_fo_roots, .ref h_fo_leftChildren, .ref h_fo_rightChildren, .ref h_fo_counts])), (h_tr, .inr (5, [.int tr_operators, .ref h_tr_roots, .ref h_tr_ranks, .ref h_tr_allowedRoots, .ref h_tr_ranksBelowRoot, .ref h_tr_results])), (h_fo_leftChildren, .inl (gI G, 10, .inl fo_leftChildren)), (h_fo_rightChildren, .inl (gI G, 10, .inl fo_rightChildren)), (h_fo_roots, .inl (gI G, 121, .inl fo_roots)), (h_tr_ranks, .inl (gI G, 121, .inl tr_ranks)), (h_tr_roots, .inl (gI G, 121, .inl tr_roots))] sz out (fun _ => [(h_fo, .inr (1, [.int fo_operators, .ref h_fo_roots, .ref h_fo_leftChildren, .ref h_fo_rightChildren, .ref h_fo_counts])), (h_tr, .inr (5, [.int tr_operators, .ref h_tr_roots, .ref h_tr_ranks, .ref h_tr_allowedRoots, .ref h_tr_ranksBelowRoot, .ref h_tr_results])), (h_fo_leftChildren, .inl (gI G, 10, .inl fo_leftChildren)), (h_fo_rightChildren, .inl (gI G, 10, .inl fo_rightChildren)), (h_fo_roots, .inl (gI G, 121, .inl fo_roots)), (h_tr_ranks, .inl (gI G, 121, .inl tr_ranks)), (h_tr_roots, .inl (gI G, 121, .inl tr_roots))]) := by
  refine Ci.start rfl (by decide) (Nat.le_of_ble_eq_true rfl) ?_
  intro p e s m args below meth c A Q H locs ls hB hP hD hS hl hret
  obtain ⟨hx, hb, hmL, hr, hown, hts, hlocks, hnm, hA, hE⟩ := id hB
  obtain ⟨hK, hN, hV, hR, hZ, hZq, hAO⟩ := id hE
  have hown : s.vm.findClass RX6 = some m.cls := hown
  have hl : lv_has ls 4 [(0, .ref h_tr), (1, .ref h_fo)] := hl
  rw [f_X6_survives] at h
  refine lv_iconst (v := 1) hx hb dX6_survives_0 (by decide) ?_
  refine lv_istore_n (lv' := [(2, .int 1), (0, .ref h_tr), (1, .ref h_fo)]) hx hb dX6_survives_1 rfl hl (by decide) rfl (fun ls hl => ?_)
  have Lp2 : ∀ (n : Nat) (v2 : Int32) (X : Option (Int32)) (H : Heap) (locs : List Loc) (ls : Array Slot), va_P (gD G) vwCl [(h_fo, .inr (1, [.int fo_operators, .ref h_fo_roots, .ref h_fo_leftChildren, .ref h_fo_rightChildren, .ref h_fo_counts])), (h_tr, .inr (5, [.int tr_operators, .ref h_tr_roots, .ref h_tr_ranks, .ref h_tr_allowedRoots, .ref h_tr_ranksBelowRoot, .ref h_tr_results])), (h_fo_leftChildren, .inl (gI G, 10, .inl fo_leftChildren)), (h_fo_rightChildren, .inl (gI G, 10, .inl fo_rightChildren)), (h_fo_roots, .inl (gI G, 121, .inl fo_roots)), (h_tr_ranks, .inl (gI G, 121, .inl tr_ranks)), (h_tr_roots, .inl (gI G, 121, .inl tr_roots))] H → va_D A [(h_fo, .inr (1, [.int fo_operators, .ref h_fo_roots, .ref h_fo_leftChildren, .ref h_fo_rightChildren, .ref h_fo_counts])), (h_tr, .inr (5, [.int tr_operators, .ref h_tr_roots, .ref h_tr_ranks, .ref h_tr_allowedRoots, .ref h_tr_ranksBelowRoot, .ref h_tr_results])), (h_fo_leftChildren, .inl (gI G, 10, .inl fo_leftChildren)), (h_fo_rightChildren, .inl (gI G, 10, .inl fo_rightChildren)), (h_fo_roots, .inl (gI G, 121, .inl fo_roots)), (h_tr_ranks, .inl (gI G, 121, .inl tr_ranks)), (h_tr_roots, .inl (gI G, 121, .inl tr_roots))] → va_S A s.heap H locs → lv_has ls 4 [(0, .ref h_tr), (1, .ref h_fo), (2, .int v2)] → f_X6_survives_l2 F fo_leftChildren fo_rightChildren fo_roots tr_operators tr_ranks tr_roots n v2 X = some out → (∀ (_ : True) (H : Heap) (locs : List Loc) (ls : Array Slot), va_P (gD G) vwCl [(h_fo, .inr (1, [.int fo_operators, .ref h_fo_roots, .ref h_fo_leftChildren, .ref h_fo_rightChildren, .ref h_fo_counts])), (h_tr, .inr (5, [.int tr_operators, .ref h_tr_roots, .ref h_tr_ranks, .ref h_tr_allowedRoots, .ref h_tr_ranksBelowRoot, .ref h_tr_results])), (h_fo_leftChildren, .inl (gI G, 10, .inl fo_leftChildren)), (h_fo_rightChildren, .inl (gI G, 10, .inl fo_rightChildren)), (h_fo_roots, .inl (gI G, 121, .inl fo_roots)), (h_tr_ranks, .inl (gI G, 121, .inl tr_ranks)), (h_tr_roots, .inl (gI G, 121, .inl tr_roots))] H → va_D A [(h_fo, .inr (1, [.int fo_operators, .ref h_fo_roots, .ref h_fo_leftChildren, .ref h_fo_rightChildren, .ref h_fo_counts])), (h_tr, .inr (5, [.int tr_operators, .ref h_tr_roots, .ref h_tr_ranks, .ref h_tr_allowedRoots, .ref h_tr_ranksBelowRoot, .ref h_tr_results])), (h_fo_leftChildren, .inl (gI G, 10, .inl fo_leftChildren)), (h_fo_rightChildren, .inl (gI G, 10, .inl fo_rightChildren)), (h_fo_roots, .inl (gI G, 121, .inl fo_roots)), (h_tr_ranks, .inl (gI G, 121, .inl tr_ranks)), (h_tr_roots, .inl (gI G, 121, .inl tr_roots))] → va_S A s.heap H locs → lv_has ls 4 [] → X  = some out → W p l e rm_X6_survives s m args below meth c H locs 0 0 Q (F0 m 59 ls [])) → W p l e rm_X6_survives s m args below meth c H locs 0 0 Q (F0 m 2 ls []) := by
    intro n
    induction n with
    | zero => intro v2 X H locs ls hP hD hS hl h HX; rw [f_X6_survives_l2] at h; cases h
    | succ n ih =>
        intro v2 X H locs ls hP hD hS hl h HX
        rw [f_X6_survives_l2] at h
        refine lv_iload_n hx hb dX6_survives_2 rfl (lv_at hl 2 rfl) ?_
        refine lv_aload_n hx hb dX6_survives_3 rfl (lv_at hl 0 rfl) ?_
        refine va_get (D := gD G) (ci := 5) (v := .int tr_operators) (C := RX6) (T := TX6) (N := 6) hx hb hts lk_X6 hown hK hP 1 rfl rfl 0 (by decide) (hts _ fl_RX6_9) (fun _ h9 => h9) rfl dX6_survives_4 ?_
        refine lv_icmp_gt (tgt := 59) hx hb dX6_survives_7 (by decide) (fun c7 => ?_) (fun c7 => ?_)
        · have h := ip c7 h
          exact HX trivial H locs ls hP hD hS (lv_sub hl [] rfl) h
        · have h := ing c7 h
          refine lv_iconst (v := 0) hx hb dX6_survives_10 (by decide) ?_
          refine lv_istore_n (lv' := [(3, .int 0), (0, .ref h_tr), (1, .ref h_fo), (2, .int v2)]) hx hb dX6_survives_11 rfl hl (by decide) rfl (fun ls hl => ?_)
          have Lp12 : ∀ (n : Nat) (v2 : Int32) (v3 : Int32) (X : Option (Int32)) (H : Heap) (locs : List Loc) (ls : Array Slot), va_P (gD G) vwCl [(h_fo, .inr (1, [.int fo_operators, .ref h_fo_roots, .ref h_fo_leftChildren, .ref h_fo_rightChildren, .ref h_fo_counts])), (h_tr, .inr (5, [.int tr_operators, .ref h_tr_roots, .ref h_tr_ranks, .ref h_tr_allowedRoots, .ref h_tr_ranksBelowRoot, .ref h_tr_results])), (h_fo_leftChildren, .inl (gI G, 10, .inl fo_leftChildren)), (h_fo_rightChildren, .inl (gI G, 10, .inl fo_rightChildren)), (h_fo_roots, .inl (gI G, 121, .inl fo_roots)), (h_tr_ranks, .inl (gI G, 121, .inl tr_ranks)), (h_tr_roots, .inl (gI G, 121, .inl tr_roots))] H → va_D A [(h_fo, .inr (1, [.int fo_operators, .ref h_fo_roots, .ref h_fo_leftChildren, .ref h_fo_rightChildren, .ref h_fo_counts])), (h_tr, .inr (5, [.int tr_operators, .ref h_tr_roots, .ref h_tr_ranks, .ref h_tr_allowedRoots, .ref h_tr_ranksBelowRoot, .ref h_tr_results])), (h_fo_leftChildren, .inl (gI G, 10, .inl fo_leftChildren)), (h_fo_rightChildren, .inl (gI G, 10, .inl fo_rightChildren)), (h_fo_roots, .inl (gI G, 121, .inl fo_roots)), (h_tr_ranks, .inl (gI G, 121, .inl tr_ranks)), (h_tr_roots, .inl (gI G, 121, .inl tr_roots))] → va_S A s.heap H locs → lv_has ls 4 [(0, .ref h_tr), (1, .ref h_fo), (2, .int v2), (3, .int v3)] → f_X6_survives_l12 F v2 fo_leftChildren fo_rightChildren fo_roots tr_operators tr_ranks tr_roots n v3 X = some out → (∀ (_ : True) (H : Heap) (locs : List Loc) (ls : Array Slot), va_P (gD G) vwCl [(h_fo, .inr (1, [.int fo_operators, .ref h_fo_roots, .ref h_fo_leftChildren, .ref h_fo_rightChildren, .ref h_fo_counts])), (h_tr, .inr (5, [.int tr_operators, .ref h_tr_roots, .ref h_tr_ranks, .ref h_tr_allowedRoots, .ref h_tr_ranksBelowRoot, .ref h_tr_results])), (h_fo_leftChildren, .inl (gI G, 10, .inl fo_leftChildren)), (h_fo_rightChildren, .inl (gI G, 10, .inl fo_rightChildren)), (h_fo_roots, .inl (gI G, 121, .inl fo_roots)), (h_tr_ranks, .inl (gI G, 121, .inl tr_ranks)), (h_tr_roots, .inl (gI G, 121, .inl tr_roots))] H → va_D A [(h_fo, .inr (1, [.int fo_operators, .ref h_fo_roots, .ref h_fo_leftChildren, .ref h_fo_rightChildren, .ref h_fo_counts])), (h_tr, .inr (5, [.int tr_operators, .ref h_tr_roots, .ref h_tr_ranks, .ref h_tr_allowedRoots, .ref h_tr_ranksBelowRoot, .ref h_tr_results])), (h_fo_leftChildren, .inl (gI G, 10, .inl fo_leftChildren)), (h_fo_rightChildren, .inl (gI G, 10, .inl fo_rightChildren)), (h_fo_roots, .inl (gI G, 121, .inl fo_roots)), (h_tr_ranks, .inl (gI G, 121, .inl tr_ranks)), (h_tr_roots, .inl (gI G, 121, .inl tr_roots))] → va_S A s.heap H locs → lv_has ls 4 [(0, .ref h_tr), (1, .ref h_fo), (2, .int v2)] → X  = some out → W p l e rm_X6_survives s m args below meth c H locs 0 0 Q (F0 m 53 ls [])) → W p l e rm_X6_survives s m args below meth c H locs 0 0 Q (F0 m 12 ls []) := by
            intro n
            induction n with
            | zero => intro v2 v3 X H locs ls hP hD hS hl h HX; rw [f_X6_survives_l12] at h; cases h
            | succ n ih =>
                intro v2 v3 X H locs ls hP hD hS hl h HX
                rw [f_X6_survives_l12] at h
                refine lv_iload_n hx hb dX6_survives_12 rfl (lv_at hl 3 rfl) ?_
                refine lv_iload_n hx hb dX6_survives_13 rfl (lv_at hl 2 rfl) ?_
                refine lv_iadd hx hb dX6_survives_14 ?_
                refine lv_aload_n hx hb dX6_survives_15 rfl (lv_at hl 0 rfl) ?_
                refine va_get (D := gD G) (ci := 5) (v := .int tr_operators) (C := RX6) (T := TX6) (N := 6) hx hb hts lk_X6 hown hK hP 1 rfl rfl 0 (by decide) (hts _ fl_RX6_9) (fun _ h9 => h9) rfl dX6_survives_16 ?_
                refine lv_icmp_gt (tgt := 53) hx hb dX6_survives_19 (by decide) (fun c19 => ?_) (fun c19 => ?_)
                · have h := ip c19 h
                  exact HX trivial H locs ls hP hD hS (lv_sub hl [0, 1, 2] rfl) h
                · have h := ing c19 h
                  refine lv_aload_n hx hb dX6_survives_22 rfl (lv_at hl 0 rfl) ?_
                  refine lv_iload_n hx hb dX6_survives_23 rfl (lv_at hl 3 rfl) ?_
                  refine lv_iload_n hx hb dX6_survives_24 rfl (lv_at hl 3 rfl) ?_
                  refine lv_iload_n hx hb dX6_survives_25 rfl (lv_at hl 2 rfl) ?_
                  refine lv_iadd hx hb dX6_survives_26 ?_
                  obtain ⟨o27, e27, h⟩ := bd h
                  refine Ci.V (wr := [(h_fo, .inr (1, [.int fo_operators, .ref h_fo_roots, .ref h_fo_leftChildren, .ref h_fo_rightChildren, .ref h_fo_counts])), (h_fo_leftChildren, .inl (gI G, 10, .inl fo_leftChildren)), (h_fo_rightChildren, .inl (gI G, 10, .inl fo_rightChildren)), (h_fo_roots, .inl (gI G, 121, .inl fo_roots)), (h_tr_roots, .inl (gI G, 121, .inl tr_roots))]) (c_X6_hasSubtree F l G h_tr h_tr_roots h_tr_ranks h_tr_allowedRoots h_tr_ranksBelowRoot h_tr_results tr_operators tr_ranks v3 (v3 + v2) H.size o27 e27) hB km_X6_hasSubtree ⟨im_X6_hasSubtree, sl_X6_hasSubtree⟩ ml_RX6_45 hP hD hS hl ⟨0, 5, _, _, rfl, rfl, rfl⟩ [1, 5] [0, 2, 3, 4, 6] ⟨rfl, rfl, ⟨rfl, rfl⟩, by decide⟩ ⟨⟨Nat.le_of_ble_eq_true rfl, Nat.le_of_ble_eq_true rfl⟩, Nat.le_of_ble_eq_true rfl, Nat.le_of_ble_eq_true rfl, Nat.le_of_ble_eq_true rfl⟩ rfl dX6_survives_27 (fun z H locs hP hD hS => ?_)
                  have hP : va_P (gD G) vwCl [(h_fo, .inr (1, [.int fo_operators, .ref h_fo_roots, .ref h_fo_leftChildren, .ref h_fo_rightChildren, .ref h_fo_counts])), (h_fo_leftChildren, .inl (gI G, 10, .inl fo_leftChildren)), (h_fo_rightChildren, .inl (gI G, 10, .inl fo_rightChildren)), (h_fo_roots, .inl (gI G, 121, .inl fo_roots)), (h_tr_roots, .inl (gI G, 121, .inl tr_roots)), (h_tr, .inr (5, [.int tr_operators, .ref h_tr_roots, .ref h_tr_ranks, .ref h_tr_allowedRoots, .ref h_tr_ranksBelowRoot, .ref h_tr_results])), (h_tr_ranks, .inl (gI G, 121, .inl tr_ranks))] H := hP
                  have hD : va_D A [(h_fo, .inr (1, [.int fo_operators, .ref h_fo_roots, .ref h_fo_leftChildren, .ref h_fo_rightChildren, .ref h_fo_counts])), (h_fo_leftChildren, .inl (gI G, 10, .inl fo_leftChildren)), (h_fo_rightChildren, .inl (gI G, 10, .inl fo_rightChildren)), (h_fo_roots, .inl (gI G, 121, .inl fo_roots)), (h_tr_roots, .inl (gI G, 121, .inl tr_roots)), (h_tr, .inr (5, [.int tr_operators, .ref h_tr_roots, .ref h_tr_ranks, .ref h_tr_allowedRoots, .ref h_tr_ranksBelowRoot, .ref h_tr_results])), (h_tr_ranks, .inl (gI G, 121, .inl tr_ranks))] := hD
                  refine lv_if_eq (tgt := 47) hx hb dX6_survives_30 (by decide) (fun c30 => ?_) (fun c30 => ?_)
                  · have h := ip c30 h
                    refine lv_iinc (v := (v3 + 1)) (lv' := [(3, .int (v3 + 1)), (0, .ref h_tr), (1, .ref h_fo), (2, .int v2)]) hx hb dX6_survives_47 hl (k := 3) rfl rfl (by decide) rfl (fun ls hl => ?_)
                    refine lv_goto (tgt := 12) hx hb dX6_survives_50 (by decide) ?_
                    exact ih v2 (v3 + 1) X H locs ls (hP.sub [0, 5, 1, 2, 3, 6, 4] rfl) (hD.sub [0, 5, 1, 2, 3, 6, 4] (by decide) rfl) hS (lv_sub hl [1, 2, 3, 0] rfl) h HX
                  · have h := ing c30 h
                    refine lv_aload_n hx hb dX6_survives_33 rfl (lv_at hl 0 rfl) ?_
                    refine lv_aload_n hx hb dX6_survives_34 rfl (lv_at hl 1 rfl) ?_
                    refine lv_iload_n hx hb dX6_survives_35 rfl (lv_at hl 3 rfl) ?_
                    refine lv_iload_n hx hb dX6_survives_36 rfl (lv_at hl 3 rfl) ?_
                    refine lv_iload_n hx hb dX6_survives_37 rfl (lv_at hl 2 rfl) ?_
                    refine lv_iadd hx hb dX6_survives_38 ?_
                    obtain ⟨o39, e39, h⟩ := bd h
                    refine Ci.V (wr := [(h_tr_ranks, .inl (gI G, 121, .inl tr_ranks))]) (c_X6_rootSurvives F l G h_fo h_fo_roots h_fo_leftChildren h_fo_rightChildren h_fo_counts h_tr h_tr_roots h_tr_ranks h_tr_allowedRoots h_tr_ranksBelowRoot h_tr_results fo_operators tr_operators fo_leftChildren fo_rightChildren fo_roots tr_roots v3 (v3 + v2) H.size o39 e39) hB km_X6_rootSurvives ⟨im_X6_rootSurvives, sl_X6_rootSurvives⟩ ml_RX6_71 hP hD hS hl ⟨1, 5, _, _, rfl, rfl, rfl⟩ [0, 5, 1, 2, 3, 4] [6] ⟨rfl, rfl, ⟨rfl, rfl⟩, by decide⟩ ⟨⟨Nat.le_of_ble_eq_true rfl, Nat.le_of_ble_eq_true rfl⟩, Nat.le_of_ble_eq_true rfl, Nat.le_of_ble_eq_true rfl, Nat.le_of_ble_eq_true rfl⟩ rfl dX6_survives_39 (fun z H locs hP hD hS => ?_)
                    have hP : va_P (gD G) vwCl [(h_tr_ranks, .inl (gI G, 121, .inl tr_ranks)), (h_fo, .inr (1, [.int fo_operators, .ref h_fo_roots, .ref h_fo_leftChildren, .ref h_fo_rightChildren, .ref h_fo_counts])), (h_tr, .inr (5, [.int tr_operators, .ref h_tr_roots, .ref h_tr_ranks, .ref h_tr_allowedRoots, .ref h_tr_ranksBelowRoot, .ref h_tr_results])), (h_fo_leftChildren, .inl (gI G, 10, .inl fo_leftChildren)), (h_fo_rightChildren, .inl (gI G, 10, .inl fo_rightChildren)), (h_fo_roots, .inl (gI G, 121, .inl fo_roots)), (h_tr_roots, .inl (gI G, 121, .inl tr_roots))] H := hP
                    have hD : va_D A [(h_tr_ranks, .inl (gI G, 121, .inl tr_ranks)), (h_fo, .inr (1, [.int fo_operators, .ref h_fo_roots, .ref h_fo_leftChildren, .ref h_fo_rightChildren, .ref h_fo_counts])), (h_tr, .inr (5, [.int tr_operators, .ref h_tr_roots, .ref h_tr_ranks, .ref h_tr_allowedRoots, .ref h_tr_ranksBelowRoot, .ref h_tr_results])), (h_fo_leftChildren, .inl (gI G, 10, .inl fo_leftChildren)), (h_fo_rightChildren, .inl (gI G, 10, .inl fo_rightChildren)), (h_fo_roots, .inl (gI G, 121, .inl fo_roots)), (h_tr_roots, .inl (gI G, 121, .inl tr_roots))] := hD
                    refine lv_if_ne (tgt := 47) hx hb dX6_survives_42 (by decide) (fun c42 => ?_) (fun c42 => ?_)
                    · have h := ing c42 h
                      refine lv_iinc (v := (v3 + 1)) (lv' := [(3, .int (v3 + 1)), (0, .ref h_tr), (1, .ref h_fo), (2, .int v2)]) hx hb dX6_survives_47 hl (k := 3) rfl rfl (by decide) rfl (fun ls hl => ?_)
                      refine lv_goto (tgt := 12) hx hb dX6_survives_50 (by decide) ?_
                      exact ih v2 (v3 + 1) X H locs ls (hP.sub [1, 2, 3, 4, 5, 0, 6] rfl) (hD.sub [1, 2, 3, 4, 5, 0, 6] (by decide) rfl) hS (lv_sub hl [1, 2, 3, 0] rfl) h HX
                    · have h := ip c42 h
                      refine lv_iconst (v := 0) hx hb dX6_survives_45 (by decide) ?_
                      cases h
                      exact hret (fun _ => 0) _ _ _ _ (hP.sub [1, 2, 3, 4, 5, 0, 6] rfl) (hD.sub [1, 2, 3, 4, 5, 0, 6] (by decide) rfl) hS (nz (Or.inl rfl)) dX6_survives_46
          refine Lp12 F v2 0 _ H locs ls hP hD hS (lv_sub hl [1, 2, 3, 0] rfl) h (fun _ H locs ls hP hD hS hl h => ?_)
          refine lv_iinc (v := (v2 + 1)) (lv' := [(2, .int (v2 + 1)), (0, .ref h_tr), (1, .ref h_fo)]) hx hb dX6_survives_53 hl (k := 2) rfl rfl (by decide) rfl (fun ls hl => ?_)
          refine lv_goto (tgt := 2) hx hb dX6_survives_56 (by decide) ?_
          exact ih (v2 + 1) X H locs ls hP hD hS (lv_sub hl [1, 2, 0] rfl) h HX
  refine Lp2 F 1 _ H locs ls hP hD hS (lv_sub hl [1, 2, 0] rfl) h (fun _ H locs ls hP hD hS hl h => ?_)
  refine lv_iconst (v := 1) hx hb dX6_survives_59 (by decide) ?_
  cases h
  exact hret (fun _ => 0) _ _ _ _ hP hD hS (nz (Or.inr rfl)) dX6_survives_60
abbrev rm_X6_rankOf : Room := { frames := 2, cells := 0, slots := 0, locals := 45 }
theorem km_X6_rankOf : KM yX6_rankOf cX6_rankOf 8 (some .int) 4 := ⟨co_X6_rankOf, in_RX6, by decide +kernel⟩
set_option maxHeartbeats 4000000 in
set_option maxRecDepth 100000 in
theorem c_X6_rankOf (F : Nat) (l : Launch) (G : GT) (h_fo h_fo_roots h_fo_leftChildren h_fo_rightChildren h_fo_counts h_tr h_tr_roots h_tr_ranks h_tr_allowedRoots h_tr_ranksBelowRoot h_tr_results : Nat) (fo_operators : Int32) (tr_operators : Int32) (fo_counts : Nat → Int32) (tr_ranksBelowRoot : Nat → Int32) (tr_roots : Nat → Int32) (p2 : Int32) (p3 : Int32) (p4 : Int32) (sz : Nat) (out : Int32) (h : f_X6_rankOf F p2 p3 p4 fo_counts tr_ranksBelowRoot tr_roots = some out) : Ci G l yX6_rankOf cX6_rankOf 8 (some .int) rm_X6_rankOf [.ref h_tr, .ref h_fo, .int p2, .int p3, .int p4] [(h_fo, .inr (1, [.int fo_operators, .ref h_fo_roots, .ref h_fo_leftChildren, .ref h_fo_rightChildren, .ref h_fo_counts])), (h_tr, .inr (5, [.int tr_operators, .ref h_tr_roots, .ref h_tr_ranks, .ref h_tr_allowedRoots, .ref h_tr_ranksBelowRoot, .ref h_tr_results])), (h_fo_counts, .inl (gI G, 1210, .inl fo_counts)), (h_tr_ranksBelowRoot, .inl (gI G, 121, .inl tr_ranksBelowRoot)), (h_tr_roots, .inl (gI G, 121, .inl tr_roots))] sz out (fun _ => [(h_fo, .inr (1, [.int fo_operators, .ref h_fo_roots, .ref h_fo_leftChildren, .ref h_fo_rightChildren, .ref h_fo_counts])), (h_tr, .inr (5, [.int tr_operators, .ref h_tr_roots, .ref h_tr_ranks, .ref h_tr_allowedRoots, .ref h_tr_ranksBelowRoot, .ref h_tr_results])), (h_fo_counts, .inl (gI G, 1210, .inl fo_counts)), (h_tr_ranksBelowRoot, .inl (gI G, 121, .inl tr_ranksBelowRoot)), (h_tr_roots, .inl (gI G, 121, .inl tr_roots))]) := by
  refine Ci.start rfl (by decide) (Nat.le_of_ble_eq_true rfl) ?_
  intro p e s m args below meth c A Q H locs ls hB hP hD hS hl hret
  obtain ⟨hx, hb, hmL, hr, hown, hts, hlocks, hnm, hA, hE⟩ := id hB
  obtain ⟨hK, hN, hV, hR, hZ, hZq, hAO⟩ := id hE
  have hown : s.vm.findClass RX6 = some m.cls := hown
  have hl : lv_has ls 8 [(0, .ref h_tr), (1, .ref h_fo), (2, .int p2), (3, .int p3), (4, .int p4)] := hl
  rw [f_X6_rankOf] at h
  refine lv_iload_n hx hb dX6_rankOf_0 rfl (lv_at hl 2 rfl) ?_
  refine lv_iload_n hx hb dX6_rankOf_1 rfl (lv_at hl 3 rfl) ?_
  refine lv_icmp_lt (tgt := 7) hx hb dX6_rankOf_2 (by decide) (fun c2 => ?_) (fun c2 => ?_)
  · have h := ip c2 h
    refine lv_iload_n hx hb dX6_rankOf_7 rfl (lv_at hl 2 rfl) ?_
    refine lv_iload_n hx hb dX6_rankOf_8 rfl (lv_at hl 3 rfl) ?_
    obtain ⟨o9, e9, h⟩ := bd h
    refine Ci.SN (wr := [(h_fo, .inr (1, [.int fo_operators, .ref h_fo_roots, .ref h_fo_leftChildren, .ref h_fo_rightChildren, .ref h_fo_counts])), (h_tr, .inr (5, [.int tr_operators, .ref h_tr_roots, .ref h_tr_ranks, .ref h_tr_allowedRoots, .ref h_tr_ranksBelowRoot, .ref h_tr_results])), (h_fo_counts, .inl (gI G, 1210, .inl fo_counts)), (h_tr_ranksBelowRoot, .inl (gI G, 121, .inl tr_ranksBelowRoot)), (h_tr_roots, .inl (gI G, 121, .inl tr_roots))]) (c_X7_spanIndex F l G p2 p3 H.size o9 e9) hB km_X7_spanIndex st_X7_spanIndex mn_RX6_53 hP hD hS hl [] [0, 1, 2, 3, 4] ⟨rfl, rfl, ⟨rfl, rfl⟩, by decide⟩ ⟨⟨Nat.le_of_ble_eq_true rfl, Nat.le_of_ble_eq_true rfl⟩, Nat.le_of_ble_eq_true rfl, Nat.le_of_ble_eq_true rfl, Nat.le_of_ble_eq_true rfl⟩ rfl dX6_rankOf_9 (fun z H locs hP hD hS => ?_)
    have hP : va_P (gD G) vwCl [(h_fo, .inr (1, [.int fo_operators, .ref h_fo_roots, .ref h_fo_leftChildren, .ref h_fo_rightChildren, .ref h_fo_counts])), (h_tr, .inr (5, [.int tr_operators, .ref h_tr_roots, .ref h_tr_ranks, .ref h_tr_allowedRoots, .ref h_tr_ranksBelowRoot, .ref h_tr_results])), (h_fo_counts, .inl (gI G, 1210, .inl fo_counts)), (h_tr_ranksBelowRoot, .inl (gI G, 121, .inl tr_ranksBelowRoot)), (h_tr_roots, .inl (gI G, 121, .inl tr_roots))] H := hP
    have hD : va_D A [(h_fo, .inr (1, [.int fo_operators, .ref h_fo_roots, .ref h_fo_leftChildren, .ref h_fo_rightChildren, .ref h_fo_counts])), (h_tr, .inr (5, [.int tr_operators, .ref h_tr_roots, .ref h_tr_ranks, .ref h_tr_allowedRoots, .ref h_tr_ranksBelowRoot, .ref h_tr_results])), (h_fo_counts, .inl (gI G, 1210, .inl fo_counts)), (h_tr_ranksBelowRoot, .inl (gI G, 121, .inl tr_ranksBelowRoot)), (h_tr_roots, .inl (gI G, 121, .inl tr_roots))] := hD
    refine lv_istore (lv' := [(5, .int o9), (0, .ref h_tr), (1, .ref h_fo), (2, .int p2), (3, .int p3), (4, .int p4)]) hx hb dX6_rankOf_12 hl (by decide) rfl (fun ls hl => ?_)
    refine lv_aload_n hx hb dX6_rankOf_14 rfl (lv_at hl 1 rfl) ?_
    refine va_get (D := gD G) (ci := 5) (v := .ref h_tr_ranksBelowRoot) (C := RX6) (T := TX6) (N := 6) hx hb hts lk_X6 hown hK hP 1 rfl rfl 4 (by decide) (hts _ fl_RX6_25) (fun _ h9 => h9) rfl dX6_rankOf_15 ?_
    refine lv_iload hx hb dX6_rankOf_18 (lv_at hl 0 rfl) ?_
    obtain ⟨g20, h⟩ := gda h
    refine va_iald hx hb hK hP 3 1 rfl rfl g20 dX6_rankOf_20 ?_
    refine lv_istore (lv' := [(6, .int (tr_ranksBelowRoot (Int32.toNatClampNeg o9))), (5, .int o9), (0, .ref h_tr), (1, .ref h_fo), (2, .int p2), (3, .int p3), (4, .int p4)]) hx hb dX6_rankOf_21 hl (by decide) rfl (fun ls hl => ?_)
    refine lv_iload_n hx hb dX6_rankOf_23 rfl (lv_at hl 4 rfl) ?_
    refine lv_istore (lv' := [(7, .int p2), (6, .int (tr_ranksBelowRoot (Int32.toNatClampNeg o9))), (5, .int o9), (0, .ref h_tr), (1, .ref h_fo), (2, .int p2), (3, .int p3), (4, .int p4)]) hx hb dX6_rankOf_24 hl (by decide) rfl (fun ls hl => ?_)
    have Lp26 : ∀ (n : Nat) (v2 : Int32) (v3 : Int32) (v4 : Int32) (v5 : Int32) (v6 : Int32) (v7 : Int32) (X : Int32 → Option (Int32)) (H : Heap) (locs : List Loc) (ls : Array Slot), va_P (gD G) vwCl [(h_fo, .inr (1, [.int fo_operators, .ref h_fo_roots, .ref h_fo_leftChildren, .ref h_fo_rightChildren, .ref h_fo_counts])), (h_tr, .inr (5, [.int tr_operators, .ref h_tr_roots, .ref h_tr_ranks, .ref h_tr_allowedRoots, .ref h_tr_ranksBelowRoot, .ref h_tr_results])), (h_fo_counts, .inl (gI G, 1210, .inl fo_counts)), (h_tr_ranksBelowRoot, .inl (gI G, 121, .inl tr_ranksBelowRoot)), (h_tr_roots, .inl (gI G, 121, .inl tr_roots))] H → va_D A [(h_fo, .inr (1, [.int fo_operators, .ref h_fo_roots, .ref h_fo_leftChildren, .ref h_fo_rightChildren, .ref h_fo_counts])), (h_tr, .inr (5, [.int tr_operators, .ref h_tr_roots, .ref h_tr_ranks, .ref h_tr_allowedRoots, .ref h_tr_ranksBelowRoot, .ref h_tr_results])), (h_fo_counts, .inl (gI G, 1210, .inl fo_counts)), (h_tr_ranksBelowRoot, .inl (gI G, 121, .inl tr_ranksBelowRoot)), (h_tr_roots, .inl (gI G, 121, .inl tr_roots))] → va_S A s.heap H locs → lv_has ls 8 [(0, .ref h_tr), (1, .ref h_fo), (2, .int v2), (3, .int v3), (4, .int v4), (5, .int v5), (6, .int v6), (7, .int v7)] → f_X6_rankOf_l26 F v2 v3 v4 v5 fo_counts tr_roots n v6 v7 X = some out → (∀ (v6 : Int32) (H : Heap) (locs : List Loc) (ls : Array Slot), va_P (gD G) vwCl [(h_fo, .inr (1, [.int fo_operators, .ref h_fo_roots, .ref h_fo_leftChildren, .ref h_fo_rightChildren, .ref h_fo_counts])), (h_tr, .inr (5, [.int tr_operators, .ref h_tr_roots, .ref h_tr_ranks, .ref h_tr_allowedRoots, .ref h_tr_ranksBelowRoot, .ref h_tr_results])), (h_fo_counts, .inl (gI G, 1210, .inl fo_counts)), (h_tr_ranksBelowRoot, .inl (gI G, 121, .inl tr_ranksBelowRoot)), (h_tr_roots, .inl (gI G, 121, .inl tr_roots))] H → va_D A [(h_fo, .inr (1, [.int fo_operators, .ref h_fo_roots, .ref h_fo_leftChildren, .ref h_fo_rightChildren, .ref h_fo_counts])), (h_tr, .inr (5, [.int tr_operators, .ref h_tr_roots, .ref h_tr_ranks, .ref h_tr_allowedRoots, .ref h_tr_ranksBelowRoot, .ref h_tr_results])), (h_fo_counts, .inl (gI G, 1210, .inl fo_counts)), (h_tr_ranksBelowRoot, .inl (gI G, 121, .inl tr_ranksBelowRoot)), (h_tr_roots, .inl (gI G, 121, .inl tr_roots))] → va_S A s.heap H locs → lv_has ls 8 [(6, .int v6)] → X v6 = some out → W p l e rm_X6_rankOf s m args below meth c H locs 0 0 Q (F0 m 59 ls [])) → W p l e rm_X6_rankOf s m args below meth c H locs 0 0 Q (F0 m 26 ls []) := by
      intro n
      induction n with
      | zero => intro v2 v3 v4 v5 v6 v7 X H locs ls hP hD hS hl h HX; rw [f_X6_rankOf_l26] at h; cases h
      | succ n ih =>
          intro v2 v3 v4 v5 v6 v7 X H locs ls hP hD hS hl h HX
          rw [f_X6_rankOf_l26] at h
          refine lv_iload hx hb dX6_rankOf_26 (lv_at hl 7 rfl) ?_
          refine lv_aload_n hx hb dX6_rankOf_28 rfl (lv_at hl 0 rfl) ?_
          refine va_get (D := gD G) (ci := 5) (v := .ref h_tr_roots) (C := RX6) (T := TX6) (N := 6) hx hb hts lk_X6 hown hK hP 1 rfl rfl 1 (by decide) (hts _ fl_RX6_15) (fun _ h9 => h9) rfl dX6_rankOf_29 ?_
          refine lv_iload hx hb dX6_rankOf_32 (lv_at hl 5 rfl) ?_
          obtain ⟨g34, h⟩ := gda h
          refine va_iald hx hb hK hP 4 1 rfl rfl g34 dX6_rankOf_34 ?_
          refine lv_icmp_ge (tgt := 59) hx hb dX6_rankOf_35 (by decide) (fun c35 => ?_) (fun c35 => ?_)
          · have h := ip c35 h
            exact HX v6 H locs ls hP hD hS (lv_sub hl [6] rfl) h
          · have h := ing c35 h
            refine lv_iload hx hb dX6_rankOf_38 (lv_at hl 6 rfl) ?_
            refine lv_aload_n hx hb dX6_rankOf_40 rfl (lv_at hl 1 rfl) ?_
            refine lv_iload_n hx hb dX6_rankOf_41 rfl (lv_at hl 2 rfl) ?_
            refine lv_iload_n hx hb dX6_rankOf_42 rfl (lv_at hl 3 rfl) ?_
            refine lv_iload hx hb dX6_rankOf_43 (lv_at hl 7 rfl) ?_
            refine lv_iload hx hb dX6_rankOf_45 (lv_at hl 4 rfl) ?_
            obtain ⟨o47, e47, h⟩ := bd h
            refine Ci.V (wr := [(h_tr, .inr (5, [.int tr_operators, .ref h_tr_roots, .ref h_tr_ranks, .ref h_tr_allowedRoots, .ref h_tr_ranksBelowRoot, .ref h_tr_results])), (h_tr_ranksBelowRoot, .inl (gI G, 121, .inl tr_ranksBelowRoot)), (h_tr_roots, .inl (gI G, 121, .inl tr_roots))]) (c_X2_derivationsOf F l G h_fo h_fo_roots h_fo_leftChildren h_fo_rightChildren h_fo_counts fo_operators fo_counts v2 v3 v7 v4 H.size o47 e47) hB km_X2_derivationsOf ⟨im_X2_derivationsOf, sl_X2_derivationsOf⟩ ml_RX6_57 hP hD hS hl ⟨0, 1, _, _, rfl, rfl, rfl⟩ [0, 2] [1, 3, 4] ⟨rfl, rfl, ⟨rfl, rfl⟩, by decide⟩ ⟨⟨Nat.le_of_ble_eq_true rfl, Nat.le_of_ble_eq_true rfl⟩, Nat.le_of_ble_eq_true rfl, Nat.le_of_ble_eq_true rfl, Nat.le_of_ble_eq_true rfl⟩ rfl dX6_rankOf_47 (fun z H locs hP hD hS => ?_)
            have hP : va_P (gD G) vwCl [(h_tr, .inr (5, [.int tr_operators, .ref h_tr_roots, .ref h_tr_ranks, .ref h_tr_allowedRoots, .ref h_tr_ranksBelowRoot, .ref h_tr_results])), (h_tr_ranksBelowRoot, .inl (gI G, 121, .inl tr_ranksBelowRoot)), (h_tr_roots, .inl (gI G, 121, .inl tr_roots)), (h_fo, .inr (1, [.int fo_operators, .ref h_fo_roots, .ref h_fo_leftChildren, .ref h_fo_rightChildren, .ref h_fo_counts])), (h_fo_counts, .inl (gI G, 1210, .inl fo_counts))] H := hP
            have hD : va_D A [(h_tr, .inr (5, [.int tr_operators, .ref h_tr_roots, .ref h_tr_ranks, .ref h_tr_allowedRoots, .ref h_tr_ranksBelowRoot, .ref h_tr_results])), (h_tr_ranksBelowRoot, .inl (gI G, 121, .inl tr_ranksBelowRoot)), (h_tr_roots, .inl (gI G, 121, .inl tr_roots)), (h_fo, .inr (1, [.int fo_operators, .ref h_fo_roots, .ref h_fo_leftChildren, .ref h_fo_rightChildren, .ref h_fo_counts])), (h_fo_counts, .inl (gI G, 1210, .inl fo_counts))] := hD
            refine lv_iadd hx hb dX6_rankOf_50 ?_
            refine lv_istore (lv' := [(6, .int (v6 + o47)), (0, .ref h_tr), (1, .ref h_fo), (2, .int v2), (3, .int v3), (4, .int v4), (5, .int v5), (7, .int v7)]) hx hb dX6_rankOf_51 hl (by decide) rfl (fun ls hl => ?_)
            refine lv_iinc (v := (v7 + 1)) (lv' := [(7, .int (v7 + 1)), (6, .int (v6 + o47)), (0, .ref h_tr), (1, .ref h_fo), (2, .int v2), (3, .int v3), (4, .int v4), (5, .int v5)]) hx hb dX6_rankOf_53 hl (k := 7) rfl rfl (by decide) rfl (fun ls hl => ?_)
            refine lv_goto (tgt := 26) hx hb dX6_rankOf_56 (by decide) ?_
            exact ih v2 v3 v4 v5 (v6 + o47) (v7 + 1) X H locs ls (hP.sub [3, 0, 4, 1, 2] rfl) (hD.sub [3, 0, 4, 1, 2] (by decide) rfl) hS (lv_sub hl [2, 3, 4, 5, 6, 7, 1, 0] rfl) h HX
    refine Lp26 F p2 p3 p4 o9 (tr_ranksBelowRoot (Int32.toNatClampNeg o9)) p2 _ H locs ls hP hD hS (lv_sub hl [3, 4, 5, 6, 7, 2, 1, 0] rfl) h (fun v6 H locs ls hP hD hS hl h => ?_)
    refine lv_iload hx hb dX6_rankOf_59 (lv_at hl 0 rfl) ?_
    cases h
    exact hret (fun _ => 0) _ _ _ _ hP hD hS rfl dX6_rankOf_61
  · have h := ing c2 h
    refine lv_iconst (v := 0) hx hb dX6_rankOf_5 (by decide) ?_
    cases h
    exact hret (fun _ => 0) _ _ _ _ hP hD hS rfl dX6_rankOf_6
abbrev rm_X6_rankBelowRoot : Room := { frames := 3, cells := 0, slots := 0, locals := 72 }
theorem km_X6_rankBelowRoot : KM yX6_rankBelowRoot cX6_rankBelowRoot 9 none 3 := ⟨co_X6_rankBelowRoot, in_RX6, by decide +kernel⟩
set_option maxHeartbeats 4000000 in
set_option maxRecDepth 100000 in
theorem c_X6_rankBelowRoot (F : Nat) (l : Launch) (G : GT) (h_fo h_fo_roots h_fo_leftChildren h_fo_rightChildren h_fo_counts h_tr h_tr_roots h_tr_ranks h_tr_allowedRoots h_tr_ranksBelowRoot h_tr_results : Nat) (fo_operators : Int32) (tr_operators : Int32) (fo_counts : Nat → Int32) (fo_leftChildren : Nat → Int32) (fo_rightChildren : Nat → Int32) (tr_ranksBelowRoot : Nat → Int32) (tr_roots : Nat → Int32) (p2 : Int32) (p3 : Int32) (sz : Nat) (out : (Nat → Int32)) (h : f_X6_rankBelowRoot F p2 p3 fo_counts fo_leftChildren fo_rightChildren tr_ranksBelowRoot tr_roots = some out) : Cv G l yX6_rankBelowRoot cX6_rankBelowRoot 9 none rm_X6_rankBelowRoot [.ref h_tr, .ref h_fo, .int p2, .int p3] [(h_fo, .inr (1, [.int fo_operators, .ref h_fo_roots, .ref h_fo_leftChildren, .ref h_fo_rightChildren, .ref h_fo_counts])), (h_tr, .inr (5, [.int tr_operators, .ref h_tr_roots, .ref h_tr_ranks, .ref h_tr_allowedRoots, .ref h_tr_ranksBelowRoot, .ref h_tr_results])), (h_fo_counts, .inl (gI G, 1210, .inl fo_counts)), (h_fo_leftChildren, .inl (gI G, 10, .inl fo_leftChildren)), (h_fo_rightChildren, .inl (gI G, 10, .inl fo_rightChildren)), (h_tr_ranksBelowRoot, .inl (gI G, 121, .inl tr_ranksBelowRoot)), (h_tr_roots, .inl (gI G, 121, .inl tr_roots))] sz (fun _ => [(h_fo, .inr (1, [.int fo_operators, .ref h_fo_roots, .ref h_fo_leftChildren, .ref h_fo_rightChildren, .ref h_fo_counts])), (h_tr, .inr (5, [.int tr_operators, .ref h_tr_roots, .ref h_tr_ranks, .ref h_tr_allowedRoots, .ref h_tr_ranksBelowRoot, .ref h_tr_results])), (h_fo_counts, .inl (gI G, 1210, .inl fo_counts)), (h_fo_leftChildren, .inl (gI G, 10, .inl fo_leftChildren)), (h_fo_rightChildren, .inl (gI G, 10, .inl fo_rightChildren)), (h_tr_ranksBelowRoot, .inl (gI G, 121, .inl out)), (h_tr_roots, .inl (gI G, 121, .inl tr_roots))]) := by
  refine Cv.start (by decide) (Nat.le_of_ble_eq_true rfl) ?_
  intro p e s m args below meth c A Q H locs ls hB hP hD hS hl hret
  obtain ⟨hx, hb, hmL, hr, hown, hts, hlocks, hnm, hA, hE⟩ := id hB
  obtain ⟨hK, hN, hV, hR, hZ, hZq, hAO⟩ := id hE
  have hown : s.vm.findClass RX6 = some m.cls := hown
  have hl : lv_has ls 9 [(0, .ref h_tr), (1, .ref h_fo), (2, .int p2), (3, .int p3)] := hl
  rw [f_X6_rankBelowRoot] at h
  refine lv_iload_n hx hb dX6_rankBelowRoot_0 rfl (lv_at hl 2 rfl) ?_
  refine lv_iload_n hx hb dX6_rankBelowRoot_1 rfl (lv_at hl 3 rfl) ?_
  obtain ⟨o2, e2, h⟩ := bd h
  refine Ci.SN (wr := [(h_fo, .inr (1, [.int fo_operators, .ref h_fo_roots, .ref h_fo_leftChildren, .ref h_fo_rightChildren, .ref h_fo_counts])), (h_tr, .inr (5, [.int tr_operators, .ref h_tr_roots, .ref h_tr_ranks, .ref h_tr_allowedRoots, .ref h_tr_ranksBelowRoot, .ref h_tr_results])), (h_fo_counts, .inl (gI G, 1210, .inl fo_counts)), (h_fo_leftChildren, .inl (gI G, 10, .inl fo_leftChildren)), (h_fo_rightChildren, .inl (gI G, 10, .inl fo_rightChildren)), (h_tr_ranksBelowRoot, .inl (gI G, 121, .inl tr_ranksBelowRoot)), (h_tr_roots, .inl (gI G, 121, .inl tr_roots))]) (c_X7_spanIndex F l G p2 p3 H.size o2 e2) hB km_X7_spanIndex st_X7_spanIndex mn_RX6_53 hP hD hS hl [] [0, 1, 2, 3, 4, 5, 6] ⟨rfl, rfl, ⟨rfl, rfl⟩, by decide⟩ ⟨⟨Nat.le_of_ble_eq_true rfl, Nat.le_of_ble_eq_true rfl⟩, Nat.le_of_ble_eq_true rfl, Nat.le_of_ble_eq_true rfl, Nat.le_of_ble_eq_true rfl⟩ rfl dX6_rankBelowRoot_2 (fun z H locs hP hD hS => ?_)
  have hP : va_P (gD G) vwCl [(h_fo, .inr (1, [.int fo_operators, .ref h_fo_roots, .ref h_fo_leftChildren, .ref h_fo_rightChildren, .ref h_fo_counts])), (h_tr, .inr (5, [.int tr_operators, .ref h_tr_roots, .ref h_tr_ranks, .ref h_tr_allowedRoots, .ref h_tr_ranksBelowRoot, .ref h_tr_results])), (h_fo_counts, .inl (gI G, 1210, .inl fo_counts)), (h_fo_leftChildren, .inl (gI G, 10, .inl fo_leftChildren)), (h_fo_rightChildren, .inl (gI G, 10, .inl fo_rightChildren)), (h_tr_ranksBelowRoot, .inl (gI G, 121, .inl tr_ranksBelowRoot)), (h_tr_roots, .inl (gI G, 121, .inl tr_roots))] H := hP
  have hD : va_D A [(h_fo, .inr (1, [.int fo_operators, .ref h_fo_roots, .ref h_fo_leftChildren, .ref h_fo_rightChildren, .ref h_fo_counts])), (h_tr, .inr (5, [.int tr_operators, .ref h_tr_roots, .ref h_tr_ranks, .ref h_tr_allowedRoots, .ref h_tr_ranksBelowRoot, .ref h_tr_results])), (h_fo_counts, .inl (gI G, 1210, .inl fo_counts)), (h_fo_leftChildren, .inl (gI G, 10, .inl fo_leftChildren)), (h_fo_rightChildren, .inl (gI G, 10, .inl fo_rightChildren)), (h_tr_ranksBelowRoot, .inl (gI G, 121, .inl tr_ranksBelowRoot)), (h_tr_roots, .inl (gI G, 121, .inl tr_roots))] := hD
  refine lv_istore (lv' := [(4, .int o2), (0, .ref h_tr), (1, .ref h_fo), (2, .int p2), (3, .int p3)]) hx hb dX6_rankBelowRoot_5 hl (by decide) rfl (fun ls hl => ?_)
  refine lv_aload_n hx hb dX6_rankBelowRoot_7 rfl (lv_at hl 1 rfl) ?_
  refine va_get (D := gD G) (ci := 5) (v := .ref h_tr_roots) (C := RX6) (T := TX6) (N := 6) hx hb hts lk_X6 hown hK hP 1 rfl rfl 1 (by decide) (hts _ fl_RX6_15) (fun _ h9 => h9) rfl dX6_rankBelowRoot_8 ?_
  refine lv_iload hx hb dX6_rankBelowRoot_11 (lv_at hl 0 rfl) ?_
  obtain ⟨g13, h⟩ := gda h
  refine va_iald hx hb hK hP 6 1 rfl rfl g13 dX6_rankBelowRoot_13 ?_
  refine lv_istore (lv' := [(5, .int (tr_roots (Int32.toNatClampNeg o2))), (4, .int o2), (0, .ref h_tr), (1, .ref h_fo), (2, .int p2), (3, .int p3)]) hx hb dX6_rankBelowRoot_14 hl (by decide) rfl (fun ls hl => ?_)
  refine lv_aload_n hx hb dX6_rankBelowRoot_16 rfl (lv_at hl 2 rfl) ?_
  refine lv_aload_n hx hb dX6_rankBelowRoot_17 rfl (lv_at hl 3 rfl) ?_
  refine lv_iload_n hx hb dX6_rankBelowRoot_18 rfl (lv_at hl 4 rfl) ?_
  refine lv_iload hx hb dX6_rankBelowRoot_19 (lv_at hl 0 rfl) ?_
  refine lv_aload_n hx hb dX6_rankBelowRoot_21 rfl (lv_at hl 3 rfl) ?_
  refine va_getN (D := gD G) (ci := 1) (v := .ref h_fo_leftChildren) (C := RX2) (T := TX2) (N := 5) hx hb hts lk_X2 hown hK hP 0 rfl rfl 2 (by decide) (va_Nw.use rfl (hN _ fn_RX6_68)) (fun _ h9 => h9) rfl dX6_rankBelowRoot_22 ?_
  refine lv_iload hx hb dX6_rankBelowRoot_25 (lv_at hl 0 rfl) ?_
  obtain ⟨g27, h⟩ := gda h
  refine va_iald hx hb hK hP 3 1 rfl rfl g27 dX6_rankBelowRoot_27 ?_
  obtain ⟨o28, e28, h⟩ := bd h
  refine Ci.V (wr := [(h_fo_leftChildren, .inl (gI G, 10, .inl fo_leftChildren)), (h_fo_rightChildren, .inl (gI G, 10, .inl fo_rightChildren))]) (c_X6_rankOf F l G h_fo h_fo_roots h_fo_leftChildren h_fo_rightChildren h_fo_counts h_tr h_tr_roots h_tr_ranks h_tr_allowedRoots h_tr_ranksBelowRoot h_tr_results fo_operators tr_operators fo_counts tr_ranksBelowRoot tr_roots p2 (tr_roots (Int32.toNatClampNeg o2)) (fo_leftChildren (Int32.toNatClampNeg (tr_roots (Int32.toNatClampNeg o2)))) H.size o28 e28) hB km_X6_rankOf ⟨im_X6_rankOf, sl_X6_rankOf⟩ ml_RX6_88 hP hD hS hl ⟨1, 5, _, _, rfl, rfl, rfl⟩ [0, 1, 2, 5, 6] [3, 4] ⟨rfl, rfl, ⟨rfl, rfl⟩, by decide⟩ ⟨⟨Nat.le_of_ble_eq_true rfl, Nat.le_of_ble_eq_true rfl⟩, Nat.le_of_ble_eq_true rfl, Nat.le_of_ble_eq_true rfl, Nat.le_of_ble_eq_true rfl⟩ rfl dX6_rankBelowRoot_28 (fun z H locs hP hD hS => ?_)
  have hP : va_P (gD G) vwCl [(h_fo_leftChildren, .inl (gI G, 10, .inl fo_leftChildren)), (h_fo_rightChildren, .inl (gI G, 10, .inl fo_rightChildren)), (h_fo, .inr (1, [.int fo_operators, .ref h_fo_roots, .ref h_fo_leftChildren, .ref h_fo_rightChildren, .ref h_fo_counts])), (h_tr, .inr (5, [.int tr_operators, .ref h_tr_roots, .ref h_tr_ranks, .ref h_tr_allowedRoots, .ref h_tr_ranksBelowRoot, .ref h_tr_results])), (h_fo_counts, .inl (gI G, 1210, .inl fo_counts)), (h_tr_ranksBelowRoot, .inl (gI G, 121, .inl tr_ranksBelowRoot)), (h_tr_roots, .inl (gI G, 121, .inl tr_roots))] H := hP
  have hD : va_D A [(h_fo_leftChildren, .inl (gI G, 10, .inl fo_leftChildren)), (h_fo_rightChildren, .inl (gI G, 10, .inl fo_rightChildren)), (h_fo, .inr (1, [.int fo_operators, .ref h_fo_roots, .ref h_fo_leftChildren, .ref h_fo_rightChildren, .ref h_fo_counts])), (h_tr, .inr (5, [.int tr_operators, .ref h_tr_roots, .ref h_tr_ranks, .ref h_tr_allowedRoots, .ref h_tr_ranksBelowRoot, .ref h_tr_results])), (h_fo_counts, .inl (gI G, 1210, .inl fo_counts)), (h_tr_ranksBelowRoot, .inl (gI G, 121, .inl tr_ranksBelowRoot)), (h_tr_roots, .inl (gI G, 121, .inl tr_roots))] := hD
  refine lv_istore (lv' := [(6, .int o28), (5, .int (tr_roots (Int32.toNatClampNeg o2))), (4, .int o2), (0, .ref h_tr), (1, .ref h_fo), (2, .int p2), (3, .int p3)]) hx hb dX6_rankBelowRoot_31 hl (by decide) rfl (fun ls hl => ?_)
  refine lv_aload_n hx hb dX6_rankBelowRoot_33 rfl (lv_at hl 3 rfl) ?_
  refine lv_aload_n hx hb dX6_rankBelowRoot_34 rfl (lv_at hl 4 rfl) ?_
  refine lv_iload hx hb dX6_rankBelowRoot_35 (lv_at hl 1 rfl) ?_
  refine lv_iconst (v := 1) hx hb dX6_rankBelowRoot_37 (by decide) ?_
  refine lv_iadd hx hb dX6_rankBelowRoot_38 ?_
  refine lv_iload_n hx hb dX6_rankBelowRoot_39 rfl (lv_at hl 6 rfl) ?_
  refine lv_aload_n hx hb dX6_rankBelowRoot_40 rfl (lv_at hl 4 rfl) ?_
  refine va_getN (D := gD G) (ci := 1) (v := .ref h_fo_rightChildren) (C := RX2) (T := TX2) (N := 5) hx hb hts lk_X2 hown hK hP 2 rfl rfl 3 (by decide) (va_Nw.use rfl (hN _ fn_RX6_61)) (fun _ h9 => h9) rfl dX6_rankBelowRoot_41 ?_
  refine lv_iload hx hb dX6_rankBelowRoot_44 (lv_at hl 1 rfl) ?_
  obtain ⟨g46, h⟩ := gda h
  refine va_iald hx hb hK hP 1 1 rfl rfl g46 dX6_rankBelowRoot_46 ?_
  obtain ⟨o47, e47, h⟩ := bd h
  refine Ci.V (wr := [(h_fo_leftChildren, .inl (gI G, 10, .inl fo_leftChildren)), (h_fo_rightChildren, .inl (gI G, 10, .inl fo_rightChildren))]) (c_X6_rankOf F l G h_fo h_fo_roots h_fo_leftChildren h_fo_rightChildren h_fo_counts h_tr h_tr_roots h_tr_ranks h_tr_allowedRoots h_tr_ranksBelowRoot h_tr_results fo_operators tr_operators fo_counts tr_ranksBelowRoot tr_roots ((tr_roots (Int32.toNatClampNeg o2)) + 1) p3 (fo_rightChildren (Int32.toNatClampNeg (tr_roots (Int32.toNatClampNeg o2)))) H.size o47 e47) hB km_X6_rankOf ⟨im_X6_rankOf, sl_X6_rankOf⟩ ml_RX6_88 hP hD hS hl ⟨1, 5, _, _, rfl, rfl, rfl⟩ [2, 3, 4, 5, 6] [0, 1] ⟨rfl, rfl, ⟨rfl, rfl⟩, by decide⟩ ⟨⟨Nat.le_of_ble_eq_true rfl, Nat.le_of_ble_eq_true rfl⟩, Nat.le_of_ble_eq_true rfl, Nat.le_of_ble_eq_true rfl, Nat.le_of_ble_eq_true rfl⟩ rfl dX6_rankBelowRoot_47 (fun z H locs hP hD hS => ?_)
  have hP : va_P (gD G) vwCl [(h_fo_leftChildren, .inl (gI G, 10, .inl fo_leftChildren)), (h_fo_rightChildren, .inl (gI G, 10, .inl fo_rightChildren)), (h_fo, .inr (1, [.int fo_operators, .ref h_fo_roots, .ref h_fo_leftChildren, .ref h_fo_rightChildren, .ref h_fo_counts])), (h_tr, .inr (5, [.int tr_operators, .ref h_tr_roots, .ref h_tr_ranks, .ref h_tr_allowedRoots, .ref h_tr_ranksBelowRoot, .ref h_tr_results])), (h_fo_counts, .inl (gI G, 1210, .inl fo_counts)), (h_tr_ranksBelowRoot, .inl (gI G, 121, .inl tr_ranksBelowRoot)), (h_tr_roots, .inl (gI G, 121, .inl tr_roots))] H := hP
  have hD : va_D A [(h_fo_leftChildren, .inl (gI G, 10, .inl fo_leftChildren)), (h_fo_rightChildren, .inl (gI G, 10, .inl fo_rightChildren)), (h_fo, .inr (1, [.int fo_operators, .ref h_fo_roots, .ref h_fo_leftChildren, .ref h_fo_rightChildren, .ref h_fo_counts])), (h_tr, .inr (5, [.int tr_operators, .ref h_tr_roots, .ref h_tr_ranks, .ref h_tr_allowedRoots, .ref h_tr_ranksBelowRoot, .ref h_tr_results])), (h_fo_counts, .inl (gI G, 1210, .inl fo_counts)), (h_tr_ranksBelowRoot, .inl (gI G, 121, .inl tr_ranksBelowRoot)), (h_tr_roots, .inl (gI G, 121, .inl tr_roots))] := hD
  refine lv_istore (lv' := [(7, .int o47), (6, .int o28), (5, .int (tr_roots (Int32.toNatClampNeg o2))), (4, .int o2), (0, .ref h_tr), (1, .ref h_fo), (2, .int p2), (3, .int p3)]) hx hb dX6_rankBelowRoot_50 hl (by decide) rfl (fun ls hl => ?_)
  refine lv_aload_n hx hb dX6_rankBelowRoot_52 rfl (lv_at hl 5 rfl) ?_
  refine lv_iload hx hb dX6_rankBelowRoot_53 (lv_at hl 2 rfl) ?_
  refine lv_iconst (v := 1) hx hb dX6_rankBelowRoot_55 (by decide) ?_
  refine lv_iadd hx hb dX6_rankBelowRoot_56 ?_
  refine lv_iload_n hx hb dX6_rankBelowRoot_57 rfl (lv_at hl 7 rfl) ?_
  refine lv_aload_n hx hb dX6_rankBelowRoot_58 rfl (lv_at hl 5 rfl) ?_
  refine va_getN (D := gD G) (ci := 1) (v := .ref h_fo_rightChildren) (C := RX2) (T := TX2) (N := 5) hx hb hts lk_X2 hown hK hP 2 rfl rfl 3 (by decide) (va_Nw.use rfl (hN _ fn_RX6_61)) (fun _ h9 => h9) rfl dX6_rankBelowRoot_59 ?_
  refine lv_iload hx hb dX6_rankBelowRoot_62 (lv_at hl 2 rfl) ?_
  obtain ⟨g64, h⟩ := gda h
  refine va_iald hx hb hK hP 1 1 rfl rfl g64 dX6_rankBelowRoot_64 ?_
  obtain ⟨o65, e65, h⟩ := bd h
  refine Ci.V (wr := [(h_fo_leftChildren, .inl (gI G, 10, .inl fo_leftChildren)), (h_fo_rightChildren, .inl (gI G, 10, .inl fo_rightChildren)), (h_tr, .inr (5, [.int tr_operators, .ref h_tr_roots, .ref h_tr_ranks, .ref h_tr_allowedRoots, .ref h_tr_ranksBelowRoot, .ref h_tr_results])), (h_tr_ranksBelowRoot, .inl (gI G, 121, .inl tr_ranksBelowRoot)), (h_tr_roots, .inl (gI G, 121, .inl tr_roots))]) (c_X2_treesOf F l G h_fo h_fo_roots h_fo_leftChildren h_fo_rightChildren h_fo_counts fo_operators fo_counts ((tr_roots (Int32.toNatClampNeg o2)) + 1) p3 (fo_rightChildren (Int32.toNatClampNeg (tr_roots (Int32.toNatClampNeg o2)))) H.size o65 e65) hB km_X2_treesOf ⟨im_X2_treesOf, sl_X2_treesOf⟩ ml_RX6_64 hP hD hS hl ⟨0, 1, _, _, rfl, rfl, rfl⟩ [2, 4] [0, 1, 3, 5, 6] ⟨rfl, rfl, ⟨rfl, rfl⟩, by decide⟩ ⟨⟨Nat.le_of_ble_eq_true rfl, Nat.le_of_ble_eq_true rfl⟩, Nat.le_of_ble_eq_true rfl, Nat.le_of_ble_eq_true rfl, Nat.le_of_ble_eq_true rfl⟩ rfl dX6_rankBelowRoot_65 (fun z H locs hP hD hS => ?_)
  have hP : va_P (gD G) vwCl [(h_fo_leftChildren, .inl (gI G, 10, .inl fo_leftChildren)), (h_fo_rightChildren, .inl (gI G, 10, .inl fo_rightChildren)), (h_tr, .inr (5, [.int tr_operators, .ref h_tr_roots, .ref h_tr_ranks, .ref h_tr_allowedRoots, .ref h_tr_ranksBelowRoot, .ref h_tr_results])), (h_tr_ranksBelowRoot, .inl (gI G, 121, .inl tr_ranksBelowRoot)), (h_tr_roots, .inl (gI G, 121, .inl tr_roots)), (h_fo, .inr (1, [.int fo_operators, .ref h_fo_roots, .ref h_fo_leftChildren, .ref h_fo_rightChildren, .ref h_fo_counts])), (h_fo_counts, .inl (gI G, 1210, .inl fo_counts))] H := hP
  have hD : va_D A [(h_fo_leftChildren, .inl (gI G, 10, .inl fo_leftChildren)), (h_fo_rightChildren, .inl (gI G, 10, .inl fo_rightChildren)), (h_tr, .inr (5, [.int tr_operators, .ref h_tr_roots, .ref h_tr_ranks, .ref h_tr_allowedRoots, .ref h_tr_ranksBelowRoot, .ref h_tr_results])), (h_tr_ranksBelowRoot, .inl (gI G, 121, .inl tr_ranksBelowRoot)), (h_tr_roots, .inl (gI G, 121, .inl tr_roots)), (h_fo, .inr (1, [.int fo_operators, .ref h_fo_roots, .ref h_fo_leftChildren, .ref h_fo_rightChildren, .ref h_fo_counts])), (h_fo_counts, .inl (gI G, 1210, .inl fo_counts))] := hD
  refine lv_istore (lv' := [(8, .int o65), (7, .int o47), (6, .int o28), (5, .int (tr_roots (Int32.toNatClampNeg o2))), (4, .int o2), (0, .ref h_tr), (1, .ref h_fo), (2, .int p2), (3, .int p3)]) hx hb dX6_rankBelowRoot_68 hl (by decide) rfl (fun ls hl => ?_)
  refine lv_aload_n hx hb dX6_rankBelowRoot_70 rfl (lv_at hl 5 rfl) ?_
  refine va_get (D := gD G) (ci := 5) (v := .ref h_tr_ranksBelowRoot) (C := RX6) (T := TX6) (N := 6) hx hb hts lk_X6 hown hK hP 2 rfl rfl 4 (by decide) (hts _ fl_RX6_25) (fun _ h9 => h9) rfl dX6_rankBelowRoot_71 ?_
  refine lv_iload hx hb dX6_rankBelowRoot_74 (lv_at hl 4 rfl) ?_
  refine lv_iload hx hb dX6_rankBelowRoot_76 (lv_at hl 2 rfl) ?_
  refine lv_iload hx hb dX6_rankBelowRoot_78 (lv_at hl 0 rfl) ?_
  refine lv_imul hx hb dX6_rankBelowRoot_80 ?_
  refine lv_iload hx hb dX6_rankBelowRoot_81 (lv_at hl 1 rfl) ?_
  refine lv_iadd hx hb dX6_rankBelowRoot_83 ?_
  obtain ⟨g84, h⟩ := gda h
  refine va_iast hx hb hK hP hD hS 3 1 rfl rfl g84 dX6_rankBelowRoot_84 (fun H locs hP hD hS => ?_)
  have hP : va_P (gD G) vwCl [(h_fo_leftChildren, .inl (gI G, 10, .inl fo_leftChildren)), (h_fo_rightChildren, .inl (gI G, 10, .inl fo_rightChildren)), (h_tr, .inr (5, [.int tr_operators, .ref h_tr_roots, .ref h_tr_ranks, .ref h_tr_allowedRoots, .ref h_tr_ranksBelowRoot, .ref h_tr_results])), (h_tr_ranksBelowRoot, .inl (gI G, 121, .inl (upd tr_ranksBelowRoot (Int32.toNatClampNeg o2) ((o28 * o65) + o47)))), (h_tr_roots, .inl (gI G, 121, .inl tr_roots)), (h_fo, .inr (1, [.int fo_operators, .ref h_fo_roots, .ref h_fo_leftChildren, .ref h_fo_rightChildren, .ref h_fo_counts])), (h_fo_counts, .inl (gI G, 1210, .inl fo_counts))] H := hP
  have hD : va_D A [(h_fo_leftChildren, .inl (gI G, 10, .inl fo_leftChildren)), (h_fo_rightChildren, .inl (gI G, 10, .inl fo_rightChildren)), (h_tr, .inr (5, [.int tr_operators, .ref h_tr_roots, .ref h_tr_ranks, .ref h_tr_allowedRoots, .ref h_tr_ranksBelowRoot, .ref h_tr_results])), (h_tr_ranksBelowRoot, .inl (gI G, 121, .inl (upd tr_ranksBelowRoot (Int32.toNatClampNeg o2) ((o28 * o65) + o47)))), (h_tr_roots, .inl (gI G, 121, .inl tr_roots)), (h_fo, .inr (1, [.int fo_operators, .ref h_fo_roots, .ref h_fo_leftChildren, .ref h_fo_rightChildren, .ref h_fo_counts])), (h_fo_counts, .inl (gI G, 1210, .inl fo_counts))] := hD
  cases h
  exact hret (fun _ => 0) _ _ _ _ (hP.sub [5, 2, 6, 0, 1, 3, 4] rfl) (hD.sub [5, 2, 6, 0, 1, 3, 4] (by decide) rfl) hS dX6_rankBelowRoot_85
abbrev rm_X6_rankIn : Room := { frames := 4, cells := 0, slots := 0, locals := 100 }
theorem km_X6_rankIn : KM yX6_rankIn cX6_rankIn 4 (some .int) 1 := ⟨co_X6_rankIn, in_RX6, by decide +kernel⟩
set_option maxHeartbeats 4000000 in
set_option maxRecDepth 100000 in
theorem c_X6_rankIn (F : Nat) (l : Launch) (G : GT) (h_fo h_fo_roots h_fo_leftChildren h_fo_rightChildren h_fo_counts h_tr h_tr_roots h_tr_ranks h_tr_allowedRoots h_tr_ranksBelowRoot h_tr_results : Nat) (fo_operators : Int32) (tr_operators : Int32) (fo_counts : Nat → Int32) (fo_leftChildren : Nat → Int32) (fo_rightChildren : Nat → Int32) (tr_ranks : Nat → Int32) (tr_ranksBelowRoot : Nat → Int32) (tr_roots : Nat → Int32) (sz : Nat) (out : Int32 × (Nat → Int32)) (h : f_X6_rankIn F fo_counts fo_leftChildren fo_rightChildren tr_operators tr_ranks tr_ranksBelowRoot tr_roots = some out) : Ci G l yX6_rankIn cX6_rankIn 4 (some .int) rm_X6_rankIn [.ref h_tr, .ref h_fo] [(h_fo, .inr (1, [.int fo_operators, .ref h_fo_roots, .ref h_fo_leftChildren, .ref h_fo_rightChildren, .ref h_fo_counts])), (h_tr, .inr (5, [.int tr_operators, .ref h_tr_roots, .ref h_tr_ranks, .ref h_tr_allowedRoots, .ref h_tr_ranksBelowRoot, .ref h_tr_results])), (h_fo_counts, .inl (gI G, 1210, .inl fo_counts)), (h_fo_leftChildren, .inl (gI G, 10, .inl fo_leftChildren)), (h_fo_rightChildren, .inl (gI G, 10, .inl fo_rightChildren)), (h_tr_ranks, .inl (gI G, 121, .inl tr_ranks)), (h_tr_ranksBelowRoot, .inl (gI G, 121, .inl tr_ranksBelowRoot)), (h_tr_roots, .inl (gI G, 121, .inl tr_roots))] sz (out.1) (fun _ => [(h_fo, .inr (1, [.int fo_operators, .ref h_fo_roots, .ref h_fo_leftChildren, .ref h_fo_rightChildren, .ref h_fo_counts])), (h_tr, .inr (5, [.int tr_operators, .ref h_tr_roots, .ref h_tr_ranks, .ref h_tr_allowedRoots, .ref h_tr_ranksBelowRoot, .ref h_tr_results])), (h_fo_counts, .inl (gI G, 1210, .inl fo_counts)), (h_fo_leftChildren, .inl (gI G, 10, .inl fo_leftChildren)), (h_fo_rightChildren, .inl (gI G, 10, .inl fo_rightChildren)), (h_tr_ranks, .inl (gI G, 121, .inl tr_ranks)), (h_tr_ranksBelowRoot, .inl (gI G, 121, .inl (out.2))), (h_tr_roots, .inl (gI G, 121, .inl tr_roots))]) := by
  refine Ci.start rfl (by decide) (Nat.le_of_ble_eq_true rfl) ?_
  intro p e s m args below meth c A Q H locs ls hB hP hD hS hl hret
  obtain ⟨hx, hb, hmL, hr, hown, hts, hlocks, hnm, hA, hE⟩ := id hB
  obtain ⟨hK, hN, hV, hR, hZ, hZq, hAO⟩ := id hE
  have hown : s.vm.findClass RX6 = some m.cls := hown
  have hl : lv_has ls 4 [(0, .ref h_tr), (1, .ref h_fo)] := hl
  rw [f_X6_rankIn] at h
  refine lv_iconst (v := 1) hx hb dX6_rankIn_0 (by decide) ?_
  refine lv_istore_n (lv' := [(2, .int 1), (0, .ref h_tr), (1, .ref h_fo)]) hx hb dX6_rankIn_1 rfl hl (by decide) rfl (fun ls hl => ?_)
  have Lp2 : ∀ (n : Nat) (v2 : Int32) (tr_ranksBelowRoot : Nat → Int32) (X : (Nat → Int32) → Option (Int32 × (Nat → Int32))) (H : Heap) (locs : List Loc) (ls : Array Slot), va_P (gD G) vwCl [(h_fo, .inr (1, [.int fo_operators, .ref h_fo_roots, .ref h_fo_leftChildren, .ref h_fo_rightChildren, .ref h_fo_counts])), (h_tr, .inr (5, [.int tr_operators, .ref h_tr_roots, .ref h_tr_ranks, .ref h_tr_allowedRoots, .ref h_tr_ranksBelowRoot, .ref h_tr_results])), (h_fo_counts, .inl (gI G, 1210, .inl fo_counts)), (h_fo_leftChildren, .inl (gI G, 10, .inl fo_leftChildren)), (h_fo_rightChildren, .inl (gI G, 10, .inl fo_rightChildren)), (h_tr_ranks, .inl (gI G, 121, .inl tr_ranks)), (h_tr_ranksBelowRoot, .inl (gI G, 121, .inl tr_ranksBelowRoot)), (h_tr_roots, .inl (gI G, 121, .inl tr_roots))] H → va_D A [(h_fo, .inr (1, [.int fo_operators, .ref h_fo_roots, .ref h_fo_leftChildren, .ref h_fo_rightChildren, .ref h_fo_counts])), (h_tr, .inr (5, [.int tr_operators, .ref h_tr_roots, .ref h_tr_ranks, .ref h_tr_allowedRoots, .ref h_tr_ranksBelowRoot, .ref h_tr_results])), (h_fo_counts, .inl (gI G, 1210, .inl fo_counts)), (h_fo_leftChildren, .inl (gI G, 10, .inl fo_leftChildren)), (h_fo_rightChildren, .inl (gI G, 10, .inl fo_rightChildren)), (h_tr_ranks, .inl (gI G, 121, .inl tr_ranks)), (h_tr_ranksBelowRoot, .inl (gI G, 121, .inl tr_ranksBelowRoot)), (h_tr_roots, .inl (gI G, 121, .inl tr_roots))] → va_S A s.heap H locs → lv_has ls 4 [(0, .ref h_tr), (1, .ref h_fo), (2, .int v2)] → f_X6_rankIn_l2 F fo_counts fo_leftChildren fo_rightChildren tr_operators tr_ranks tr_roots n v2 tr_ranksBelowRoot X = some out → (∀ (tr_ranksBelowRoot : Nat → Int32) (H : Heap) (locs : List Loc) (ls : Array Slot), va_P (gD G) vwCl [(h_fo, .inr (1, [.int fo_operators, .ref h_fo_roots, .ref h_fo_leftChildren, .ref h_fo_rightChildren, .ref h_fo_counts])), (h_tr, .inr (5, [.int tr_operators, .ref h_tr_roots, .ref h_tr_ranks, .ref h_tr_allowedRoots, .ref h_tr_ranksBelowRoot, .ref h_tr_results])), (h_fo_counts, .inl (gI G, 1210, .inl fo_counts)), (h_fo_leftChildren, .inl (gI G, 10, .inl fo_leftChildren)), (h_fo_rightChildren, .inl (gI G, 10, .inl fo_rightChildren)), (h_tr_ranks, .inl (gI G, 121, .inl tr_ranks)), (h_tr_ranksBelowRoot, .inl (gI G, 121, .inl tr_ranksBelowRoot)), (h_tr_roots, .inl (gI G, 121, .inl tr_roots))] H → va_D A [(h_fo, .inr (1, [.int fo_operators, .ref h_fo_roots, .ref h_fo_leftChildren, .ref h_fo_rightChildren, .ref h_fo_counts])), (h_tr, .inr (5, [.int tr_operators, .ref h_tr_roots, .ref h_tr_ranks, .ref h_tr_allowedRoots, .ref h_tr_ranksBelowRoot, .ref h_tr_results])), (h_fo_counts, .inl (gI G, 1210, .inl fo_counts)), (h_fo_leftChildren, .inl (gI G, 10, .inl fo_leftChildren)), (h_fo_rightChildren, .inl (gI G, 10, .inl fo_rightChildren)), (h_tr_ranks, .inl (gI G, 121, .inl tr_ranks)), (h_tr_ranksBelowRoot, .inl (gI G, 121, .inl tr_ranksBelowRoot)), (h_tr_roots, .inl (gI G, 121, .inl tr_roots))] → va_S A s.heap H locs → lv_has ls 4 [(0, .ref h_tr), (1, .ref h_fo)] → X tr_ranksBelowRoot = some out → W p l e rm_X6_rankIn s m args below meth c H locs 0 0 Q (F0 m 54 ls [])) → W p l e rm_X6_rankIn s m args below meth c H locs 0 0 Q (F0 m 2 ls []) := by
    intro n
    induction n with
    | zero => intro v2 tr_ranksBelowRoot X H locs ls hP hD hS hl h HX; rw [f_X6_rankIn_l2] at h; cases h
    | succ n ih =>
        intro v2 tr_ranksBelowRoot X H locs ls hP hD hS hl h HX
        rw [f_X6_rankIn_l2] at h
        refine lv_iload_n hx hb dX6_rankIn_2 rfl (lv_at hl 2 rfl) ?_
        refine lv_aload_n hx hb dX6_rankIn_3 rfl (lv_at hl 0 rfl) ?_
        refine va_get (D := gD G) (ci := 5) (v := .int tr_operators) (C := RX6) (T := TX6) (N := 6) hx hb hts lk_X6 hown hK hP 1 rfl rfl 0 (by decide) (hts _ fl_RX6_9) (fun _ h9 => h9) rfl dX6_rankIn_4 ?_
        refine lv_icmp_gt (tgt := 54) hx hb dX6_rankIn_7 (by decide) (fun c7 => ?_) (fun c7 => ?_)
        · have h := ip c7 h
          exact HX tr_ranksBelowRoot H locs ls hP hD hS (lv_sub hl [0, 1] rfl) h
        · have h := ing c7 h
          refine lv_iconst (v := 0) hx hb dX6_rankIn_10 (by decide) ?_
          refine lv_istore_n (lv' := [(3, .int 0), (0, .ref h_tr), (1, .ref h_fo), (2, .int v2)]) hx hb dX6_rankIn_11 rfl hl (by decide) rfl (fun ls hl => ?_)
          have Lp12 : ∀ (n : Nat) (v2 : Int32) (v3 : Int32) (tr_ranksBelowRoot : Nat → Int32) (X : (Nat → Int32) → Option (Int32 × (Nat → Int32))) (H : Heap) (locs : List Loc) (ls : Array Slot), va_P (gD G) vwCl [(h_fo, .inr (1, [.int fo_operators, .ref h_fo_roots, .ref h_fo_leftChildren, .ref h_fo_rightChildren, .ref h_fo_counts])), (h_tr, .inr (5, [.int tr_operators, .ref h_tr_roots, .ref h_tr_ranks, .ref h_tr_allowedRoots, .ref h_tr_ranksBelowRoot, .ref h_tr_results])), (h_fo_counts, .inl (gI G, 1210, .inl fo_counts)), (h_fo_leftChildren, .inl (gI G, 10, .inl fo_leftChildren)), (h_fo_rightChildren, .inl (gI G, 10, .inl fo_rightChildren)), (h_tr_ranks, .inl (gI G, 121, .inl tr_ranks)), (h_tr_ranksBelowRoot, .inl (gI G, 121, .inl tr_ranksBelowRoot)), (h_tr_roots, .inl (gI G, 121, .inl tr_roots))] H → va_D A [(h_fo, .inr (1, [.int fo_operators, .ref h_fo_roots, .ref h_fo_leftChildren, .ref h_fo_rightChildren, .ref h_fo_counts])), (h_tr, .inr (5, [.int tr_operators, .ref h_tr_roots, .ref h_tr_ranks, .ref h_tr_allowedRoots, .ref h_tr_ranksBelowRoot, .ref h_tr_results])), (h_fo_counts, .inl (gI G, 1210, .inl fo_counts)), (h_fo_leftChildren, .inl (gI G, 10, .inl fo_leftChildren)), (h_fo_rightChildren, .inl (gI G, 10, .inl fo_rightChildren)), (h_tr_ranks, .inl (gI G, 121, .inl tr_ranks)), (h_tr_ranksBelowRoot, .inl (gI G, 121, .inl tr_ranksBelowRoot)), (h_tr_roots, .inl (gI G, 121, .inl tr_roots))] → va_S A s.heap H locs → lv_has ls 4 [(0, .ref h_tr), (1, .ref h_fo), (2, .int v2), (3, .int v3)] → f_X6_rankIn_l12 F v2 fo_counts fo_leftChildren fo_rightChildren tr_operators tr_ranks tr_roots n v3 tr_ranksBelowRoot X = some out → (∀ (tr_ranksBelowRoot : Nat → Int32) (H : Heap) (locs : List Loc) (ls : Array Slot), va_P (gD G) vwCl [(h_fo, .inr (1, [.int fo_operators, .ref h_fo_roots, .ref h_fo_leftChildren, .ref h_fo_rightChildren, .ref h_fo_counts])), (h_tr, .inr (5, [.int tr_operators, .ref h_tr_roots, .ref h_tr_ranks, .ref h_tr_allowedRoots, .ref h_tr_ranksBelowRoot, .ref h_tr_results])), (h_fo_counts, .inl (gI G, 1210, .inl fo_counts)), (h_fo_leftChildren, .inl (gI G, 10, .inl fo_leftChildren)), (h_fo_rightChildren, .inl (gI G, 10, .inl fo_rightChildren)), (h_tr_ranks, .inl (gI G, 121, .inl tr_ranks)), (h_tr_ranksBelowRoot, .inl (gI G, 121, .inl tr_ranksBelowRoot)), (h_tr_roots, .inl (gI G, 121, .inl tr_roots))] H → va_D A [(h_fo, .inr (1, [.int fo_operators, .ref h_fo_roots, .ref h_fo_leftChildren, .ref h_fo_rightChildren, .ref h_fo_counts])), (h_tr, .inr (5, [.int tr_operators, .ref h_tr_roots, .ref h_tr_ranks, .ref h_tr_allowedRoots, .ref h_tr_ranksBelowRoot, .ref h_tr_results])), (h_fo_counts, .inl (gI G, 1210, .inl fo_counts)), (h_fo_leftChildren, .inl (gI G, 10, .inl fo_leftChildren)), (h_fo_rightChildren, .inl (gI G, 10, .inl fo_rightChildren)), (h_tr_ranks, .inl (gI G, 121, .inl tr_ranks)), (h_tr_ranksBelowRoot, .inl (gI G, 121, .inl tr_ranksBelowRoot)), (h_tr_roots, .inl (gI G, 121, .inl tr_roots))] → va_S A s.heap H locs → lv_has ls 4 [(0, .ref h_tr), (1, .ref h_fo), (2, .int v2)] → X tr_ranksBelowRoot = some out → W p l e rm_X6_rankIn s m args below meth c H locs 0 0 Q (F0 m 48 ls [])) → W p l e rm_X6_rankIn s m args below meth c H locs 0 0 Q (F0 m 12 ls []) := by
            intro n
            induction n with
            | zero => intro v2 v3 tr_ranksBelowRoot X H locs ls hP hD hS hl h HX; rw [f_X6_rankIn_l12] at h; cases h
            | succ n ih =>
                intro v2 v3 tr_ranksBelowRoot X H locs ls hP hD hS hl h HX
                rw [f_X6_rankIn_l12] at h
                refine lv_iload_n hx hb dX6_rankIn_12 rfl (lv_at hl 3 rfl) ?_
                refine lv_iload_n hx hb dX6_rankIn_13 rfl (lv_at hl 2 rfl) ?_
                refine lv_iadd hx hb dX6_rankIn_14 ?_
                refine lv_aload_n hx hb dX6_rankIn_15 rfl (lv_at hl 0 rfl) ?_
                refine va_get (D := gD G) (ci := 5) (v := .int tr_operators) (C := RX6) (T := TX6) (N := 6) hx hb hts lk_X6 hown hK hP 1 rfl rfl 0 (by decide) (hts _ fl_RX6_9) (fun _ h9 => h9) rfl dX6_rankIn_16 ?_
                refine lv_icmp_gt (tgt := 48) hx hb dX6_rankIn_19 (by decide) (fun c19 => ?_) (fun c19 => ?_)
                · have h := ip c19 h
                  exact HX tr_ranksBelowRoot H locs ls hP hD hS (lv_sub hl [0, 1, 2] rfl) h
                · have h := ing c19 h
                  refine lv_aload_n hx hb dX6_rankIn_22 rfl (lv_at hl 0 rfl) ?_
                  refine lv_iload_n hx hb dX6_rankIn_23 rfl (lv_at hl 3 rfl) ?_
                  refine lv_iload_n hx hb dX6_rankIn_24 rfl (lv_at hl 3 rfl) ?_
                  refine lv_iload_n hx hb dX6_rankIn_25 rfl (lv_at hl 2 rfl) ?_
                  refine lv_iadd hx hb dX6_rankIn_26 ?_
                  obtain ⟨o27, e27, h⟩ := bd h
                  refine Ci.V (wr := [(h_fo, .inr (1, [.int fo_operators, .ref h_fo_roots, .ref h_fo_leftChildren, .ref h_fo_rightChildren, .ref h_fo_counts])), (h_fo_counts, .inl (gI G, 1210, .inl fo_counts)), (h_fo_leftChildren, .inl (gI G, 10, .inl fo_leftChildren)), (h_fo_rightChildren, .inl (gI G, 10, .inl fo_rightChildren)), (h_tr_ranksBelowRoot, .inl (gI G, 121, .inl tr_ranksBelowRoot)), (h_tr_roots, .inl (gI G, 121, .inl tr_roots))]) (c_X6_hasSubtree F l G h_tr h_tr_roots h_tr_ranks h_tr_allowedRoots h_tr_ranksBelowRoot h_tr_results tr_operators tr_ranks v3 (v3 + v2) H.size o27 e27) hB km_X6_hasSubtree ⟨im_X6_hasSubtree, sl_X6_hasSubtree⟩ ml_RX6_45 hP hD hS hl ⟨0, 5, _, _, rfl, rfl, rfl⟩ [1, 5] [0, 2, 3, 4, 6, 7] ⟨rfl, rfl, ⟨rfl, rfl⟩, by decide⟩ ⟨⟨Nat.le_of_ble_eq_true rfl, Nat.le_of_ble_eq_true rfl⟩, Nat.le_of_ble_eq_true rfl, Nat.le_of_ble_eq_true rfl, Nat.le_of_ble_eq_true rfl⟩ rfl dX6_rankIn_27 (fun z H locs hP hD hS => ?_)
                  have hP : va_P (gD G) vwCl [(h_fo, .inr (1, [.int fo_operators, .ref h_fo_roots, .ref h_fo_leftChildren, .ref h_fo_rightChildren, .ref h_fo_counts])), (h_fo_counts, .inl (gI G, 1210, .inl fo_counts)), (h_fo_leftChildren, .inl (gI G, 10, .inl fo_leftChildren)), (h_fo_rightChildren, .inl (gI G, 10, .inl fo_rightChildren)), (h_tr_ranksBelowRoot, .inl (gI G, 121, .inl tr_ranksBelowRoot)), (h_tr_roots, .inl (gI G, 121, .inl tr_roots)), (h_tr, .inr (5, [.int tr_operators, .ref h_tr_roots, .ref h_tr_ranks, .ref h_tr_allowedRoots, .ref h_tr_ranksBelowRoot, .ref h_tr_results])), (h_tr_ranks, .inl (gI G, 121, .inl tr_ranks))] H := hP
                  have hD : va_D A [(h_fo, .inr (1, [.int fo_operators, .ref h_fo_roots, .ref h_fo_leftChildren, .ref h_fo_rightChildren, .ref h_fo_counts])), (h_fo_counts, .inl (gI G, 1210, .inl fo_counts)), (h_fo_leftChildren, .inl (gI G, 10, .inl fo_leftChildren)), (h_fo_rightChildren, .inl (gI G, 10, .inl fo_rightChildren)), (h_tr_ranksBelowRoot, .inl (gI G, 121, .inl tr_ranksBelowRoot)), (h_tr_roots, .inl (gI G, 121, .inl tr_roots)), (h_tr, .inr (5, [.int tr_operators, .ref h_tr_roots, .ref h_tr_ranks, .ref h_tr_allowedRoots, .ref h_tr_ranksBelowRoot, .ref h_tr_results])), (h_tr_ranks, .inl (gI G, 121, .inl tr_ranks))] := hD
                  refine lv_if_eq (tgt := 42) hx hb dX6_rankIn_30 (by decide) (fun c30 => ?_) (fun c30 => ?_)
                  · have h := ip c30 h
                    refine lv_iinc (v := (v3 + 1)) (lv' := [(3, .int (v3 + 1)), (0, .ref h_tr), (1, .ref h_fo), (2, .int v2)]) hx hb dX6_rankIn_42 hl (k := 3) rfl rfl (by decide) rfl (fun ls hl => ?_)
                    refine lv_goto (tgt := 12) hx hb dX6_rankIn_45 (by decide) ?_
                    exact ih v2 (v3 + 1) tr_ranksBelowRoot X H locs ls (hP.sub [0, 6, 1, 2, 3, 7, 4, 5] rfl) (hD.sub [0, 6, 1, 2, 3, 7, 4, 5] (by decide) rfl) hS (lv_sub hl [1, 2, 3, 0] rfl) h HX
                  · have h := ing c30 h
                    refine lv_aload_n hx hb dX6_rankIn_33 rfl (lv_at hl 0 rfl) ?_
                    refine lv_aload_n hx hb dX6_rankIn_34 rfl (lv_at hl 1 rfl) ?_
                    refine lv_iload_n hx hb dX6_rankIn_35 rfl (lv_at hl 3 rfl) ?_
                    refine lv_iload_n hx hb dX6_rankIn_36 rfl (lv_at hl 3 rfl) ?_
                    refine lv_iload_n hx hb dX6_rankIn_37 rfl (lv_at hl 2 rfl) ?_
                    refine lv_iadd hx hb dX6_rankIn_38 ?_
                    obtain ⟨o39, e39, h⟩ := bd h
                    refine Cv.V (wr := [(h_tr_ranks, .inl (gI G, 121, .inl tr_ranks))]) (c_X6_rankBelowRoot F l G h_fo h_fo_roots h_fo_leftChildren h_fo_rightChildren h_fo_counts h_tr h_tr_roots h_tr_ranks h_tr_allowedRoots h_tr_ranksBelowRoot h_tr_results fo_operators tr_operators fo_counts fo_leftChildren fo_rightChildren tr_ranksBelowRoot tr_roots v3 (v3 + v2) H.size o39 e39) hB km_X6_rankBelowRoot ⟨im_X6_rankBelowRoot, sl_X6_rankBelowRoot⟩ ml_RX6_85 hP hD hS hl ⟨1, 5, _, _, rfl, rfl, rfl⟩ [0, 6, 1, 2, 3, 4, 5] [7] ⟨rfl, rfl, ⟨rfl, rfl⟩, by decide⟩ ⟨⟨Nat.le_of_ble_eq_true rfl, Nat.le_of_ble_eq_true rfl⟩, Nat.le_of_ble_eq_true rfl, Nat.le_of_ble_eq_true rfl, Nat.le_of_ble_eq_true rfl⟩ rfl dX6_rankIn_39 (fun z H locs hP hD hS => ?_)
                    have hP : va_P (gD G) vwCl [(h_tr_ranks, .inl (gI G, 121, .inl tr_ranks)), (h_fo, .inr (1, [.int fo_operators, .ref h_fo_roots, .ref h_fo_leftChildren, .ref h_fo_rightChildren, .ref h_fo_counts])), (h_tr, .inr (5, [.int tr_operators, .ref h_tr_roots, .ref h_tr_ranks, .ref h_tr_allowedRoots, .ref h_tr_ranksBelowRoot, .ref h_tr_results])), (h_fo_counts, .inl (gI G, 1210, .inl fo_counts)), (h_fo_leftChildren, .inl (gI G, 10, .inl fo_leftChildren)), (h_fo_rightChildren, .inl (gI G, 10, .inl fo_rightChildren)), (h_tr_ranksBelowRoot, .inl (gI G, 121, .inl o39)), (h_tr_roots, .inl (gI G, 121, .inl tr_roots))] H := hP
                    have hD : va_D A [(h_tr_ranks, .inl (gI G, 121, .inl tr_ranks)), (h_fo, .inr (1, [.int fo_operators, .ref h_fo_roots, .ref h_fo_leftChildren, .ref h_fo_rightChildren, .ref h_fo_counts])), (h_tr, .inr (5, [.int tr_operators, .ref h_tr_roots, .ref h_tr_ranks, .ref h_tr_allowedRoots, .ref h_tr_ranksBelowRoot, .ref h_tr_results])), (h_fo_counts, .inl (gI G, 1210, .inl fo_counts)), (h_fo_leftChildren, .inl (gI G, 10, .inl fo_leftChildren)), (h_fo_rightChildren, .inl (gI G, 10, .inl fo_rightChildren)), (h_tr_ranksBelowRoot, .inl (gI G, 121, .inl o39)), (h_tr_roots, .inl (gI G, 121, .inl tr_roots))] := hD
                    refine lv_iinc (v := (v3 + 1)) (lv' := [(3, .int (v3 + 1)), (0, .ref h_tr), (1, .ref h_fo), (2, .int v2)]) hx hb dX6_rankIn_42 hl (k := 3) rfl rfl (by decide) rfl (fun ls hl => ?_)
                    refine lv_goto (tgt := 12) hx hb dX6_rankIn_45 (by decide) ?_
                    exact ih v2 (v3 + 1) o39 X H locs ls (hP.sub [1, 2, 3, 4, 5, 0, 6, 7] rfl) (hD.sub [1, 2, 3, 4, 5, 0, 6, 7] (by decide) rfl) hS (lv_sub hl [1, 2, 3, 0] rfl) h HX
          refine Lp12 F v2 0 tr_ranksBelowRoot _ H locs ls hP hD hS (lv_sub hl [1, 2, 3, 0] rfl) h (fun tr_ranksBelowRoot H locs ls hP hD hS hl h => ?_)
          refine lv_iinc (v := (v2 + 1)) (lv' := [(2, .int (v2 + 1)), (0, .ref h_tr), (1, .ref h_fo)]) hx hb dX6_rankIn_48 hl (k := 2) rfl rfl (by decide) rfl (fun ls hl => ?_)
          refine lv_goto (tgt := 2) hx hb dX6_rankIn_51 (by decide) ?_
          exact ih (v2 + 1) tr_ranksBelowRoot X H locs ls hP hD hS (lv_sub hl [1, 2, 0] rfl) h HX
  refine Lp2 F 1 tr_ranksBelowRoot _ H locs ls hP hD hS (lv_sub hl [1, 2, 0] rfl) h (fun tr_ranksBelowRoot H locs ls hP hD hS hl h => ?_)
  refine lv_aload_n hx hb dX6_rankIn_54 rfl (lv_at hl 0 rfl) ?_
  refine lv_aload_n hx hb dX6_rankIn_55 rfl (lv_at hl 1 rfl) ?_
  refine lv_iconst (v := 0) hx hb dX6_rankIn_56 (by decide) ?_
  refine lv_aload_n hx hb dX6_rankIn_57 rfl (lv_at hl 0 rfl) ?_
  refine va_get (D := gD G) (ci := 5) (v := .int tr_operators) (C := RX6) (T := TX6) (N := 6) hx hb hts lk_X6 hown hK hP 1 rfl rfl 0 (by decide) (hts _ fl_RX6_9) (fun _ h9 => h9) rfl dX6_rankIn_58 ?_
  refine lv_iconst (v := (-1)) hx hb dX6_rankIn_61 (by decide) ?_
  obtain ⟨o62, e62, h⟩ := bd h
  refine Ci.V (wr := [(h_fo_leftChildren, .inl (gI G, 10, .inl fo_leftChildren)), (h_fo_rightChildren, .inl (gI G, 10, .inl fo_rightChildren)), (h_tr_ranks, .inl (gI G, 121, .inl tr_ranks))]) (c_X6_rankOf F l G h_fo h_fo_roots h_fo_leftChildren h_fo_rightChildren h_fo_counts h_tr h_tr_roots h_tr_ranks h_tr_allowedRoots h_tr_ranksBelowRoot h_tr_results fo_operators tr_operators fo_counts tr_ranksBelowRoot tr_roots 0 tr_operators (-1) H.size o62 e62) hB km_X6_rankOf ⟨im_X6_rankOf, sl_X6_rankOf⟩ ml_RX6_88 hP hD hS hl ⟨1, 5, _, _, rfl, rfl, rfl⟩ [0, 1, 2, 6, 7] [3, 4, 5] ⟨rfl, rfl, ⟨rfl, rfl⟩, by decide⟩ ⟨⟨Nat.le_of_ble_eq_true rfl, Nat.le_of_ble_eq_true rfl⟩, Nat.le_of_ble_eq_true rfl, Nat.le_of_ble_eq_true rfl, Nat.le_of_ble_eq_true rfl⟩ rfl dX6_rankIn_62 (fun z H locs hP hD hS => ?_)
  have hP : va_P (gD G) vwCl [(h_fo_leftChildren, .inl (gI G, 10, .inl fo_leftChildren)), (h_fo_rightChildren, .inl (gI G, 10, .inl fo_rightChildren)), (h_tr_ranks, .inl (gI G, 121, .inl tr_ranks)), (h_fo, .inr (1, [.int fo_operators, .ref h_fo_roots, .ref h_fo_leftChildren, .ref h_fo_rightChildren, .ref h_fo_counts])), (h_tr, .inr (5, [.int tr_operators, .ref h_tr_roots, .ref h_tr_ranks, .ref h_tr_allowedRoots, .ref h_tr_ranksBelowRoot, .ref h_tr_results])), (h_fo_counts, .inl (gI G, 1210, .inl fo_counts)), (h_tr_ranksBelowRoot, .inl (gI G, 121, .inl tr_ranksBelowRoot)), (h_tr_roots, .inl (gI G, 121, .inl tr_roots))] H := hP
  have hD : va_D A [(h_fo_leftChildren, .inl (gI G, 10, .inl fo_leftChildren)), (h_fo_rightChildren, .inl (gI G, 10, .inl fo_rightChildren)), (h_tr_ranks, .inl (gI G, 121, .inl tr_ranks)), (h_fo, .inr (1, [.int fo_operators, .ref h_fo_roots, .ref h_fo_leftChildren, .ref h_fo_rightChildren, .ref h_fo_counts])), (h_tr, .inr (5, [.int tr_operators, .ref h_tr_roots, .ref h_tr_ranks, .ref h_tr_allowedRoots, .ref h_tr_ranksBelowRoot, .ref h_tr_results])), (h_fo_counts, .inl (gI G, 1210, .inl fo_counts)), (h_tr_ranksBelowRoot, .inl (gI G, 121, .inl tr_ranksBelowRoot)), (h_tr_roots, .inl (gI G, 121, .inl tr_roots))] := hD
  cases h
  exact hret (fun _ => 0) _ _ _ _ (hP.sub [3, 4, 5, 0, 1, 2, 6, 7] rfl) (hD.sub [3, 4, 5, 0, 1, 2, 6, 7] (by decide) rfl) hS rfl dX6_rankIn_65
abbrev rm_X6_isFailure : Room := { frames := 0, cells := 0, slots := 0, locals := 0 }
theorem km_X6_isFailure : KM yX6_isFailure cX6_isFailure 2 (some .boolean) 1 := ⟨co_X6_isFailure, in_RX6, by decide +kernel⟩
set_option maxHeartbeats 4000000 in
set_option maxRecDepth 100000 in
theorem c_X6_isFailure (F : Nat) (l : Launch) (G : GT)  (p0 : Int64) (sz : Nat) (out : Int32) (h : f_X6_isFailure F p0 = some out) : Ci G l yX6_isFailure cX6_isFailure 2 (some .boolean) rm_X6_isFailure [.long p0] [] sz out (fun _ => []) := by
  refine Ci.start rfl (by decide) (Nat.le_of_ble_eq_true rfl) ?_
  intro p e s m args below meth c A Q H locs ls hB hP hD hS hl hret
  obtain ⟨hx, hb, hmL, hr, hown, hts, hlocks, hnm, hA, hE⟩ := id hB
  obtain ⟨hK, hN, hV, hR, hZ, hZq, hAO⟩ := id hE
  have hown : s.vm.findClass RX6 = some m.cls := hown
  have hl : lv_has ls 2 [(0, .long p0)] := hl
  rw [f_X6_isFailure] at h
  refine lv_lload_n hx hb dX6_isFailure_0 rfl (lv_at hl 0 rfl) ?_
  refine lv_ldc2 hx hb hown (hts _ cn_RX6_112) dX6_isFailure_1 ?_
  refine W.lcmp hx hb dX6_isFailure_4 ?_
  refine lv_if_eq (tgt := 16) hx hb dX6_isFailure_5 (by decide) (fun c5 => ?_) (fun c5 => ?_)
  · have h := ip c5 h
    refine lv_iconst (v := 1) hx hb dX6_isFailure_16 (by decide) ?_
    refine lv_goto (tgt := 21) hx hb dX6_isFailure_17 (by decide) ?_
    cases h
    exact hret (fun _ => 0) _ _ _ _ hP hD hS (nz (Or.inr rfl)) dX6_isFailure_21
  · have h := ing c5 h
    refine lv_lload_n hx hb dX6_isFailure_8 rfl (lv_at hl 0 rfl) ?_
    refine lv_ldc2 hx hb hown (hts _ cn_RX6_114) dX6_isFailure_9 ?_
    refine W.lcmp hx hb dX6_isFailure_12 ?_
    refine lv_if_ne (tgt := 20) hx hb dX6_isFailure_13 (by decide) (fun c13 => ?_) (fun c13 => ?_)
    · have h := ing c13 h
      refine lv_iconst (v := 0) hx hb dX6_isFailure_20 (by decide) ?_
      cases h
      exact hret (fun _ => 0) _ _ _ _ hP hD hS (nz (Or.inl rfl)) dX6_isFailure_21
    · have h := ip c13 h
      refine lv_iconst (v := 1) hx hb dX6_isFailure_16 (by decide) ?_
      refine lv_goto (tgt := 21) hx hb dX6_isFailure_17 (by decide) ?_
      cases h
      exact hret (fun _ => 0) _ _ _ _ hP hD hS (nz (Or.inr rfl)) dX6_isFailure_21
abbrev rm_X6_intOrOverflow : Room := { frames := 0, cells := 0, slots := 0, locals := 0 }
theorem km_X6_intOrOverflow : KM yX6_intOrOverflow cX6_intOrOverflow 2 (some .long) 1 := ⟨co_X6_intOrOverflow, in_RX6, by decide +kernel⟩
set_option maxHeartbeats 4000000 in
set_option maxRecDepth 100000 in
theorem c_X6_intOrOverflow (F : Nat) (l : Launch) (G : GT)  (p0 : Int64) (sz : Nat) (out : Int64) (h : f_X6_intOrOverflow F p0 = some out) : Cl G l yX6_intOrOverflow cX6_intOrOverflow 2 (some .long) rm_X6_intOrOverflow [.long p0] [] sz out (fun _ => []) := by
  refine Cl.start (by decide) (Nat.le_of_ble_eq_true rfl) ?_
  intro p e s m args below meth c A Q H locs ls hB hP hD hS hl hret
  obtain ⟨hx, hb, hmL, hr, hown, hts, hlocks, hnm, hA, hE⟩ := id hB
  obtain ⟨hK, hN, hV, hR, hZ, hZq, hAO⟩ := id hE
  have hown : s.vm.findClass RX6 = some m.cls := hown
  have hl : lv_has ls 2 [(0, .long p0)] := hl
  rw [f_X6_intOrOverflow] at h
  refine lv_lload_n hx hb dX6_intOrOverflow_0 rfl (lv_at hl 0 rfl) ?_
  refine lv_lload_n hx hb dX6_intOrOverflow_1 rfl (lv_at hl 0 rfl) ?_
  refine lv_l2i hx hb dX6_intOrOverflow_2 rfl ?_
  refine lv_i2l hx hb dX6_intOrOverflow_3 rfl ?_
  refine W.lcmp hx hb dX6_intOrOverflow_4 ?_
  refine lv_if_ne (tgt := 12) hx hb dX6_intOrOverflow_5 (by decide) (fun c5 => ?_) (fun c5 => ?_)
  · have h := ing c5 h
    refine lv_ldc2 hx hb hown (hts _ cn_RX6_112) dX6_intOrOverflow_12 ?_
    cases h
    exact hret (fun _ => 0) _ _ _ _ hP hD hS dX6_intOrOverflow_15
  · have h := ip c5 h
    refine lv_lload_n hx hb dX6_intOrOverflow_8 rfl (lv_at hl 0 rfl) ?_
    refine lv_goto (tgt := 15) hx hb dX6_intOrOverflow_9 (by decide) ?_
    cases h
    exact hret (fun _ => 0) _ _ _ _ hP hD hS dX6_intOrOverflow_15
abbrev rm_X6_combine : Room := { frames := 1, cells := 0, slots := 0, locals := 21 }
theorem km_X6_combine : KM yX6_combine cX6_combine 5 (some .long) 3 := ⟨co_X6_combine, in_RX6, by decide +kernel⟩
set_option maxHeartbeats 4000000 in
set_option maxRecDepth 100000 in
theorem c_X6_combine (F : Nat) (l : Launch) (G : GT)  (p0 : Int32) (p1 : Int64) (p3 : Int64) (sz : Nat) (out : Int64) (h : f_X6_combine F p0 p1 p3 = some out) : Cl G l yX6_combine cX6_combine 5 (some .long) rm_X6_combine [.int p0, .long p1, .long p3] [] sz out (fun _ => []) := by
  refine Cl.start (by decide) (Nat.le_of_ble_eq_true rfl) ?_
  intro p e s m args below meth c A Q H locs ls hB hP hD hS hl hret
  obtain ⟨hx, hb, hmL, hr, hown, hts, hlocks, hnm, hA, hE⟩ := id hB
  obtain ⟨hK, hN, hV, hR, hZ, hZq, hAO⟩ := id hE
  have hown : s.vm.findClass RX6 = some m.cls := hown
  have hl : lv_has ls 5 [(0, .int p0), (1, .long p1), (3, .long p3)] := hl
  rw [f_X6_combine] at h
  refine lv_iload_n hx hb dX6_combine_0 rfl (lv_at hl 0 rfl) ?_
  by_cases c1_0 : p0 = 0
  · have h := ip c1_0 h
    refine lv_tableIn (off := 47) (tgt := 48) hx hb dX6_combine_1 (by rw [c1_0]; decide) (by rw [c1_0]; decide) (by rw [c1_0]; decide) (by decide) ?_
    refine lv_lload_n hx hb dX6_combine_48 rfl (lv_at hl 1 rfl) ?_
    refine lv_lload_n hx hb dX6_combine_49 rfl (lv_at hl 2 rfl) ?_
    refine lv_ladd hx hb dX6_combine_50 ?_
    obtain ⟨o51, e51, h⟩ := bd h
    refine Cl.S (wr := []) (c_X6_intOrOverflow F l G (p1 + p3) H.size o51 e51) hB km_X6_intOrOverflow st_X6_intOrOverflow ml_RX6_116 hP hD hS hl [] [] ⟨rfl, rfl, ⟨rfl, rfl⟩, by decide⟩ ⟨⟨Nat.le_of_ble_eq_true rfl, Nat.le_of_ble_eq_true rfl⟩, Nat.le_of_ble_eq_true rfl, Nat.le_of_ble_eq_true rfl, Nat.le_of_ble_eq_true rfl⟩ rfl dX6_combine_51 (fun z H locs hP hD hS => ?_)
    have hP : va_P (gD G) vwCl [] H := hP
    have hD : va_D A [] := hD
    cases h
    exact hret (fun _ => 0) _ _ _ _ hP hD hS dX6_combine_54
  have h := ing c1_0 h
  by_cases c1_1 : p0 = 1
  · have h := ip c1_1 h
    refine lv_tableIn (off := 54) (tgt := 55) hx hb dX6_combine_1 (by rw [c1_1]; decide) (by rw [c1_1]; decide) (by rw [c1_1]; decide) (by decide) ?_
    refine lv_lload_n hx hb dX6_combine_55 rfl (lv_at hl 1 rfl) ?_
    refine lv_lload_n hx hb dX6_combine_56 rfl (lv_at hl 2 rfl) ?_
    refine lv_lsub hx hb dX6_combine_57 ?_
    obtain ⟨o58, e58, h⟩ := bd h
    refine Cl.S (wr := []) (c_X6_intOrOverflow F l G (p1 - p3) H.size o58 e58) hB km_X6_intOrOverflow st_X6_intOrOverflow ml_RX6_116 hP hD hS hl [] [] ⟨rfl, rfl, ⟨rfl, rfl⟩, by decide⟩ ⟨⟨Nat.le_of_ble_eq_true rfl, Nat.le_of_ble_eq_true rfl⟩, Nat.le_of_ble_eq_true rfl, Nat.le_of_ble_eq_true rfl, Nat.le_of_ble_eq_true rfl⟩ rfl dX6_combine_58 (fun z H locs hP hD hS => ?_)
    have hP : va_P (gD G) vwCl [] H := hP
    have hD : va_D A [] := hD
    cases h
    exact hret (fun _ => 0) _ _ _ _ hP hD hS dX6_combine_61
  have h := ing c1_1 h
  by_cases c1_2 : p0 = 2
  · have h := ip c1_2 h
    refine lv_tableIn (off := 61) (tgt := 62) hx hb dX6_combine_1 (by rw [c1_2]; decide) (by rw [c1_2]; decide) (by rw [c1_2]; decide) (by decide) ?_
    refine lv_lload_n hx hb dX6_combine_62 rfl (lv_at hl 1 rfl) ?_
    refine lv_lload_n hx hb dX6_combine_63 rfl (lv_at hl 2 rfl) ?_
    refine lv_lmul hx hb dX6_combine_64 ?_
    obtain ⟨o65, e65, h⟩ := bd h
    refine Cl.S (wr := []) (c_X6_intOrOverflow F l G (p1 * p3) H.size o65 e65) hB km_X6_intOrOverflow st_X6_intOrOverflow ml_RX6_116 hP hD hS hl [] [] ⟨rfl, rfl, ⟨rfl, rfl⟩, by decide⟩ ⟨⟨Nat.le_of_ble_eq_true rfl, Nat.le_of_ble_eq_true rfl⟩, Nat.le_of_ble_eq_true rfl, Nat.le_of_ble_eq_true rfl, Nat.le_of_ble_eq_true rfl⟩ rfl dX6_combine_65 (fun z H locs hP hD hS => ?_)
    have hP : va_P (gD G) vwCl [] H := hP
    have hD : va_D A [] := hD
    cases h
    exact hret (fun _ => 0) _ _ _ _ hP hD hS dX6_combine_68
  have h := ing c1_2 h
  by_cases c1_3 : p0 = 3
  · have h := ip c1_3 h
    refine lv_tableIn (off := 68) (tgt := 69) hx hb dX6_combine_1 (by rw [c1_3]; decide) (by rw [c1_3]; decide) (by rw [c1_3]; decide) (by decide) ?_
    refine lv_lload_n hx hb dX6_combine_69 rfl (lv_at hl 2 rfl) ?_
    refine lv_lconst (v := 0) hx hb dX6_combine_70 (by decide) ?_
    refine W.lcmp hx hb dX6_combine_71 ?_
    refine lv_if_ne (tgt := 81) hx hb dX6_combine_72 (by decide) (fun c72 => ?_) (fun c72 => ?_)
    · have h := ing c72 h
      refine lv_lload_n hx hb dX6_combine_81 rfl (lv_at hl 1 rfl) ?_
      refine lv_lload_n hx hb dX6_combine_82 rfl (lv_at hl 2 rfl) ?_
      obtain ⟨g83, h⟩ := gdn h
      refine lv_ldiv hx hb dX6_combine_83 g83 ?_
      obtain ⟨o84, e84, h⟩ := bd h
      refine Cl.S (wr := []) (c_X6_intOrOverflow F l G (p1 / p3) H.size o84 e84) hB km_X6_intOrOverflow st_X6_intOrOverflow ml_RX6_116 hP hD hS hl [] [] ⟨rfl, rfl, ⟨rfl, rfl⟩, by decide⟩ ⟨⟨Nat.le_of_ble_eq_true rfl, Nat.le_of_ble_eq_true rfl⟩, Nat.le_of_ble_eq_true rfl, Nat.le_of_ble_eq_true rfl, Nat.le_of_ble_eq_true rfl⟩ rfl dX6_combine_84 (fun z H locs hP hD hS => ?_)
      have hP : va_P (gD G) vwCl [] H := hP
      have hD : va_D A [] := hD
      cases h
      exact hret (fun _ => 0) _ _ _ _ hP hD hS dX6_combine_87
    · have h := ip c72 h
      refine lv_ldc2 hx hb hown (hts _ cn_RX6_114) dX6_combine_75 ?_
      refine lv_goto (tgt := 87) hx hb dX6_combine_78 (by decide) ?_
      cases h
      exact hret (fun _ => 0) _ _ _ _ hP hD hS dX6_combine_87
  have h := ing c1_3 h
  by_cases c1_4 : p0 = 4
  · have h := ip c1_4 h
    refine lv_tableIn (off := 87) (tgt := 88) hx hb dX6_combine_1 (by rw [c1_4]; decide) (by rw [c1_4]; decide) (by rw [c1_4]; decide) (by decide) ?_
    refine lv_lload_n hx hb dX6_combine_88 rfl (lv_at hl 2 rfl) ?_
    refine lv_lconst (v := 0) hx hb dX6_combine_89 (by decide) ?_
    refine W.lcmp hx hb dX6_combine_90 ?_
    refine lv_if_ne (tgt := 100) hx hb dX6_combine_91 (by decide) (fun c91 => ?_) (fun c91 => ?_)
    · have h := ing c91 h
      refine lv_lload_n hx hb dX6_combine_100 rfl (lv_at hl 1 rfl) ?_
      refine lv_lload_n hx hb dX6_combine_101 rfl (lv_at hl 2 rfl) ?_
      obtain ⟨g102, h⟩ := gdn h
      refine lv_lrem hx hb dX6_combine_102 g102 ?_
      cases h
      exact hret (fun _ => 0) _ _ _ _ hP hD hS dX6_combine_103
    · have h := ip c91 h
      refine lv_ldc2 hx hb hown (hts _ cn_RX6_114) dX6_combine_94 ?_
      refine lv_goto (tgt := 103) hx hb dX6_combine_97 (by decide) ?_
      cases h
      exact hret (fun _ => 0) _ _ _ _ hP hD hS dX6_combine_103
  have h := ing c1_4 h
  by_cases c1_5 : p0 = 5
  · have h := ip c1_5 h
    refine lv_tableIn (off := 103) (tgt := 104) hx hb dX6_combine_1 (by rw [c1_5]; decide) (by rw [c1_5]; decide) (by rw [c1_5]; decide) (by decide) ?_
    refine lv_lload_n hx hb dX6_combine_104 rfl (lv_at hl 1 rfl) ?_
    refine lv_lload_n hx hb dX6_combine_105 rfl (lv_at hl 2 rfl) ?_
    refine lv_land hx hb dX6_combine_106 ?_
    cases h
    exact hret (fun _ => 0) _ _ _ _ hP hD hS dX6_combine_107
  have h := ing c1_5 h
  by_cases c1_6 : p0 = 6
  · have h := ip c1_6 h
    refine lv_tableIn (off := 107) (tgt := 108) hx hb dX6_combine_1 (by rw [c1_6]; decide) (by rw [c1_6]; decide) (by rw [c1_6]; decide) (by decide) ?_
    refine lv_lload_n hx hb dX6_combine_108 rfl (lv_at hl 1 rfl) ?_
    refine lv_lload_n hx hb dX6_combine_109 rfl (lv_at hl 2 rfl) ?_
    refine lv_lor hx hb dX6_combine_110 ?_
    cases h
    exact hret (fun _ => 0) _ _ _ _ hP hD hS dX6_combine_111
  have h := ing c1_6 h
  by_cases c1_7 : p0 = 7
  · have h := ip c1_7 h
    refine lv_tableIn (off := 111) (tgt := 112) hx hb dX6_combine_1 (by rw [c1_7]; decide) (by rw [c1_7]; decide) (by rw [c1_7]; decide) (by decide) ?_
    refine lv_lload_n hx hb dX6_combine_112 rfl (lv_at hl 1 rfl) ?_
    refine lv_lload_n hx hb dX6_combine_113 rfl (lv_at hl 2 rfl) ?_
    refine W.lcmp hx hb dX6_combine_114 ?_
    refine lv_if_ge (tgt := 122) hx hb dX6_combine_115 (by decide) (fun c115 => ?_) (fun c115 => ?_)
    · have h := ip c115 h
      refine lv_lconst (v := 0) hx hb dX6_combine_122 (by decide) ?_
      cases h
      exact hret (fun _ => 0) _ _ _ _ hP hD hS dX6_combine_123
    · have h := ing c115 h
      refine lv_lconst (v := 1) hx hb dX6_combine_118 (by decide) ?_
      refine lv_goto (tgt := 123) hx hb dX6_combine_119 (by decide) ?_
      cases h
      exact hret (fun _ => 0) _ _ _ _ hP hD hS dX6_combine_123
  have h := ing c1_7 h
  have q1_0 : (p0).toInt ≠ 0 := fun z => c1_0 (Int32.toInt_inj.mp (z.trans (by decide)))
  have q1_1 : (p0).toInt ≠ 1 := fun z => c1_1 (Int32.toInt_inj.mp (z.trans (by decide)))
  have q1_2 : (p0).toInt ≠ 2 := fun z => c1_2 (Int32.toInt_inj.mp (z.trans (by decide)))
  have q1_3 : (p0).toInt ≠ 3 := fun z => c1_3 (Int32.toInt_inj.mp (z.trans (by decide)))
  have q1_4 : (p0).toInt ≠ 4 := fun z => c1_4 (Int32.toInt_inj.mp (z.trans (by decide)))
  have q1_5 : (p0).toInt ≠ 5 := fun z => c1_5 (Int32.toInt_inj.mp (z.trans (by decide)))
  have q1_6 : (p0).toInt ≠ 6 := fun z => c1_6 (Int32.toInt_inj.mp (z.trans (by decide)))
  have q1_7 : (p0).toInt ≠ 7 := fun z => c1_7 (Int32.toInt_inj.mp (z.trans (by decide)))
  refine lv_tableOut (tgt := 124) hx hb dX6_combine_1 (by omega) (by decide) ?_
  refine lv_lload_n hx hb dX6_combine_124 rfl (lv_at hl 1 rfl) ?_
  refine lv_lload_n hx hb dX6_combine_125 rfl (lv_at hl 2 rfl) ?_
  refine W.lcmp hx hb dX6_combine_126 ?_
  refine lv_if_ne (tgt := 134) hx hb dX6_combine_127 (by decide) (fun c127 => ?_) (fun c127 => ?_)
  · have h := ing c127 h
    refine lv_lconst (v := 0) hx hb dX6_combine_134 (by decide) ?_
    cases h
    exact hret (fun _ => 0) _ _ _ _ hP hD hS dX6_combine_135
  · have h := ip c127 h
    refine lv_lconst (v := 1) hx hb dX6_combine_130 (by decide) ?_
    refine lv_goto (tgt := 135) hx hb dX6_combine_131 (by decide) ?_
    cases h
    exact hret (fun _ => 0) _ _ _ _ hP hD hS dX6_combine_135
abbrev rm_X6_evaluateSubtree : Room := { frames := 2, cells := 0, slots := 0, locals := 45 }
theorem km_X6_evaluateSubtree : KM yX6_evaluateSubtree cX6_evaluateSubtree 11 none 3 := ⟨co_X6_evaluateSubtree, in_RX6, by decide +kernel⟩
set_option maxHeartbeats 4000000 in
set_option maxRecDepth 100000 in
theorem c_X6_evaluateSubtree (F : Nat) (l : Launch) (G : GT) (h_se h_se_priorities h_se_associativities h_se_symbols h_se_letters h_tr h_tr_roots h_tr_ranks h_tr_allowedRoots h_tr_ranksBelowRoot h_tr_results : Nat) (se_operands : Int32) (tr_operators : Int32) (se_symbols : Nat → Int32) (tr_results : Nat → Int64) (tr_roots : Nat → Int32) (p2 : Int32) (p3 : Int32) (sz : Nat) (out : (Nat → Int64)) (h : f_X6_evaluateSubtree F p2 p3 se_symbols tr_results tr_roots = some out) : Cv G l yX6_evaluateSubtree cX6_evaluateSubtree 11 none rm_X6_evaluateSubtree [.ref h_tr, .ref h_se, .int p2, .int p3] [(h_se, .inr (3, [.ref h_se_priorities, .ref h_se_associativities, .ref h_se_symbols, .ref h_se_letters, .int se_operands])), (h_tr, .inr (5, [.int tr_operators, .ref h_tr_roots, .ref h_tr_ranks, .ref h_tr_allowedRoots, .ref h_tr_ranksBelowRoot, .ref h_tr_results])), (h_se_symbols, .inl (gI G, 10, .inl se_symbols)), (h_tr_results, .inl (gJ G, 121, .inr (.inl tr_results))), (h_tr_roots, .inl (gI G, 121, .inl tr_roots))] sz (fun _ => [(h_se, .inr (3, [.ref h_se_priorities, .ref h_se_associativities, .ref h_se_symbols, .ref h_se_letters, .int se_operands])), (h_tr, .inr (5, [.int tr_operators, .ref h_tr_roots, .ref h_tr_ranks, .ref h_tr_allowedRoots, .ref h_tr_ranksBelowRoot, .ref h_tr_results])), (h_se_symbols, .inl (gI G, 10, .inl se_symbols)), (h_tr_results, .inl (gJ G, 121, .inr (.inl out))), (h_tr_roots, .inl (gI G, 121, .inl tr_roots))]) := by
  refine Cv.start (by decide) (Nat.le_of_ble_eq_true rfl) ?_
  intro p e s m args below meth c A Q H locs ls hB hP hD hS hl hret
  obtain ⟨hx, hb, hmL, hr, hown, hts, hlocks, hnm, hA, hE⟩ := id hB
  obtain ⟨hK, hN, hV, hR, hZ, hZq, hAO⟩ := id hE
  have hown : s.vm.findClass RX6 = some m.cls := hown
  have hl : lv_has ls 11 [(0, .ref h_tr), (1, .ref h_se), (2, .int p2), (3, .int p3)] := hl
  rw [f_X6_evaluateSubtree] at h
  have Bk86 : ∀ (v2 : Int32) (v3 : Int32) (v9 : Int64) (tr_results : Nat → Int64) (H : Heap) (locs : List Loc) (ls : Array Slot), va_P (gD G) vwCl [(h_se, .inr (3, [.ref h_se_priorities, .ref h_se_associativities, .ref h_se_symbols, .ref h_se_letters, .int se_operands])), (h_tr, .inr (5, [.int tr_operators, .ref h_tr_roots, .ref h_tr_ranks, .ref h_tr_allowedRoots, .ref h_tr_ranksBelowRoot, .ref h_tr_results])), (h_se_symbols, .inl (gI G, 10, .inl se_symbols)), (h_tr_results, .inl (gJ G, 121, .inr (.inl tr_results))), (h_tr_roots, .inl (gI G, 121, .inl tr_roots))] H → va_D A [(h_se, .inr (3, [.ref h_se_priorities, .ref h_se_associativities, .ref h_se_symbols, .ref h_se_letters, .int se_operands])), (h_tr, .inr (5, [.int tr_operators, .ref h_tr_roots, .ref h_tr_ranks, .ref h_tr_allowedRoots, .ref h_tr_ranksBelowRoot, .ref h_tr_results])), (h_se_symbols, .inl (gI G, 10, .inl se_symbols)), (h_tr_results, .inl (gJ G, 121, .inr (.inl tr_results))), (h_tr_roots, .inl (gI G, 121, .inl tr_roots))] → va_S A s.heap H locs → lv_has ls 11 [(0, .ref h_tr), (2, .int v2), (3, .int v3), (9, .long v9)] → f_X6_evaluateSubtree_b86 F v2 v3 v9 tr_results = some out → W p l e rm_X6_evaluateSubtree s m args below meth c H locs 0 0 Q (F0 m 86 ls []) := by
    intro v2 v3 v9 tr_results H locs ls hP hD hS hl h
    rw [f_X6_evaluateSubtree_b86] at h
    refine lv_aload_n hx hb dX6_evaluateSubtree_86 rfl (lv_at hl 0 rfl) ?_
    refine va_get (D := gD G) (ci := 5) (v := .ref h_tr_results) (C := RX6) (T := TX6) (N := 6) hx hb hts lk_X6 hown hK hP 1 rfl rfl 5 (by decide) (hts _ fl_RX6_28) (fun _ h9 => h9) rfl dX6_evaluateSubtree_87 ?_
    refine lv_iload_n hx hb dX6_evaluateSubtree_90 rfl (lv_at hl 1 rfl) ?_
    refine lv_iload_n hx hb dX6_evaluateSubtree_91 rfl (lv_at hl 2 rfl) ?_
    obtain ⟨o92, e92, h⟩ := bd h
    refine Ci.SN (wr := [(h_se, .inr (3, [.ref h_se_priorities, .ref h_se_associativities, .ref h_se_symbols, .ref h_se_letters, .int se_operands])), (h_tr, .inr (5, [.int tr_operators, .ref h_tr_roots, .ref h_tr_ranks, .ref h_tr_allowedRoots, .ref h_tr_ranksBelowRoot, .ref h_tr_results])), (h_se_symbols, .inl (gI G, 10, .inl se_symbols)), (h_tr_results, .inl (gJ G, 121, .inr (.inl tr_results))), (h_tr_roots, .inl (gI G, 121, .inl tr_roots))]) (c_X7_spanIndex F l G v2 v3 H.size o92 e92) hB km_X7_spanIndex st_X7_spanIndex mn_RX6_53 hP hD hS hl [] [0, 1, 2, 3, 4] ⟨rfl, rfl, ⟨rfl, rfl⟩, by decide⟩ ⟨⟨Nat.le_of_ble_eq_true rfl, Nat.le_of_ble_eq_true rfl⟩, Nat.le_of_ble_eq_true rfl, Nat.le_of_ble_eq_true rfl, Nat.le_of_ble_eq_true rfl⟩ rfl dX6_evaluateSubtree_92 (fun z H locs hP hD hS => ?_)
    have hP : va_P (gD G) vwCl [(h_se, .inr (3, [.ref h_se_priorities, .ref h_se_associativities, .ref h_se_symbols, .ref h_se_letters, .int se_operands])), (h_tr, .inr (5, [.int tr_operators, .ref h_tr_roots, .ref h_tr_ranks, .ref h_tr_allowedRoots, .ref h_tr_ranksBelowRoot, .ref h_tr_results])), (h_se_symbols, .inl (gI G, 10, .inl se_symbols)), (h_tr_results, .inl (gJ G, 121, .inr (.inl tr_results))), (h_tr_roots, .inl (gI G, 121, .inl tr_roots))] H := hP
    have hD : va_D A [(h_se, .inr (3, [.ref h_se_priorities, .ref h_se_associativities, .ref h_se_symbols, .ref h_se_letters, .int se_operands])), (h_tr, .inr (5, [.int tr_operators, .ref h_tr_roots, .ref h_tr_ranks, .ref h_tr_allowedRoots, .ref h_tr_ranksBelowRoot, .ref h_tr_results])), (h_se_symbols, .inl (gI G, 10, .inl se_symbols)), (h_tr_results, .inl (gJ G, 121, .inr (.inl tr_results))), (h_tr_roots, .inl (gI G, 121, .inl tr_roots))] := hD
    refine lv_lload hx hb dX6_evaluateSubtree_95 (lv_at hl 3 rfl) ?_
    obtain ⟨g97, h⟩ := gda h
    refine va_last hx hb hK hP hD hS 3 2 rfl rfl g97 dX6_evaluateSubtree_97 (fun H locs hP hD hS => ?_)
    have hP : va_P (gD G) vwCl [(h_se, .inr (3, [.ref h_se_priorities, .ref h_se_associativities, .ref h_se_symbols, .ref h_se_letters, .int se_operands])), (h_tr, .inr (5, [.int tr_operators, .ref h_tr_roots, .ref h_tr_ranks, .ref h_tr_allowedRoots, .ref h_tr_ranksBelowRoot, .ref h_tr_results])), (h_se_symbols, .inl (gI G, 10, .inl se_symbols)), (h_tr_results, .inl (gJ G, 121, .inr (.inl (vp_updL tr_results (Int32.toNatClampNeg o92) v9)))), (h_tr_roots, .inl (gI G, 121, .inl tr_roots))] H := hP
    have hD : va_D A [(h_se, .inr (3, [.ref h_se_priorities, .ref h_se_associativities, .ref h_se_symbols, .ref h_se_letters, .int se_operands])), (h_tr, .inr (5, [.int tr_operators, .ref h_tr_roots, .ref h_tr_ranks, .ref h_tr_allowedRoots, .ref h_tr_ranksBelowRoot, .ref h_tr_results])), (h_se_symbols, .inl (gI G, 10, .inl se_symbols)), (h_tr_results, .inl (gJ G, 121, .inr (.inl (vp_updL tr_results (Int32.toNatClampNeg o92) v9)))), (h_tr_roots, .inl (gI G, 121, .inl tr_roots))] := hD
    cases h
    exact hret (fun _ => 0) _ _ _ _ hP hD hS dX6_evaluateSubtree_98
  refine lv_aload_n hx hb dX6_evaluateSubtree_0 rfl (lv_at hl 0 rfl) ?_
  refine va_get (D := gD G) (ci := 5) (v := .ref h_tr_roots) (C := RX6) (T := TX6) (N := 6) hx hb hts lk_X6 hown hK hP 1 rfl rfl 1 (by decide) (hts _ fl_RX6_15) (fun _ h9 => h9) rfl dX6_evaluateSubtree_1 ?_
  refine lv_iload_n hx hb dX6_evaluateSubtree_4 rfl (lv_at hl 2 rfl) ?_
  refine lv_iload_n hx hb dX6_evaluateSubtree_5 rfl (lv_at hl 3 rfl) ?_
  obtain ⟨o6, e6, h⟩ := bd h
  refine Ci.SN (wr := [(h_se, .inr (3, [.ref h_se_priorities, .ref h_se_associativities, .ref h_se_symbols, .ref h_se_letters, .int se_operands])), (h_tr, .inr (5, [.int tr_operators, .ref h_tr_roots, .ref h_tr_ranks, .ref h_tr_allowedRoots, .ref h_tr_ranksBelowRoot, .ref h_tr_results])), (h_se_symbols, .inl (gI G, 10, .inl se_symbols)), (h_tr_results, .inl (gJ G, 121, .inr (.inl tr_results))), (h_tr_roots, .inl (gI G, 121, .inl tr_roots))]) (c_X7_spanIndex F l G p2 p3 H.size o6 e6) hB km_X7_spanIndex st_X7_spanIndex mn_RX6_53 hP hD hS hl [] [0, 1, 2, 3, 4] ⟨rfl, rfl, ⟨rfl, rfl⟩, by decide⟩ ⟨⟨Nat.le_of_ble_eq_true rfl, Nat.le_of_ble_eq_true rfl⟩, Nat.le_of_ble_eq_true rfl, Nat.le_of_ble_eq_true rfl, Nat.le_of_ble_eq_true rfl⟩ rfl dX6_evaluateSubtree_6 (fun z H locs hP hD hS => ?_)
  have hP : va_P (gD G) vwCl [(h_se, .inr (3, [.ref h_se_priorities, .ref h_se_associativities, .ref h_se_symbols, .ref h_se_letters, .int se_operands])), (h_tr, .inr (5, [.int tr_operators, .ref h_tr_roots, .ref h_tr_ranks, .ref h_tr_allowedRoots, .ref h_tr_ranksBelowRoot, .ref h_tr_results])), (h_se_symbols, .inl (gI G, 10, .inl se_symbols)), (h_tr_results, .inl (gJ G, 121, .inr (.inl tr_results))), (h_tr_roots, .inl (gI G, 121, .inl tr_roots))] H := hP
  have hD : va_D A [(h_se, .inr (3, [.ref h_se_priorities, .ref h_se_associativities, .ref h_se_symbols, .ref h_se_letters, .int se_operands])), (h_tr, .inr (5, [.int tr_operators, .ref h_tr_roots, .ref h_tr_ranks, .ref h_tr_allowedRoots, .ref h_tr_ranksBelowRoot, .ref h_tr_results])), (h_se_symbols, .inl (gI G, 10, .inl se_symbols)), (h_tr_results, .inl (gJ G, 121, .inr (.inl tr_results))), (h_tr_roots, .inl (gI G, 121, .inl tr_roots))] := hD
  obtain ⟨g9, h⟩ := gda h
  refine va_iald hx hb hK hP 4 1 rfl rfl g9 dX6_evaluateSubtree_9 ?_
  refine lv_istore (lv' := [(4, .int (tr_roots (Int32.toNatClampNeg o6))), (0, .ref h_tr), (1, .ref h_se), (2, .int p2), (3, .int p3)]) hx hb dX6_evaluateSubtree_10 hl (by decide) rfl (fun ls hl => ?_)
  refine lv_aload_n hx hb dX6_evaluateSubtree_12 rfl (lv_at hl 1 rfl) ?_
  refine va_get (D := gD G) (ci := 5) (v := .ref h_tr_results) (C := RX6) (T := TX6) (N := 6) hx hb hts lk_X6 hown hK hP 1 rfl rfl 5 (by decide) (hts _ fl_RX6_28) (fun _ h9 => h9) rfl dX6_evaluateSubtree_13 ?_
  refine lv_iload_n hx hb dX6_evaluateSubtree_16 rfl (lv_at hl 3 rfl) ?_
  refine lv_iload hx hb dX6_evaluateSubtree_17 (lv_at hl 0 rfl) ?_
  obtain ⟨o19, e19, h⟩ := bd h
  refine Ci.SN (wr := [(h_se, .inr (3, [.ref h_se_priorities, .ref h_se_associativities, .ref h_se_symbols, .ref h_se_letters, .int se_operands])), (h_tr, .inr (5, [.int tr_operators, .ref h_tr_roots, .ref h_tr_ranks, .ref h_tr_allowedRoots, .ref h_tr_ranksBelowRoot, .ref h_tr_results])), (h_se_symbols, .inl (gI G, 10, .inl se_symbols)), (h_tr_results, .inl (gJ G, 121, .inr (.inl tr_results))), (h_tr_roots, .inl (gI G, 121, .inl tr_roots))]) (c_X7_spanIndex F l G p2 (tr_roots (Int32.toNatClampNeg o6)) H.size o19 e19) hB km_X7_spanIndex st_X7_spanIndex mn_RX6_53 hP hD hS hl [] [0, 1, 2, 3, 4] ⟨rfl, rfl, ⟨rfl, rfl⟩, by decide⟩ ⟨⟨Nat.le_of_ble_eq_true rfl, Nat.le_of_ble_eq_true rfl⟩, Nat.le_of_ble_eq_true rfl, Nat.le_of_ble_eq_true rfl, Nat.le_of_ble_eq_true rfl⟩ rfl dX6_evaluateSubtree_19 (fun z H locs hP hD hS => ?_)
  have hP : va_P (gD G) vwCl [(h_se, .inr (3, [.ref h_se_priorities, .ref h_se_associativities, .ref h_se_symbols, .ref h_se_letters, .int se_operands])), (h_tr, .inr (5, [.int tr_operators, .ref h_tr_roots, .ref h_tr_ranks, .ref h_tr_allowedRoots, .ref h_tr_ranksBelowRoot, .ref h_tr_results])), (h_se_symbols, .inl (gI G, 10, .inl se_symbols)), (h_tr_results, .inl (gJ G, 121, .inr (.inl tr_results))), (h_tr_roots, .inl (gI G, 121, .inl tr_roots))] H := hP
  have hD : va_D A [(h_se, .inr (3, [.ref h_se_priorities, .ref h_se_associativities, .ref h_se_symbols, .ref h_se_letters, .int se_operands])), (h_tr, .inr (5, [.int tr_operators, .ref h_tr_roots, .ref h_tr_ranks, .ref h_tr_allowedRoots, .ref h_tr_ranksBelowRoot, .ref h_tr_results])), (h_se_symbols, .inl (gI G, 10, .inl se_symbols)), (h_tr_results, .inl (gJ G, 121, .inr (.inl tr_results))), (h_tr_roots, .inl (gI G, 121, .inl tr_roots))] := hD
  obtain ⟨g22, h⟩ := gda h
  refine va_lald hx hb hK hP 3 2 rfl rfl g22 dX6_evaluateSubtree_22 ?_
  refine lv_lstore (lv' := [(5, .long (tr_results (Int32.toNatClampNeg o19))), (4, .int (tr_roots (Int32.toNatClampNeg o6))), (0, .ref h_tr), (1, .ref h_se), (2, .int p2), (3, .int p3)]) hx hb dX6_evaluateSubtree_23 hl (by decide) rfl (fun ls hl => ?_)
  refine lv_aload_n hx hb dX6_evaluateSubtree_25 rfl (lv_at hl 2 rfl) ?_
  refine va_get (D := gD G) (ci := 5) (v := .ref h_tr_results) (C := RX6) (T := TX6) (N := 6) hx hb hts lk_X6 hown hK hP 1 rfl rfl 5 (by decide) (hts _ fl_RX6_28) (fun _ h9 => h9) rfl dX6_evaluateSubtree_26 ?_
  refine lv_iload hx hb dX6_evaluateSubtree_29 (lv_at hl 1 rfl) ?_
  refine lv_iconst (v := 1) hx hb dX6_evaluateSubtree_31 (by decide) ?_
  refine lv_iadd hx hb dX6_evaluateSubtree_32 ?_
  refine lv_iload_n hx hb dX6_evaluateSubtree_33 rfl (lv_at hl 5 rfl) ?_
  obtain ⟨o34, e34, h⟩ := bd h
  refine Ci.SN (wr := [(h_se, .inr (3, [.ref h_se_priorities, .ref h_se_associativities, .ref h_se_symbols, .ref h_se_letters, .int se_operands])), (h_tr, .inr (5, [.int tr_operators, .ref h_tr_roots, .ref h_tr_ranks, .ref h_tr_allowedRoots, .ref h_tr_ranksBelowRoot, .ref h_tr_results])), (h_se_symbols, .inl (gI G, 10, .inl se_symbols)), (h_tr_results, .inl (gJ G, 121, .inr (.inl tr_results))), (h_tr_roots, .inl (gI G, 121, .inl tr_roots))]) (c_X7_spanIndex F l G ((tr_roots (Int32.toNatClampNeg o6)) + 1) p3 H.size o34 e34) hB km_X7_spanIndex st_X7_spanIndex mn_RX6_53 hP hD hS hl [] [0, 1, 2, 3, 4] ⟨rfl, rfl, ⟨rfl, rfl⟩, by decide⟩ ⟨⟨Nat.le_of_ble_eq_true rfl, Nat.le_of_ble_eq_true rfl⟩, Nat.le_of_ble_eq_true rfl, Nat.le_of_ble_eq_true rfl, Nat.le_of_ble_eq_true rfl⟩ rfl dX6_evaluateSubtree_34 (fun z H locs hP hD hS => ?_)
  have hP : va_P (gD G) vwCl [(h_se, .inr (3, [.ref h_se_priorities, .ref h_se_associativities, .ref h_se_symbols, .ref h_se_letters, .int se_operands])), (h_tr, .inr (5, [.int tr_operators, .ref h_tr_roots, .ref h_tr_ranks, .ref h_tr_allowedRoots, .ref h_tr_ranksBelowRoot, .ref h_tr_results])), (h_se_symbols, .inl (gI G, 10, .inl se_symbols)), (h_tr_results, .inl (gJ G, 121, .inr (.inl tr_results))), (h_tr_roots, .inl (gI G, 121, .inl tr_roots))] H := hP
  have hD : va_D A [(h_se, .inr (3, [.ref h_se_priorities, .ref h_se_associativities, .ref h_se_symbols, .ref h_se_letters, .int se_operands])), (h_tr, .inr (5, [.int tr_operators, .ref h_tr_roots, .ref h_tr_ranks, .ref h_tr_allowedRoots, .ref h_tr_ranksBelowRoot, .ref h_tr_results])), (h_se_symbols, .inl (gI G, 10, .inl se_symbols)), (h_tr_results, .inl (gJ G, 121, .inr (.inl tr_results))), (h_tr_roots, .inl (gI G, 121, .inl tr_roots))] := hD
  obtain ⟨g37, h⟩ := gda h
  refine va_lald hx hb hK hP 3 2 rfl rfl g37 dX6_evaluateSubtree_37 ?_
  refine lv_lstore (lv' := [(7, .long (tr_results (Int32.toNatClampNeg o34))), (5, .long (tr_results (Int32.toNatClampNeg o19))), (4, .int (tr_roots (Int32.toNatClampNeg o6))), (0, .ref h_tr), (1, .ref h_se), (2, .int p2), (3, .int p3)]) hx hb dX6_evaluateSubtree_38 hl (by decide) rfl (fun ls hl => ?_)
  refine lv_lload hx hb dX6_evaluateSubtree_40 (lv_at hl 1 rfl) ?_
  obtain ⟨o42, e42, h⟩ := bd h
  refine Ci.S (wr := [(h_se, .inr (3, [.ref h_se_priorities, .ref h_se_associativities, .ref h_se_symbols, .ref h_se_letters, .int se_operands])), (h_tr, .inr (5, [.int tr_operators, .ref h_tr_roots, .ref h_tr_ranks, .ref h_tr_allowedRoots, .ref h_tr_ranksBelowRoot, .ref h_tr_results])), (h_se_symbols, .inl (gI G, 10, .inl se_symbols)), (h_tr_results, .inl (gJ G, 121, .inr (.inl tr_results))), (h_tr_roots, .inl (gI G, 121, .inl tr_roots))]) (c_X6_isFailure F l G (tr_results (Int32.toNatClampNeg o19)) H.size o42 e42) hB km_X6_isFailure st_X6_isFailure ml_RX6_101 hP hD hS hl [] [0, 1, 2, 3, 4] ⟨rfl, rfl, ⟨rfl, rfl⟩, by decide⟩ ⟨⟨Nat.le_of_ble_eq_true rfl, Nat.le_of_ble_eq_true rfl⟩, Nat.le_of_ble_eq_true rfl, Nat.le_of_ble_eq_true rfl, Nat.le_of_ble_eq_true rfl⟩ rfl dX6_evaluateSubtree_42 (fun z H locs hP hD hS => ?_)
  have hP : va_P (gD G) vwCl [(h_se, .inr (3, [.ref h_se_priorities, .ref h_se_associativities, .ref h_se_symbols, .ref h_se_letters, .int se_operands])), (h_tr, .inr (5, [.int tr_operators, .ref h_tr_roots, .ref h_tr_ranks, .ref h_tr_allowedRoots, .ref h_tr_ranksBelowRoot, .ref h_tr_results])), (h_se_symbols, .inl (gI G, 10, .inl se_symbols)), (h_tr_results, .inl (gJ G, 121, .inr (.inl tr_results))), (h_tr_roots, .inl (gI G, 121, .inl tr_roots))] H := hP
  have hD : va_D A [(h_se, .inr (3, [.ref h_se_priorities, .ref h_se_associativities, .ref h_se_symbols, .ref h_se_letters, .int se_operands])), (h_tr, .inr (5, [.int tr_operators, .ref h_tr_roots, .ref h_tr_ranks, .ref h_tr_allowedRoots, .ref h_tr_ranksBelowRoot, .ref h_tr_results])), (h_se_symbols, .inl (gI G, 10, .inl se_symbols)), (h_tr_results, .inl (gJ G, 121, .inr (.inl tr_results))), (h_tr_roots, .inl (gI G, 121, .inl tr_roots))] := hD
  refine lv_if_eq (tgt := 55) hx hb dX6_evaluateSubtree_45 (by decide) (fun c45 => ?_) (fun c45 => ?_)
  · have h := ip c45 h
    refine lv_lload hx hb dX6_evaluateSubtree_55 (lv_at hl 0 rfl) ?_
    obtain ⟨o57, e57, h⟩ := bd h
    refine Ci.S (wr := [(h_se, .inr (3, [.ref h_se_priorities, .ref h_se_associativities, .ref h_se_symbols, .ref h_se_letters, .int se_operands])), (h_tr, .inr (5, [.int tr_operators, .ref h_tr_roots, .ref h_tr_ranks, .ref h_tr_allowedRoots, .ref h_tr_ranksBelowRoot, .ref h_tr_results])), (h_se_symbols, .inl (gI G, 10, .inl se_symbols)), (h_tr_results, .inl (gJ G, 121, .inr (.inl tr_results))), (h_tr_roots, .inl (gI G, 121, .inl tr_roots))]) (c_X6_isFailure F l G (tr_results (Int32.toNatClampNeg o34)) H.size o57 e57) hB km_X6_isFailure st_X6_isFailure ml_RX6_101 hP hD hS hl [] [0, 1, 2, 3, 4] ⟨rfl, rfl, ⟨rfl, rfl⟩, by decide⟩ ⟨⟨Nat.le_of_ble_eq_true rfl, Nat.le_of_ble_eq_true rfl⟩, Nat.le_of_ble_eq_true rfl, Nat.le_of_ble_eq_true rfl, Nat.le_of_ble_eq_true rfl⟩ rfl dX6_evaluateSubtree_57 (fun z H locs hP hD hS => ?_)
    have hP : va_P (gD G) vwCl [(h_se, .inr (3, [.ref h_se_priorities, .ref h_se_associativities, .ref h_se_symbols, .ref h_se_letters, .int se_operands])), (h_tr, .inr (5, [.int tr_operators, .ref h_tr_roots, .ref h_tr_ranks, .ref h_tr_allowedRoots, .ref h_tr_ranksBelowRoot, .ref h_tr_results])), (h_se_symbols, .inl (gI G, 10, .inl se_symbols)), (h_tr_results, .inl (gJ G, 121, .inr (.inl tr_results))), (h_tr_roots, .inl (gI G, 121, .inl tr_roots))] H := hP
    have hD : va_D A [(h_se, .inr (3, [.ref h_se_priorities, .ref h_se_associativities, .ref h_se_symbols, .ref h_se_letters, .int se_operands])), (h_tr, .inr (5, [.int tr_operators, .ref h_tr_roots, .ref h_tr_ranks, .ref h_tr_allowedRoots, .ref h_tr_ranksBelowRoot, .ref h_tr_results])), (h_se_symbols, .inl (gI G, 10, .inl se_symbols)), (h_tr_results, .inl (gJ G, 121, .inr (.inl tr_results))), (h_tr_roots, .inl (gI G, 121, .inl tr_roots))] := hD
    refine lv_if_eq (tgt := 70) hx hb dX6_evaluateSubtree_60 (by decide) (fun c60 => ?_) (fun c60 => ?_)
    · have h := ip c60 h
      refine lv_aload_n hx hb dX6_evaluateSubtree_70 rfl (lv_at hl 4 rfl) ?_
      refine va_getN (D := gD G) (ci := 3) (v := .ref h_se_symbols) (C := RX4) (T := TX4) (N := 5) hx hb hts lk_X4 hown hK hP 0 rfl rfl 2 (by decide) (va_Nw.use rfl (hN _ fn_RX6_105)) (fun _ h9 => h9) rfl dX6_evaluateSubtree_71 ?_
      refine lv_iload hx hb dX6_evaluateSubtree_74 (lv_at hl 2 rfl) ?_
      obtain ⟨g76, h⟩ := gda h
      refine va_iald hx hb hK hP 2 1 rfl rfl g76 dX6_evaluateSubtree_76 ?_
      refine lv_lload hx hb dX6_evaluateSubtree_77 (lv_at hl 1 rfl) ?_
      refine lv_lload hx hb dX6_evaluateSubtree_79 (lv_at hl 0 rfl) ?_
      obtain ⟨o81, e81, h⟩ := bd h
      refine Cl.S (wr := [(h_se, .inr (3, [.ref h_se_priorities, .ref h_se_associativities, .ref h_se_symbols, .ref h_se_letters, .int se_operands])), (h_tr, .inr (5, [.int tr_operators, .ref h_tr_roots, .ref h_tr_ranks, .ref h_tr_allowedRoots, .ref h_tr_ranksBelowRoot, .ref h_tr_results])), (h_se_symbols, .inl (gI G, 10, .inl se_symbols)), (h_tr_results, .inl (gJ G, 121, .inr (.inl tr_results))), (h_tr_roots, .inl (gI G, 121, .inl tr_roots))]) (c_X6_combine F l G (se_symbols (Int32.toNatClampNeg (tr_roots (Int32.toNatClampNeg o6)))) (tr_results (Int32.toNatClampNeg o19)) (tr_results (Int32.toNatClampNeg o34)) H.size o81 e81) hB km_X6_combine st_X6_combine ml_RX6_108 hP hD hS hl [] [0, 1, 2, 3, 4] ⟨rfl, rfl, ⟨rfl, rfl⟩, by decide⟩ ⟨⟨Nat.le_of_ble_eq_true rfl, Nat.le_of_ble_eq_true rfl⟩, Nat.le_of_ble_eq_true rfl, Nat.le_of_ble_eq_true rfl, Nat.le_of_ble_eq_true rfl⟩ rfl dX6_evaluateSubtree_81 (fun z H locs hP hD hS => ?_)
      have hP : va_P (gD G) vwCl [(h_se, .inr (3, [.ref h_se_priorities, .ref h_se_associativities, .ref h_se_symbols, .ref h_se_letters, .int se_operands])), (h_tr, .inr (5, [.int tr_operators, .ref h_tr_roots, .ref h_tr_ranks, .ref h_tr_allowedRoots, .ref h_tr_ranksBelowRoot, .ref h_tr_results])), (h_se_symbols, .inl (gI G, 10, .inl se_symbols)), (h_tr_results, .inl (gJ G, 121, .inr (.inl tr_results))), (h_tr_roots, .inl (gI G, 121, .inl tr_roots))] H := hP
      have hD : va_D A [(h_se, .inr (3, [.ref h_se_priorities, .ref h_se_associativities, .ref h_se_symbols, .ref h_se_letters, .int se_operands])), (h_tr, .inr (5, [.int tr_operators, .ref h_tr_roots, .ref h_tr_ranks, .ref h_tr_allowedRoots, .ref h_tr_ranksBelowRoot, .ref h_tr_results])), (h_se_symbols, .inl (gI G, 10, .inl se_symbols)), (h_tr_results, .inl (gJ G, 121, .inr (.inl tr_results))), (h_tr_roots, .inl (gI G, 121, .inl tr_roots))] := hD
      refine lv_lstore (lv' := [(9, .long o81), (7, .long (tr_results (Int32.toNatClampNeg o34))), (5, .long (tr_results (Int32.toNatClampNeg o19))), (4, .int (tr_roots (Int32.toNatClampNeg o6))), (0, .ref h_tr), (1, .ref h_se), (2, .int p2), (3, .int p3)]) hx hb dX6_evaluateSubtree_84 hl (by decide) rfl (fun ls hl => ?_)
      exact Bk86 p2 p3 o81 tr_results H locs ls hP hD hS (lv_sub hl [4, 6, 7, 0] rfl) h
    · have h := ing c60 h
      refine lv_lload hx hb dX6_evaluateSubtree_63 (lv_at hl 0 rfl) ?_
      refine lv_lstore (lv' := [(9, .long (tr_results (Int32.toNatClampNeg o34))), (7, .long (tr_results (Int32.toNatClampNeg o34))), (5, .long (tr_results (Int32.toNatClampNeg o19))), (4, .int (tr_roots (Int32.toNatClampNeg o6))), (0, .ref h_tr), (1, .ref h_se), (2, .int p2), (3, .int p3)]) hx hb dX6_evaluateSubtree_65 hl (by decide) rfl (fun ls hl => ?_)
      refine lv_goto (tgt := 86) hx hb dX6_evaluateSubtree_67 (by decide) ?_
      exact Bk86 p2 p3 (tr_results (Int32.toNatClampNeg o34)) tr_results H locs ls hP hD hS (lv_sub hl [4, 6, 7, 0] rfl) h
  · have h := ing c45 h
    refine lv_lload hx hb dX6_evaluateSubtree_48 (lv_at hl 1 rfl) ?_
    refine lv_lstore (lv' := [(9, .long (tr_results (Int32.toNatClampNeg o19))), (7, .long (tr_results (Int32.toNatClampNeg o34))), (5, .long (tr_results (Int32.toNatClampNeg o19))), (4, .int (tr_roots (Int32.toNatClampNeg o6))), (0, .ref h_tr), (1, .ref h_se), (2, .int p2), (3, .int p3)]) hx hb dX6_evaluateSubtree_50 hl (by decide) rfl (fun ls hl => ?_)
    refine lv_goto (tgt := 86) hx hb dX6_evaluateSubtree_52 (by decide) ?_
    exact Bk86 p2 p3 (tr_results (Int32.toNatClampNeg o19)) tr_results H locs ls hP hD hS (lv_sub hl [4, 6, 7, 0] rfl) h
abbrev rm_X6_evaluate : Room := { frames := 3, cells := 0, slots := 0, locals := 75 }
theorem km_X6_evaluate : KM yX6_evaluate cX6_evaluate 5 (some .long) 2 := ⟨co_X6_evaluate, in_RX6, by decide +kernel⟩
set_option maxHeartbeats 4000000 in
set_option maxRecDepth 100000 in
theorem c_X6_evaluate (F : Nat) (l : Launch) (G : GT) (h_se h_se_priorities h_se_associativities h_se_symbols h_se_letters h_tr h_tr_roots h_tr_ranks h_tr_allowedRoots h_tr_ranksBelowRoot h_tr_results h_av : Nat) (se_operands : Int32) (tr_operators : Int32) (av : Nat → Int32) (se_letters : Nat → Int32) (se_symbols : Nat → Int32) (tr_ranks : Nat → Int32) (tr_results : Nat → Int64) (tr_roots : Nat → Int32) (sz : Nat) (out : Int64 × (Nat → Int64)) (h : f_X6_evaluate F av se_letters se_symbols tr_operators tr_ranks tr_results tr_roots = some out) : Cl G l yX6_evaluate cX6_evaluate 5 (some .long) rm_X6_evaluate [.ref h_tr, .ref h_se, .ref h_av] [(h_se, .inr (3, [.ref h_se_priorities, .ref h_se_associativities, .ref h_se_symbols, .ref h_se_letters, .int se_operands])), (h_tr, .inr (5, [.int tr_operators, .ref h_tr_roots, .ref h_tr_ranks, .ref h_tr_allowedRoots, .ref h_tr_ranksBelowRoot, .ref h_tr_results])), (h_av, .inl (gI G, 26, .inl av)), (h_se_letters, .inl (gI G, 11, .inl se_letters)), (h_se_symbols, .inl (gI G, 10, .inl se_symbols)), (h_tr_ranks, .inl (gI G, 121, .inl tr_ranks)), (h_tr_results, .inl (gJ G, 121, .inr (.inl tr_results))), (h_tr_roots, .inl (gI G, 121, .inl tr_roots))] sz (out.1) (fun _ => [(h_se, .inr (3, [.ref h_se_priorities, .ref h_se_associativities, .ref h_se_symbols, .ref h_se_letters, .int se_operands])), (h_tr, .inr (5, [.int tr_operators, .ref h_tr_roots, .ref h_tr_ranks, .ref h_tr_allowedRoots, .ref h_tr_ranksBelowRoot, .ref h_tr_results])), (h_av, .inl (gI G, 26, .inl av)), (h_se_letters, .inl (gI G, 11, .inl se_letters)), (h_se_symbols, .inl (gI G, 10, .inl se_symbols)), (h_tr_ranks, .inl (gI G, 121, .inl tr_ranks)), (h_tr_results, .inl (gJ G, 121, .inr (.inl (out.2)))), (h_tr_roots, .inl (gI G, 121, .inl tr_roots))]) := by
  refine Cl.start (by decide) (Nat.le_of_ble_eq_true rfl) ?_
  intro p e s m args below meth c A Q H locs ls hB hP hD hS hl hret
  obtain ⟨hx, hb, hmL, hr, hown, hts, hlocks, hnm, hA, hE⟩ := id hB
  obtain ⟨hK, hN, hV, hR, hZ, hZq, hAO⟩ := id hE
  have hown : s.vm.findClass RX6 = some m.cls := hown
  have hl : lv_has ls 5 [(0, .ref h_tr), (1, .ref h_se), (2, .ref h_av)] := hl
  rw [f_X6_evaluate] at h
  refine lv_iconst (v := 0) hx hb dX6_evaluate_0 (by decide) ?_
  refine lv_istore_n (lv' := [(3, .int 0), (0, .ref h_tr), (1, .ref h_se), (2, .ref h_av)]) hx hb dX6_evaluate_1 rfl hl (by decide) rfl (fun ls hl => ?_)
  have Lp2 : ∀ (n : Nat) (v3 : Int32) (tr_results : Nat → Int64) (X : (Nat → Int64) → Option (Int64 × (Nat → Int64))) (H : Heap) (locs : List Loc) (ls : Array Slot), va_P (gD G) vwCl [(h_se, .inr (3, [.ref h_se_priorities, .ref h_se_associativities, .ref h_se_symbols, .ref h_se_letters, .int se_operands])), (h_tr, .inr (5, [.int tr_operators, .ref h_tr_roots, .ref h_tr_ranks, .ref h_tr_allowedRoots, .ref h_tr_ranksBelowRoot, .ref h_tr_results])), (h_av, .inl (gI G, 26, .inl av)), (h_se_letters, .inl (gI G, 11, .inl se_letters)), (h_se_symbols, .inl (gI G, 10, .inl se_symbols)), (h_tr_ranks, .inl (gI G, 121, .inl tr_ranks)), (h_tr_results, .inl (gJ G, 121, .inr (.inl tr_results))), (h_tr_roots, .inl (gI G, 121, .inl tr_roots))] H → va_D A [(h_se, .inr (3, [.ref h_se_priorities, .ref h_se_associativities, .ref h_se_symbols, .ref h_se_letters, .int se_operands])), (h_tr, .inr (5, [.int tr_operators, .ref h_tr_roots, .ref h_tr_ranks, .ref h_tr_allowedRoots, .ref h_tr_ranksBelowRoot, .ref h_tr_results])), (h_av, .inl (gI G, 26, .inl av)), (h_se_letters, .inl (gI G, 11, .inl se_letters)), (h_se_symbols, .inl (gI G, 10, .inl se_symbols)), (h_tr_ranks, .inl (gI G, 121, .inl tr_ranks)), (h_tr_results, .inl (gJ G, 121, .inr (.inl tr_results))), (h_tr_roots, .inl (gI G, 121, .inl tr_roots))] → va_S A s.heap H locs → lv_has ls 5 [(0, .ref h_tr), (1, .ref h_se), (2, .ref h_av), (3, .int v3)] → f_X6_evaluate_l2 F av se_letters tr_operators n v3 tr_results X = some out → (∀ (tr_results : Nat → Int64) (H : Heap) (locs : List Loc) (ls : Array Slot), va_P (gD G) vwCl [(h_se, .inr (3, [.ref h_se_priorities, .ref h_se_associativities, .ref h_se_symbols, .ref h_se_letters, .int se_operands])), (h_tr, .inr (5, [.int tr_operators, .ref h_tr_roots, .ref h_tr_ranks, .ref h_tr_allowedRoots, .ref h_tr_ranksBelowRoot, .ref h_tr_results])), (h_av, .inl (gI G, 26, .inl av)), (h_se_letters, .inl (gI G, 11, .inl se_letters)), (h_se_symbols, .inl (gI G, 10, .inl se_symbols)), (h_tr_ranks, .inl (gI G, 121, .inl tr_ranks)), (h_tr_results, .inl (gJ G, 121, .inr (.inl tr_results))), (h_tr_roots, .inl (gI G, 121, .inl tr_roots))] H → va_D A [(h_se, .inr (3, [.ref h_se_priorities, .ref h_se_associativities, .ref h_se_symbols, .ref h_se_letters, .int se_operands])), (h_tr, .inr (5, [.int tr_operators, .ref h_tr_roots, .ref h_tr_ranks, .ref h_tr_allowedRoots, .ref h_tr_ranksBelowRoot, .ref h_tr_results])), (h_av, .inl (gI G, 26, .inl av)), (h_se_letters, .inl (gI G, 11, .inl se_letters)), (h_se_symbols, .inl (gI G, 10, .inl se_symbols)), (h_tr_ranks, .inl (gI G, 121, .inl tr_ranks)), (h_tr_results, .inl (gJ G, 121, .inr (.inl tr_results))), (h_tr_roots, .inl (gI G, 121, .inl tr_roots))] → va_S A s.heap H locs → lv_has ls 5 [(0, .ref h_tr), (1, .ref h_se)] → X tr_results = some out → W p l e rm_X6_evaluate s m args below meth c H locs 0 0 Q (F0 m 35 ls [])) → W p l e rm_X6_evaluate s m args below meth c H locs 0 0 Q (F0 m 2 ls []) := by
    intro n
    induction n with
    | zero => intro v3 tr_results X H locs ls hP hD hS hl h HX; rw [f_X6_evaluate_l2] at h; cases h
    | succ n ih =>
        intro v3 tr_results X H locs ls hP hD hS hl h HX
        rw [f_X6_evaluate_l2] at h
        refine lv_iload_n hx hb dX6_evaluate_2 rfl (lv_at hl 3 rfl) ?_
        refine lv_aload_n hx hb dX6_evaluate_3 rfl (lv_at hl 0 rfl) ?_
        refine va_get (D := gD G) (ci := 5) (v := .int tr_operators) (C := RX6) (T := TX6) (N := 6) hx hb hts lk_X6 hown hK hP 1 rfl rfl 0 (by decide) (hts _ fl_RX6_9) (fun _ h9 => h9) rfl dX6_evaluate_4 ?_
        refine lv_icmp_gt (tgt := 35) hx hb dX6_evaluate_7 (by decide) (fun c7 => ?_) (fun c7 => ?_)
        · have h := ip c7 h
          exact HX tr_results H locs ls hP hD hS (lv_sub hl [0, 1] rfl) h
        · have h := ing c7 h
          refine lv_aload_n hx hb dX6_evaluate_10 rfl (lv_at hl 0 rfl) ?_
          refine va_get (D := gD G) (ci := 5) (v := .ref h_tr_results) (C := RX6) (T := TX6) (N := 6) hx hb hts lk_X6 hown hK hP 1 rfl rfl 5 (by decide) (hts _ fl_RX6_28) (fun _ h9 => h9) rfl dX6_evaluate_11 ?_
          refine lv_iload_n hx hb dX6_evaluate_14 rfl (lv_at hl 3 rfl) ?_
          refine lv_iload_n hx hb dX6_evaluate_15 rfl (lv_at hl 3 rfl) ?_
          obtain ⟨o16, e16, h⟩ := bd h
          refine Ci.SN (wr := [(h_se, .inr (3, [.ref h_se_priorities, .ref h_se_associativities, .ref h_se_symbols, .ref h_se_letters, .int se_operands])), (h_tr, .inr (5, [.int tr_operators, .ref h_tr_roots, .ref h_tr_ranks, .ref h_tr_allowedRoots, .ref h_tr_ranksBelowRoot, .ref h_tr_results])), (h_av, .inl (gI G, 26, .inl av)), (h_se_letters, .inl (gI G, 11, .inl se_letters)), (h_se_symbols, .inl (gI G, 10, .inl se_symbols)), (h_tr_ranks, .inl (gI G, 121, .inl tr_ranks)), (h_tr_results, .inl (gJ G, 121, .inr (.inl tr_results))), (h_tr_roots, .inl (gI G, 121, .inl tr_roots))]) (c_X7_spanIndex F l G v3 v3 H.size o16 e16) hB km_X7_spanIndex st_X7_spanIndex mn_RX6_53 hP hD hS hl [] [0, 1, 2, 3, 4, 5, 6, 7] ⟨rfl, rfl, ⟨rfl, rfl⟩, by decide⟩ ⟨⟨Nat.le_of_ble_eq_true rfl, Nat.le_of_ble_eq_true rfl⟩, Nat.le_of_ble_eq_true rfl, Nat.le_of_ble_eq_true rfl, Nat.le_of_ble_eq_true rfl⟩ rfl dX6_evaluate_16 (fun z H locs hP hD hS => ?_)
          have hP : va_P (gD G) vwCl [(h_se, .inr (3, [.ref h_se_priorities, .ref h_se_associativities, .ref h_se_symbols, .ref h_se_letters, .int se_operands])), (h_tr, .inr (5, [.int tr_operators, .ref h_tr_roots, .ref h_tr_ranks, .ref h_tr_allowedRoots, .ref h_tr_ranksBelowRoot, .ref h_tr_results])), (h_av, .inl (gI G, 26, .inl av)), (h_se_letters, .inl (gI G, 11, .inl se_letters)), (h_se_symbols, .inl (gI G, 10, .inl se_symbols)), (h_tr_ranks, .inl (gI G, 121, .inl tr_ranks)), (h_tr_results, .inl (gJ G, 121, .inr (.inl tr_results))), (h_tr_roots, .inl (gI G, 121, .inl tr_roots))] H := hP
          have hD : va_D A [(h_se, .inr (3, [.ref h_se_priorities, .ref h_se_associativities, .ref h_se_symbols, .ref h_se_letters, .int se_operands])), (h_tr, .inr (5, [.int tr_operators, .ref h_tr_roots, .ref h_tr_ranks, .ref h_tr_allowedRoots, .ref h_tr_ranksBelowRoot, .ref h_tr_results])), (h_av, .inl (gI G, 26, .inl av)), (h_se_letters, .inl (gI G, 11, .inl se_letters)), (h_se_symbols, .inl (gI G, 10, .inl se_symbols)), (h_tr_ranks, .inl (gI G, 121, .inl tr_ranks)), (h_tr_results, .inl (gJ G, 121, .inr (.inl tr_results))), (h_tr_roots, .inl (gI G, 121, .inl tr_roots))] := hD
          refine lv_aload_n hx hb dX6_evaluate_19 rfl (lv_at hl 2 rfl) ?_
          refine lv_aload_n hx hb dX6_evaluate_20 rfl (lv_at hl 1 rfl) ?_
          refine va_getN (D := gD G) (ci := 3) (v := .ref h_se_letters) (C := RX4) (T := TX4) (N := 5) hx hb hts lk_X4 hown hK hP 0 rfl rfl 3 (by decide) (va_Nw.use rfl (hN _ fn_RX6_92)) (fun _ h9 => h9) rfl dX6_evaluate_21 ?_
          refine lv_iload_n hx hb dX6_evaluate_24 rfl (lv_at hl 3 rfl) ?_
          obtain ⟨g25, h⟩ := gda h
          refine va_iald hx hb hK hP 3 1 rfl rfl g25 dX6_evaluate_25 ?_
          obtain ⟨g26, h⟩ := gda h
          refine va_iald hx hb hK hP 2 1 rfl rfl g26 dX6_evaluate_26 ?_
          refine lv_i2l hx hb dX6_evaluate_27 rfl ?_
          obtain ⟨g28, h⟩ := gda h
          refine va_last hx hb hK hP hD hS 6 2 rfl rfl g28 dX6_evaluate_28 (fun H locs hP hD hS => ?_)
          have hP : va_P (gD G) vwCl [(h_se, .inr (3, [.ref h_se_priorities, .ref h_se_associativities, .ref h_se_symbols, .ref h_se_letters, .int se_operands])), (h_tr, .inr (5, [.int tr_operators, .ref h_tr_roots, .ref h_tr_ranks, .ref h_tr_allowedRoots, .ref h_tr_ranksBelowRoot, .ref h_tr_results])), (h_av, .inl (gI G, 26, .inl av)), (h_se_letters, .inl (gI G, 11, .inl se_letters)), (h_se_symbols, .inl (gI G, 10, .inl se_symbols)), (h_tr_ranks, .inl (gI G, 121, .inl tr_ranks)), (h_tr_results, .inl (gJ G, 121, .inr (.inl (vp_updL tr_results (Int32.toNatClampNeg o16) (Int32.toInt64 (av (Int32.toNatClampNeg (se_letters (Int32.toNatClampNeg v3))))))))), (h_tr_roots, .inl (gI G, 121, .inl tr_roots))] H := hP
          have hD : va_D A [(h_se, .inr (3, [.ref h_se_priorities, .ref h_se_associativities, .ref h_se_symbols, .ref h_se_letters, .int se_operands])), (h_tr, .inr (5, [.int tr_operators, .ref h_tr_roots, .ref h_tr_ranks, .ref h_tr_allowedRoots, .ref h_tr_ranksBelowRoot, .ref h_tr_results])), (h_av, .inl (gI G, 26, .inl av)), (h_se_letters, .inl (gI G, 11, .inl se_letters)), (h_se_symbols, .inl (gI G, 10, .inl se_symbols)), (h_tr_ranks, .inl (gI G, 121, .inl tr_ranks)), (h_tr_results, .inl (gJ G, 121, .inr (.inl (vp_updL tr_results (Int32.toNatClampNeg o16) (Int32.toInt64 (av (Int32.toNatClampNeg (se_letters (Int32.toNatClampNeg v3))))))))), (h_tr_roots, .inl (gI G, 121, .inl tr_roots))] := hD
          refine lv_iinc (v := (v3 + 1)) (lv' := [(3, .int (v3 + 1)), (0, .ref h_tr), (1, .ref h_se), (2, .ref h_av)]) hx hb dX6_evaluate_29 hl (k := 3) rfl rfl (by decide) rfl (fun ls hl => ?_)
          refine lv_goto (tgt := 2) hx hb dX6_evaluate_32 (by decide) ?_
          exact ih (v3 + 1) (vp_updL tr_results (Int32.toNatClampNeg o16) (Int32.toInt64 (av (Int32.toNatClampNeg (se_letters (Int32.toNatClampNeg v3)))))) X H locs ls hP hD hS (lv_sub hl [1, 2, 3, 0] rfl) h HX
  refine Lp2 F 0 tr_results _ H locs ls hP hD hS (lv_sub hl [1, 2, 3, 0] rfl) h (fun tr_results H locs ls hP hD hS hl h => ?_)
  refine lv_iconst (v := 1) hx hb dX6_evaluate_35 (by decide) ?_
  refine lv_istore_n (lv' := [(3, .int 1), (0, .ref h_tr), (1, .ref h_se)]) hx hb dX6_evaluate_36 rfl hl (by decide) rfl (fun ls hl => ?_)
  have Lp37 : ∀ (n : Nat) (v3 : Int32) (tr_results : Nat → Int64) (X : (Nat → Int64) → Option (Int64 × (Nat → Int64))) (H : Heap) (locs : List Loc) (ls : Array Slot), va_P (gD G) vwCl [(h_se, .inr (3, [.ref h_se_priorities, .ref h_se_associativities, .ref h_se_symbols, .ref h_se_letters, .int se_operands])), (h_tr, .inr (5, [.int tr_operators, .ref h_tr_roots, .ref h_tr_ranks, .ref h_tr_allowedRoots, .ref h_tr_ranksBelowRoot, .ref h_tr_results])), (h_av, .inl (gI G, 26, .inl av)), (h_se_letters, .inl (gI G, 11, .inl se_letters)), (h_se_symbols, .inl (gI G, 10, .inl se_symbols)), (h_tr_ranks, .inl (gI G, 121, .inl tr_ranks)), (h_tr_results, .inl (gJ G, 121, .inr (.inl tr_results))), (h_tr_roots, .inl (gI G, 121, .inl tr_roots))] H → va_D A [(h_se, .inr (3, [.ref h_se_priorities, .ref h_se_associativities, .ref h_se_symbols, .ref h_se_letters, .int se_operands])), (h_tr, .inr (5, [.int tr_operators, .ref h_tr_roots, .ref h_tr_ranks, .ref h_tr_allowedRoots, .ref h_tr_ranksBelowRoot, .ref h_tr_results])), (h_av, .inl (gI G, 26, .inl av)), (h_se_letters, .inl (gI G, 11, .inl se_letters)), (h_se_symbols, .inl (gI G, 10, .inl se_symbols)), (h_tr_ranks, .inl (gI G, 121, .inl tr_ranks)), (h_tr_results, .inl (gJ G, 121, .inr (.inl tr_results))), (h_tr_roots, .inl (gI G, 121, .inl tr_roots))] → va_S A s.heap H locs → lv_has ls 5 [(0, .ref h_tr), (1, .ref h_se), (3, .int v3)] → f_X6_evaluate_l37 F se_symbols tr_operators tr_ranks tr_roots n v3 tr_results X = some out → (∀ (tr_results : Nat → Int64) (H : Heap) (locs : List Loc) (ls : Array Slot), va_P (gD G) vwCl [(h_se, .inr (3, [.ref h_se_priorities, .ref h_se_associativities, .ref h_se_symbols, .ref h_se_letters, .int se_operands])), (h_tr, .inr (5, [.int tr_operators, .ref h_tr_roots, .ref h_tr_ranks, .ref h_tr_allowedRoots, .ref h_tr_ranksBelowRoot, .ref h_tr_results])), (h_av, .inl (gI G, 26, .inl av)), (h_se_letters, .inl (gI G, 11, .inl se_letters)), (h_se_symbols, .inl (gI G, 10, .inl se_symbols)), (h_tr_ranks, .inl (gI G, 121, .inl tr_ranks)), (h_tr_results, .inl (gJ G, 121, .inr (.inl tr_results))), (h_tr_roots, .inl (gI G, 121, .inl tr_roots))] H → va_D A [(h_se, .inr (3, [.ref h_se_priorities, .ref h_se_associativities, .ref h_se_symbols, .ref h_se_letters, .int se_operands])), (h_tr, .inr (5, [.int tr_operators, .ref h_tr_roots, .ref h_tr_ranks, .ref h_tr_allowedRoots, .ref h_tr_ranksBelowRoot, .ref h_tr_results])), (h_av, .inl (gI G, 26, .inl av)), (h_se_letters, .inl (gI G, 11, .inl se_letters)), (h_se_symbols, .inl (gI G, 10, .inl se_symbols)), (h_tr_ranks, .inl (gI G, 121, .inl tr_ranks)), (h_tr_results, .inl (gJ G, 121, .inr (.inl tr_results))), (h_tr_roots, .inl (gI G, 121, .inl tr_roots))] → va_S A s.heap H locs → lv_has ls 5 [(0, .ref h_tr)] → X tr_results = some out → W p l e rm_X6_evaluate s m args below meth c H locs 0 0 Q (F0 m 95 ls [])) → W p l e rm_X6_evaluate s m args below meth c H locs 0 0 Q (F0 m 37 ls []) := by
    intro n
    induction n with
    | zero => intro v3 tr_results X H locs ls hP hD hS hl h HX; rw [f_X6_evaluate_l37] at h; cases h
    | succ n ih =>
        intro v3 tr_results X H locs ls hP hD hS hl h HX
        rw [f_X6_evaluate_l37] at h
        refine lv_iload_n hx hb dX6_evaluate_37 rfl (lv_at hl 2 rfl) ?_
        refine lv_aload_n hx hb dX6_evaluate_38 rfl (lv_at hl 0 rfl) ?_
        refine va_get (D := gD G) (ci := 5) (v := .int tr_operators) (C := RX6) (T := TX6) (N := 6) hx hb hts lk_X6 hown hK hP 1 rfl rfl 0 (by decide) (hts _ fl_RX6_9) (fun _ h9 => h9) rfl dX6_evaluate_39 ?_
        refine lv_icmp_gt (tgt := 95) hx hb dX6_evaluate_42 (by decide) (fun c42 => ?_) (fun c42 => ?_)
        · have h := ip c42 h
          exact HX tr_results H locs ls hP hD hS (lv_sub hl [0] rfl) h
        · have h := ing c42 h
          refine lv_iconst (v := 0) hx hb dX6_evaluate_45 (by decide) ?_
          refine lv_istore (lv' := [(4, .int 0), (0, .ref h_tr), (1, .ref h_se), (3, .int v3)]) hx hb dX6_evaluate_46 hl (by decide) rfl (fun ls hl => ?_)
          have Lp48 : ∀ (n : Nat) (v3 : Int32) (v4 : Int32) (tr_results : Nat → Int64) (X : (Nat → Int64) → Option (Int64 × (Nat → Int64))) (H : Heap) (locs : List Loc) (ls : Array Slot), va_P (gD G) vwCl [(h_se, .inr (3, [.ref h_se_priorities, .ref h_se_associativities, .ref h_se_symbols, .ref h_se_letters, .int se_operands])), (h_tr, .inr (5, [.int tr_operators, .ref h_tr_roots, .ref h_tr_ranks, .ref h_tr_allowedRoots, .ref h_tr_ranksBelowRoot, .ref h_tr_results])), (h_av, .inl (gI G, 26, .inl av)), (h_se_letters, .inl (gI G, 11, .inl se_letters)), (h_se_symbols, .inl (gI G, 10, .inl se_symbols)), (h_tr_ranks, .inl (gI G, 121, .inl tr_ranks)), (h_tr_results, .inl (gJ G, 121, .inr (.inl tr_results))), (h_tr_roots, .inl (gI G, 121, .inl tr_roots))] H → va_D A [(h_se, .inr (3, [.ref h_se_priorities, .ref h_se_associativities, .ref h_se_symbols, .ref h_se_letters, .int se_operands])), (h_tr, .inr (5, [.int tr_operators, .ref h_tr_roots, .ref h_tr_ranks, .ref h_tr_allowedRoots, .ref h_tr_ranksBelowRoot, .ref h_tr_results])), (h_av, .inl (gI G, 26, .inl av)), (h_se_letters, .inl (gI G, 11, .inl se_letters)), (h_se_symbols, .inl (gI G, 10, .inl se_symbols)), (h_tr_ranks, .inl (gI G, 121, .inl tr_ranks)), (h_tr_results, .inl (gJ G, 121, .inr (.inl tr_results))), (h_tr_roots, .inl (gI G, 121, .inl tr_roots))] → va_S A s.heap H locs → lv_has ls 5 [(0, .ref h_tr), (1, .ref h_se), (3, .int v3), (4, .int v4)] → f_X6_evaluate_l48 F v3 se_symbols tr_operators tr_ranks tr_roots n v4 tr_results X = some out → (∀ (tr_results : Nat → Int64) (H : Heap) (locs : List Loc) (ls : Array Slot), va_P (gD G) vwCl [(h_se, .inr (3, [.ref h_se_priorities, .ref h_se_associativities, .ref h_se_symbols, .ref h_se_letters, .int se_operands])), (h_tr, .inr (5, [.int tr_operators, .ref h_tr_roots, .ref h_tr_ranks, .ref h_tr_allowedRoots, .ref h_tr_ranksBelowRoot, .ref h_tr_results])), (h_av, .inl (gI G, 26, .inl av)), (h_se_letters, .inl (gI G, 11, .inl se_letters)), (h_se_symbols, .inl (gI G, 10, .inl se_symbols)), (h_tr_ranks, .inl (gI G, 121, .inl tr_ranks)), (h_tr_results, .inl (gJ G, 121, .inr (.inl tr_results))), (h_tr_roots, .inl (gI G, 121, .inl tr_roots))] H → va_D A [(h_se, .inr (3, [.ref h_se_priorities, .ref h_se_associativities, .ref h_se_symbols, .ref h_se_letters, .int se_operands])), (h_tr, .inr (5, [.int tr_operators, .ref h_tr_roots, .ref h_tr_ranks, .ref h_tr_allowedRoots, .ref h_tr_ranksBelowRoot, .ref h_tr_results])), (h_av, .inl (gI G, 26, .inl av)), (h_se_letters, .inl (gI G, 11, .inl se_letters)), (h_se_symbols, .inl (gI G, 10, .inl se_symbols)), (h_tr_ranks, .inl (gI G, 121, .inl tr_ranks)), (h_tr_results, .inl (gJ G, 121, .inr (.inl tr_results))), (h_tr_roots, .inl (gI G, 121, .inl tr_roots))] → va_S A s.heap H locs → lv_has ls 5 [(0, .ref h_tr), (1, .ref h_se), (3, .int v3)] → X tr_results = some out → W p l e rm_X6_evaluate s m args below meth c H locs 0 0 Q (F0 m 89 ls [])) → W p l e rm_X6_evaluate s m args below meth c H locs 0 0 Q (F0 m 48 ls []) := by
            intro n
            induction n with
            | zero => intro v3 v4 tr_results X H locs ls hP hD hS hl h HX; rw [f_X6_evaluate_l48] at h; cases h
            | succ n ih =>
                intro v3 v4 tr_results X H locs ls hP hD hS hl h HX
                rw [f_X6_evaluate_l48] at h
                refine lv_iload hx hb dX6_evaluate_48 (lv_at hl 3 rfl) ?_
                refine lv_iload_n hx hb dX6_evaluate_50 rfl (lv_at hl 2 rfl) ?_
                refine lv_iadd hx hb dX6_evaluate_51 ?_
                refine lv_aload_n hx hb dX6_evaluate_52 rfl (lv_at hl 0 rfl) ?_
                refine va_get (D := gD G) (ci := 5) (v := .int tr_operators) (C := RX6) (T := TX6) (N := 6) hx hb hts lk_X6 hown hK hP 1 rfl rfl 0 (by decide) (hts _ fl_RX6_9) (fun _ h9 => h9) rfl dX6_evaluate_53 ?_
                refine lv_icmp_gt (tgt := 89) hx hb dX6_evaluate_56 (by decide) (fun c56 => ?_) (fun c56 => ?_)
                · have h := ip c56 h
                  exact HX tr_results H locs ls hP hD hS (lv_sub hl [0, 1, 2] rfl) h
                · have h := ing c56 h
                  refine lv_aload_n hx hb dX6_evaluate_59 rfl (lv_at hl 0 rfl) ?_
                  refine lv_iload hx hb dX6_evaluate_60 (lv_at hl 3 rfl) ?_
                  refine lv_iload hx hb dX6_evaluate_62 (lv_at hl 3 rfl) ?_
                  refine lv_iload_n hx hb dX6_evaluate_64 rfl (lv_at hl 2 rfl) ?_
                  refine lv_iadd hx hb dX6_evaluate_65 ?_
                  obtain ⟨o66, e66, h⟩ := bd h
                  refine Ci.V (wr := [(h_se, .inr (3, [.ref h_se_priorities, .ref h_se_associativities, .ref h_se_symbols, .ref h_se_letters, .int se_operands])), (h_av, .inl (gI G, 26, .inl av)), (h_se_letters, .inl (gI G, 11, .inl se_letters)), (h_se_symbols, .inl (gI G, 10, .inl se_symbols)), (h_tr_results, .inl (gJ G, 121, .inr (.inl tr_results))), (h_tr_roots, .inl (gI G, 121, .inl tr_roots))]) (c_X6_hasSubtree F l G h_tr h_tr_roots h_tr_ranks h_tr_allowedRoots h_tr_ranksBelowRoot h_tr_results tr_operators tr_ranks v4 (v4 + v3) H.size o66 e66) hB km_X6_hasSubtree ⟨im_X6_hasSubtree, sl_X6_hasSubtree⟩ ml_RX6_45 hP hD hS hl ⟨0, 5, _, _, rfl, rfl, rfl⟩ [1, 5] [0, 2, 3, 4, 6, 7] ⟨rfl, rfl, ⟨rfl, rfl⟩, by decide⟩ ⟨⟨Nat.le_of_ble_eq_true rfl, Nat.le_of_ble_eq_true rfl⟩, Nat.le_of_ble_eq_true rfl, Nat.le_of_ble_eq_true rfl, Nat.le_of_ble_eq_true rfl⟩ rfl dX6_evaluate_66 (fun z H locs hP hD hS => ?_)
                  have hP : va_P (gD G) vwCl [(h_se, .inr (3, [.ref h_se_priorities, .ref h_se_associativities, .ref h_se_symbols, .ref h_se_letters, .int se_operands])), (h_av, .inl (gI G, 26, .inl av)), (h_se_letters, .inl (gI G, 11, .inl se_letters)), (h_se_symbols, .inl (gI G, 10, .inl se_symbols)), (h_tr_results, .inl (gJ G, 121, .inr (.inl tr_results))), (h_tr_roots, .inl (gI G, 121, .inl tr_roots)), (h_tr, .inr (5, [.int tr_operators, .ref h_tr_roots, .ref h_tr_ranks, .ref h_tr_allowedRoots, .ref h_tr_ranksBelowRoot, .ref h_tr_results])), (h_tr_ranks, .inl (gI G, 121, .inl tr_ranks))] H := hP
                  have hD : va_D A [(h_se, .inr (3, [.ref h_se_priorities, .ref h_se_associativities, .ref h_se_symbols, .ref h_se_letters, .int se_operands])), (h_av, .inl (gI G, 26, .inl av)), (h_se_letters, .inl (gI G, 11, .inl se_letters)), (h_se_symbols, .inl (gI G, 10, .inl se_symbols)), (h_tr_results, .inl (gJ G, 121, .inr (.inl tr_results))), (h_tr_roots, .inl (gI G, 121, .inl tr_roots)), (h_tr, .inr (5, [.int tr_operators, .ref h_tr_roots, .ref h_tr_ranks, .ref h_tr_allowedRoots, .ref h_tr_ranksBelowRoot, .ref h_tr_results])), (h_tr_ranks, .inl (gI G, 121, .inl tr_ranks))] := hD
                  refine lv_if_eq (tgt := 83) hx hb dX6_evaluate_69 (by decide) (fun c69 => ?_) (fun c69 => ?_)
                  · have h := ip c69 h
                    refine lv_iinc (v := (v4 + 1)) (lv' := [(4, .int (v4 + 1)), (0, .ref h_tr), (1, .ref h_se), (3, .int v3)]) hx hb dX6_evaluate_83 hl (k := 3) rfl rfl (by decide) rfl (fun ls hl => ?_)
                    refine lv_goto (tgt := 48) hx hb dX6_evaluate_86 (by decide) ?_
                    exact ih v3 (v4 + 1) tr_results X H locs ls (hP.sub [0, 6, 1, 2, 3, 7, 4, 5] rfl) (hD.sub [0, 6, 1, 2, 3, 7, 4, 5] (by decide) rfl) hS (lv_sub hl [1, 2, 3, 0] rfl) h HX
                  · have h := ing c69 h
                    refine lv_aload_n hx hb dX6_evaluate_72 rfl (lv_at hl 0 rfl) ?_
                    refine lv_aload_n hx hb dX6_evaluate_73 rfl (lv_at hl 1 rfl) ?_
                    refine lv_iload hx hb dX6_evaluate_74 (lv_at hl 3 rfl) ?_
                    refine lv_iload hx hb dX6_evaluate_76 (lv_at hl 3 rfl) ?_
                    refine lv_iload_n hx hb dX6_evaluate_78 rfl (lv_at hl 2 rfl) ?_
                    refine lv_iadd hx hb dX6_evaluate_79 ?_
                    obtain ⟨o80, e80, h⟩ := bd h
                    refine Cv.V (wr := [(h_av, .inl (gI G, 26, .inl av)), (h_se_letters, .inl (gI G, 11, .inl se_letters)), (h_tr_ranks, .inl (gI G, 121, .inl tr_ranks))]) (c_X6_evaluateSubtree F l G h_se h_se_priorities h_se_associativities h_se_symbols h_se_letters h_tr h_tr_roots h_tr_ranks h_tr_allowedRoots h_tr_ranksBelowRoot h_tr_results se_operands tr_operators se_symbols tr_results tr_roots v4 (v4 + v3) H.size o80 e80) hB km_X6_evaluateSubtree ⟨im_X6_evaluateSubtree, sl_X6_evaluateSubtree⟩ ml_RX6_97 hP hD hS hl ⟨1, 5, _, _, rfl, rfl, rfl⟩ [0, 6, 3, 4, 5] [1, 2, 7] ⟨rfl, rfl, ⟨rfl, rfl⟩, by decide⟩ ⟨⟨Nat.le_of_ble_eq_true rfl, Nat.le_of_ble_eq_true rfl⟩, Nat.le_of_ble_eq_true rfl, Nat.le_of_ble_eq_true rfl, Nat.le_of_ble_eq_true rfl⟩ rfl dX6_evaluate_80 (fun z H locs hP hD hS => ?_)
                    have hP : va_P (gD G) vwCl [(h_av, .inl (gI G, 26, .inl av)), (h_se_letters, .inl (gI G, 11, .inl se_letters)), (h_tr_ranks, .inl (gI G, 121, .inl tr_ranks)), (h_se, .inr (3, [.ref h_se_priorities, .ref h_se_associativities, .ref h_se_symbols, .ref h_se_letters, .int se_operands])), (h_tr, .inr (5, [.int tr_operators, .ref h_tr_roots, .ref h_tr_ranks, .ref h_tr_allowedRoots, .ref h_tr_ranksBelowRoot, .ref h_tr_results])), (h_se_symbols, .inl (gI G, 10, .inl se_symbols)), (h_tr_results, .inl (gJ G, 121, .inr (.inl o80))), (h_tr_roots, .inl (gI G, 121, .inl tr_roots))] H := hP
                    have hD : va_D A [(h_av, .inl (gI G, 26, .inl av)), (h_se_letters, .inl (gI G, 11, .inl se_letters)), (h_tr_ranks, .inl (gI G, 121, .inl tr_ranks)), (h_se, .inr (3, [.ref h_se_priorities, .ref h_se_associativities, .ref h_se_symbols, .ref h_se_letters, .int se_operands])), (h_tr, .inr (5, [.int tr_operators, .ref h_tr_roots, .ref h_tr_ranks, .ref h_tr_allowedRoots, .ref h_tr_ranksBelowRoot, .ref h_tr_results])), (h_se_symbols, .inl (gI G, 10, .inl se_symbols)), (h_tr_results, .inl (gJ G, 121, .inr (.inl o80))), (h_tr_roots, .inl (gI G, 121, .inl tr_roots))] := hD
                    refine lv_iinc (v := (v4 + 1)) (lv' := [(4, .int (v4 + 1)), (0, .ref h_tr), (1, .ref h_se), (3, .int v3)]) hx hb dX6_evaluate_83 hl (k := 3) rfl rfl (by decide) rfl (fun ls hl => ?_)
                    refine lv_goto (tgt := 48) hx hb dX6_evaluate_86 (by decide) ?_
                    exact ih v3 (v4 + 1) o80 X H locs ls (hP.sub [3, 4, 0, 1, 5, 2, 6, 7] rfl) (hD.sub [3, 4, 0, 1, 5, 2, 6, 7] (by decide) rfl) hS (lv_sub hl [1, 2, 3, 0] rfl) h HX
          refine Lp48 F v3 0 tr_results _ H locs ls hP hD hS (lv_sub hl [1, 2, 3, 0] rfl) h (fun tr_results H locs ls hP hD hS hl h => ?_)
          refine lv_iinc (v := (v3 + 1)) (lv' := [(3, .int (v3 + 1)), (0, .ref h_tr), (1, .ref h_se)]) hx hb dX6_evaluate_89 hl (k := 2) rfl rfl (by decide) rfl (fun ls hl => ?_)
          refine lv_goto (tgt := 37) hx hb dX6_evaluate_92 (by decide) ?_
          exact ih (v3 + 1) tr_results X H locs ls hP hD hS (lv_sub hl [1, 2, 0] rfl) h HX
  refine Lp37 F 1 tr_results _ H locs ls hP hD hS (lv_sub hl [1, 2, 0] rfl) h (fun tr_results H locs ls hP hD hS hl h => ?_)
  refine lv_aload_n hx hb dX6_evaluate_95 rfl (lv_at hl 0 rfl) ?_
  refine va_get (D := gD G) (ci := 5) (v := .ref h_tr_results) (C := RX6) (T := TX6) (N := 6) hx hb hts lk_X6 hown hK hP 1 rfl rfl 5 (by decide) (hts _ fl_RX6_28) (fun _ h9 => h9) rfl dX6_evaluate_96 ?_
  refine lv_iconst (v := 0) hx hb dX6_evaluate_99 (by decide) ?_
  refine lv_aload_n hx hb dX6_evaluate_100 rfl (lv_at hl 0 rfl) ?_
  refine va_get (D := gD G) (ci := 5) (v := .int tr_operators) (C := RX6) (T := TX6) (N := 6) hx hb hts lk_X6 hown hK hP 1 rfl rfl 0 (by decide) (hts _ fl_RX6_9) (fun _ h9 => h9) rfl dX6_evaluate_101 ?_
  obtain ⟨o104, e104, h⟩ := bd h
  refine Ci.SN (wr := [(h_se, .inr (3, [.ref h_se_priorities, .ref h_se_associativities, .ref h_se_symbols, .ref h_se_letters, .int se_operands])), (h_tr, .inr (5, [.int tr_operators, .ref h_tr_roots, .ref h_tr_ranks, .ref h_tr_allowedRoots, .ref h_tr_ranksBelowRoot, .ref h_tr_results])), (h_av, .inl (gI G, 26, .inl av)), (h_se_letters, .inl (gI G, 11, .inl se_letters)), (h_se_symbols, .inl (gI G, 10, .inl se_symbols)), (h_tr_ranks, .inl (gI G, 121, .inl tr_ranks)), (h_tr_results, .inl (gJ G, 121, .inr (.inl tr_results))), (h_tr_roots, .inl (gI G, 121, .inl tr_roots))]) (c_X7_spanIndex F l G 0 tr_operators H.size o104 e104) hB km_X7_spanIndex st_X7_spanIndex mn_RX6_53 hP hD hS hl [] [0, 1, 2, 3, 4, 5, 6, 7] ⟨rfl, rfl, ⟨rfl, rfl⟩, by decide⟩ ⟨⟨Nat.le_of_ble_eq_true rfl, Nat.le_of_ble_eq_true rfl⟩, Nat.le_of_ble_eq_true rfl, Nat.le_of_ble_eq_true rfl, Nat.le_of_ble_eq_true rfl⟩ rfl dX6_evaluate_104 (fun z H locs hP hD hS => ?_)
  have hP : va_P (gD G) vwCl [(h_se, .inr (3, [.ref h_se_priorities, .ref h_se_associativities, .ref h_se_symbols, .ref h_se_letters, .int se_operands])), (h_tr, .inr (5, [.int tr_operators, .ref h_tr_roots, .ref h_tr_ranks, .ref h_tr_allowedRoots, .ref h_tr_ranksBelowRoot, .ref h_tr_results])), (h_av, .inl (gI G, 26, .inl av)), (h_se_letters, .inl (gI G, 11, .inl se_letters)), (h_se_symbols, .inl (gI G, 10, .inl se_symbols)), (h_tr_ranks, .inl (gI G, 121, .inl tr_ranks)), (h_tr_results, .inl (gJ G, 121, .inr (.inl tr_results))), (h_tr_roots, .inl (gI G, 121, .inl tr_roots))] H := hP
  have hD : va_D A [(h_se, .inr (3, [.ref h_se_priorities, .ref h_se_associativities, .ref h_se_symbols, .ref h_se_letters, .int se_operands])), (h_tr, .inr (5, [.int tr_operators, .ref h_tr_roots, .ref h_tr_ranks, .ref h_tr_allowedRoots, .ref h_tr_ranksBelowRoot, .ref h_tr_results])), (h_av, .inl (gI G, 26, .inl av)), (h_se_letters, .inl (gI G, 11, .inl se_letters)), (h_se_symbols, .inl (gI G, 10, .inl se_symbols)), (h_tr_ranks, .inl (gI G, 121, .inl tr_ranks)), (h_tr_results, .inl (gJ G, 121, .inr (.inl tr_results))), (h_tr_roots, .inl (gI G, 121, .inl tr_roots))] := hD
  obtain ⟨g107, h⟩ := gda h
  refine va_lald hx hb hK hP 6 2 rfl rfl g107 dX6_evaluate_107 ?_
  cases h
  exact hret (fun _ => 0) _ _ _ _ hP hD hS dX6_evaluate_108
