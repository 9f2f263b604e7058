abbrev rm_J0_coder_7d493 : Room := { frames := 0, cells := 0, slots := 0, locals := 0 }
theorem km_J0_coder_7d493 : KM yJ0_coder_7d493 cJ0_coder_7d493 1 (some .byte) 0 := ⟨co_J0_coder_7d493, in_RJ0, by decide +kernel⟩
set_option maxHeartbeats 4000000 in
set_option maxRecDepth 100000 in
theorem c_J0_coder_7d493 (F : Nat) (l : Launch) (G : GT)  (p0 : Nat) (sz : Nat) (out : Int32) (h : f_J0_coder_7d493 F p0 = some out) : Ci G l yJ0_coder_7d493 cJ0_coder_7d493 1 (some .byte) rm_J0_coder_7d493 [.ref (gK G p0)] [] sz out (fun _ => []) := by
  refine Ci.start rfl (by decide) (Nat.le_of_ble_eq_true rfl) ?_
  intro p e s m args below meth c A Q H locs ls hB hP hD hS hl hret
  obtain ⟨hx, hb, hmL, hr, hown, hts, hlocks, hnm, hA, hE⟩ := id hB
  obtain ⟨hK, hN, hV, hR, hZ, hZq, hAO⟩ := id hE
  have hown : s.vm.findClass RJ0 = some m.cls := hown
  have hl : lv_has ls 1 [(0, .ref (gK G p0))] := hl
  rw [f_J0_coder_7d493] at h
  refine va_gets hx hb hZ hS hown (hts _ fl_RJ0_38) (fun _ h9 => h9) dJ0_coder_7d493_0 ?_
  refine lv_if_eq (tgt := 13) hx hb dJ0_coder_7d493_3 (by decide) (fun c3 => ?_) (fun c3 => ?_)
  · have h := ip c3 h
    refine lv_iconst (v := 1) hx hb dJ0_coder_7d493_13 (by decide) ?_
    cases h
    exact hret (fun _ => 0) _ _ _ _ hP hD hS rfl dJ0_coder_7d493_14
  · have h := ing c3 h
    refine lv_aload_n hx hb dJ0_coder_7d493_6 rfl (lv_at hl 0 rfl) ?_
    obtain ⟨gk_p0, h⟩ := gdl h
    refine vk_getf hx hb ((hV.1 p0 gk_p0).2.1) hS hown (hts _ fl_RJ0_15) (fun _ h9 => h9) dJ0_coder_7d493_7 ?_
    refine lv_goto (tgt := 14) hx hb dJ0_coder_7d493_10 (by decide) ?_
    cases h
    exact hret (fun _ => 0) _ _ _ _ hP hD hS rfl dJ0_coder_7d493_14
abbrev rm_J0_length_8abf5 : Room := { frames := 1, cells := 0, slots := 0, locals := 20 }
theorem km_J0_length_8abf5 : KM yJ0_length_8abf5 cJ0_length_8abf5 1 (some .int) 0 := ⟨co_J0_length_8abf5, in_RJ0, by decide +kernel⟩
set_option maxHeartbeats 4000000 in
set_option maxRecDepth 100000 in
theorem c_J0_length_8abf5 (F : Nat) (l : Launch) (G : GT)  (p0 : Nat) (sz : Nat) (out : Int32) (h : f_J0_length_8abf5 F p0 = some out) : Ci G l yJ0_length_8abf5 cJ0_length_8abf5 1 (some .int) rm_J0_length_8abf5 [.ref (gK G p0)] [] sz out (fun _ => []) := by
  refine Ci.start rfl (by decide) (Nat.le_of_ble_eq_true rfl) ?_
  intro p e s m args below meth c A Q H locs ls hB hP hD hS hl hret
  obtain ⟨hx, hb, hmL, hr, hown, hts, hlocks, hnm, hA, hE⟩ := id hB
  obtain ⟨hK, hN, hV, hR, hZ, hZq, hAO⟩ := id hE
  have hown : s.vm.findClass RJ0 = some m.cls := hown
  have hl : lv_has ls 1 [(0, .ref (gK G p0))] := hl
  rw [f_J0_length_8abf5] at h
  refine lv_aload_n hx hb dJ0_length_8abf5_0 rfl (lv_at hl 0 rfl) ?_
  obtain ⟨gk_p0, h⟩ := gdl h
  refine vk_getf hx hb ((hV.1 p0 gk_p0).2.2.1) hS hown (hts _ fl_RJ0_9) (fun _ h9 => h9) dJ0_length_8abf5_1 ?_
  refine va_tlen hx hb ((hV.1 p0 gk_p0).2.2.2) hS rfl dJ0_length_8abf5_4 ?_
  refine lv_aload_n hx hb dJ0_length_8abf5_5 rfl (lv_at hl 0 rfl) ?_
  obtain ⟨o6, e6, h⟩ := bd h
  refine Ci.VK (wr := []) (c_J0_coder_7d493 F l G p0 H.size o6 e6) hB km_J0_coder_7d493 ⟨im_J0_coder_7d493, sl_J0_coder_7d493⟩ ml_RJ0_335 hP hD hS hl (vk_recv hV gk_p0 hS) [] [] ⟨rfl, rfl, ⟨rfl, rfl⟩, by decide⟩ ⟨⟨Nat.le_of_ble_eq_true rfl, Nat.le_of_ble_eq_true rfl⟩, Nat.le_of_ble_eq_true rfl, Nat.le_of_ble_eq_true rfl, Nat.le_of_ble_eq_true rfl⟩ rfl dJ0_length_8abf5_6 (fun z6 H locs hP hD hS => ?_)
  have hP : va_P (gD G) vwCl [] H := hP
  have hD : va_D A [] := hD
  refine lv_ishr hx hb dJ0_length_8abf5_9 ?_
  cases h
  exact hret (fun _ => 0) _ _ _ _ hP hD hS rfl dJ0_length_8abf5_10
abbrev rm_J0_isLatin1_aae02 : Room := { frames := 0, cells := 0, slots := 0, locals := 0 }
theorem km_J0_isLatin1_aae02 : KM yJ0_isLatin1_aae02 cJ0_isLatin1_aae02 1 (some .boolean) 0 := ⟨co_J0_isLatin1_aae02, in_RJ0, by decide +kernel⟩
set_option maxHeartbeats 4000000 in
set_option maxRecDepth 100000 in
theorem c_J0_isLatin1_aae02 (F : Nat) (l : Launch) (G : GT)  (p0 : Nat) (sz : Nat) (out : Int32) (h : f_J0_isLatin1_aae02 F p0 = some out) : Ci G l yJ0_isLatin1_aae02 cJ0_isLatin1_aae02 1 (some .boolean) rm_J0_isLatin1_aae02 [.ref (gK G p0)] [] sz out (fun _ => []) := by
  refine Ci.start rfl (by decide) (Nat.le_of_ble_eq_true rfl) ?_
  intro p e s m args below meth c A Q H locs ls hB hP hD hS hl hret
  obtain ⟨hx, hb, hmL, hr, hown, hts, hlocks, hnm, hA, hE⟩ := id hB
  obtain ⟨hK, hN, hV, hR, hZ, hZq, hAO⟩ := id hE
  have hown : s.vm.findClass RJ0 = some m.cls := hown
  have hl : lv_has ls 1 [(0, .ref (gK G p0))] := hl
  rw [f_J0_isLatin1_aae02] at h
  refine va_gets hx hb hZ hS hown (hts _ fl_RJ0_38) (fun _ h9 => h9) dJ0_isLatin1_aae02_0 ?_
  refine lv_if_eq (tgt := 17) hx hb dJ0_isLatin1_aae02_3 (by decide) (fun c3 => ?_) (fun c3 => ?_)
  · have h := ip c3 h
    refine lv_iconst (v := 0) hx hb dJ0_isLatin1_aae02_17 (by decide) ?_
    cases h
    exact hret (fun _ => 0) _ _ _ _ hP hD hS (nz (Or.inl rfl)) dJ0_isLatin1_aae02_18
  · have h := ing c3 h
    refine lv_aload_n hx hb dJ0_isLatin1_aae02_6 rfl (lv_at hl 0 rfl) ?_
    obtain ⟨gk_p0, h⟩ := gdl h
    refine vk_getf hx hb ((hV.1 p0 gk_p0).2.1) hS hown (hts _ fl_RJ0_15) (fun _ h9 => h9) dJ0_isLatin1_aae02_7 ?_
    refine lv_if_ne (tgt := 17) hx hb dJ0_isLatin1_aae02_10 (by decide) (fun c10 => ?_) (fun c10 => ?_)
    · have h := ing c10 h
      refine lv_iconst (v := 0) hx hb dJ0_isLatin1_aae02_17 (by decide) ?_
      cases h
      exact hret (fun _ => 0) _ _ _ _ hP hD hS (nz (Or.inl rfl)) dJ0_isLatin1_aae02_18
    · have h := ip c10 h
      refine lv_iconst (v := 1) hx hb dJ0_isLatin1_aae02_13 (by decide) ?_
      refine lv_goto (tgt := 18) hx hb dJ0_isLatin1_aae02_14 (by decide) ?_
      cases h
      exact hret (fun _ => 0) _ _ _ _ hP hD hS (nz (Or.inr rfl)) dJ0_isLatin1_aae02_18
abbrev rm_J3_checkIndex_8e157 : Room := { frames := 0, cells := 0, slots := 0, locals := 0 }
theorem km_J3_checkIndex_8e157 : KM yJ3_checkIndex_8e157 cJ3_checkIndex_8e157 3 (some .int) 3 := ⟨co_J3_checkIndex_8e157, in_RJ3, by decide +kernel⟩
set_option maxHeartbeats 4000000 in
set_option maxRecDepth 100000 in
theorem c_J3_checkIndex_8e157_n (F : Nat) (l : Launch) (G : GT)  (p0 : Int32) (p1 : Int32) (sz : Nat) (out : Int32) (h : f_J3_checkIndex_8e157 F p0 p1 = some out) : Ci G l yJ3_checkIndex_8e157 cJ3_checkIndex_8e157 3 (some .int) rm_J3_checkIndex_8e157 [.int p0, .int p1, .null] [] sz out (fun _ => []) := by
  refine Ci.start rfl (by decide) (Nat.le_of_ble_eq_true rfl) ?_
  intro p e s m args below meth c A Q H locs ls hB hP hD hS hl hret
  obtain ⟨hx, hb, hmL, hr, hown, hts, hlocks, hnm, hA, hE⟩ := id hB
  obtain ⟨hK, hN, hV, hR, hZ, hZq, hAO⟩ := id hE
  have hown : s.vm.findClass RJ3 = some m.cls := hown
  have hl : lv_has ls 3 [(0, .int p0), (1, .int p1), (2, .null)] := hl
  rw [f_J3_checkIndex_8e157] at h
  refine lv_iload_n hx hb dJ3_checkIndex_8e157_0 rfl (lv_at hl 0 rfl) ?_
  refine lv_if_lt (tgt := 9) hx hb dJ3_checkIndex_8e157_1 (by decide) (fun c1 => ?_) (fun c1 => ?_)
  · have h := ip c1 h
    cases h
  · have h := ing c1 h
    refine lv_iload_n hx hb dJ3_checkIndex_8e157_4 rfl (lv_at hl 0 rfl) ?_
    refine lv_iload_n hx hb dJ3_checkIndex_8e157_5 rfl (lv_at hl 1 rfl) ?_
    refine lv_icmp_lt (tgt := 16) hx hb dJ3_checkIndex_8e157_6 (by decide) (fun c6 => ?_) (fun c6 => ?_)
    · have h := ip c6 h
      refine lv_iload_n hx hb dJ3_checkIndex_8e157_16 rfl (lv_at hl 0 rfl) ?_
      cases h
      exact hret (fun _ => 0) _ _ _ _ hP hD hS rfl dJ3_checkIndex_8e157_17
    · have h := ing c6 h
      cases h
set_option maxHeartbeats 4000000 in
set_option maxRecDepth 100000 in
theorem c_J3_checkIndex_8e157_r (F : Nat) (l : Launch) (G : GT)  (p0 : Int32) (p1 : Int32) (pq : Nat) (sz : Nat) (out : Int32) (h : f_J3_checkIndex_8e157 F p0 p1 = some out) : Ci G l yJ3_checkIndex_8e157 cJ3_checkIndex_8e157 3 (some .int) rm_J3_checkIndex_8e157 [.int p0, .int p1, .ref pq] [] sz out (fun _ => []) := by
  refine Ci.start rfl (by decide) (Nat.le_of_ble_eq_true rfl) ?_
  intro p e s m args below meth c A Q H locs ls hB hP hD hS hl hret
  obtain ⟨hx, hb, hmL, hr, hown, hts, hlocks, hnm, hA, hE⟩ := id hB
  obtain ⟨hK, hN, hV, hR, hZ, hZq, hAO⟩ := id hE
  have hown : s.vm.findClass RJ3 = some m.cls := hown
  have hl : lv_has ls 3 [(0, .int p0), (1, .int p1), (2, .ref pq)] := hl
  rw [f_J3_checkIndex_8e157] at h
  refine lv_iload_n hx hb dJ3_checkIndex_8e157_0 rfl (lv_at hl 0 rfl) ?_
  refine lv_if_lt (tgt := 9) hx hb dJ3_checkIndex_8e157_1 (by decide) (fun c1 => ?_) (fun c1 => ?_)
  · have h := ip c1 h
    cases h
  · have h := ing c1 h
    refine lv_iload_n hx hb dJ3_checkIndex_8e157_4 rfl (lv_at hl 0 rfl) ?_
    refine lv_iload_n hx hb dJ3_checkIndex_8e157_5 rfl (lv_at hl 1 rfl) ?_
    refine lv_icmp_lt (tgt := 16) hx hb dJ3_checkIndex_8e157_6 (by decide) (fun c6 => ?_) (fun c6 => ?_)
    · have h := ip c6 h
      refine lv_iload_n hx hb dJ3_checkIndex_8e157_16 rfl (lv_at hl 0 rfl) ?_
      cases h
      exact hret (fun _ => 0) _ _ _ _ hP hD hS rfl dJ3_checkIndex_8e157_17
    · have h := ing c6 h
      cases h
abbrev rm_J0_checkIndex_df160 : Room := { frames := 1, cells := 0, slots := 0, locals := 22 }
theorem km_J0_checkIndex_df160 : KM yJ0_checkIndex_df160 cJ0_checkIndex_df160 2 none 2 := ⟨co_J0_checkIndex_df160, in_RJ0, by decide +kernel⟩
set_option maxHeartbeats 4000000 in
set_option maxRecDepth 100000 in
theorem c_J0_checkIndex_df160 (F : Nat) (l : Launch) (G : GT)  (p0 : Int32) (p1 : Int32) (sz : Nat) (out : Unit) (h : f_J0_checkIndex_df160 F p0 p1 = some out) : Cv G l yJ0_checkIndex_df160 cJ0_checkIndex_df160 2 none rm_J0_checkIndex_df160 [.int p0, .int p1] [] sz (fun _ => []) := by
  refine Cv.start (by decide) (Nat.le_of_ble_eq_true rfl) ?_
  intro p e s m args below meth c A Q H locs ls hB hP hD hS hl hret
  obtain ⟨hx, hb, hmL, hr, hown, hts, hlocks, hnm, hA, hE⟩ := id hB
  obtain ⟨hK, hN, hV, hR, hZ, hZq, hAO⟩ := id hE
  have hown : s.vm.findClass RJ0 = some m.cls := hown
  have hl : lv_has ls 2 [(0, .int p0), (1, .int p1)] := hl
  rw [f_J0_checkIndex_df160] at h
  refine lv_iload_n hx hb dJ0_checkIndex_df160_0 rfl (lv_at hl 0 rfl) ?_
  refine lv_iload_n hx hb dJ0_checkIndex_df160_1 rfl (lv_at hl 1 rfl) ?_
  rcases hZq with hz | ⟨tq, hz⟩
  · refine va_gets hx hb hz hS hown (hts _ fl_RJ0_1053) (fun _ h9 => h9) dJ0_checkIndex_df160_2 ?_
    obtain ⟨o5, e5, h⟩ := bd h
    refine Ci.S (wr := []) (c_J3_checkIndex_8e157_n F l G p0 p1 H.size o5 e5) hB km_J3_checkIndex_8e157 st_J3_checkIndex_8e157 ml_RJ0_1059 hP hD hS hl [] [] ⟨rfl, rfl, ⟨rfl, rfl⟩, by decide⟩ ⟨⟨Nat.le_of_ble_eq_true rfl, Nat.le_of_ble_eq_true rfl⟩, Nat.le_of_ble_eq_true rfl, Nat.le_of_ble_eq_true rfl, Nat.le_of_ble_eq_true rfl⟩ rfl dJ0_checkIndex_df160_5 (fun z5 H locs hP hD hS => ?_)
    have hP : va_P (gD G) vwCl [] H := hP
    have hD : va_D A [] := hD
    refine lv_pop hx hb dJ0_checkIndex_df160_8 rfl ?_
    cases h
    exact hret (fun _ => 0) _ _ _ _ hP hD hS dJ0_checkIndex_df160_9
  · refine va_gets hx hb hz hS hown (hts _ fl_RJ0_1053) (fun _ h9 => h9) dJ0_checkIndex_df160_2 ?_
    obtain ⟨o5, e5, h⟩ := bd h
    refine Ci.S (wr := []) (c_J3_checkIndex_8e157_r F l G p0 p1 tq H.size o5 e5) hB km_J3_checkIndex_8e157 st_J3_checkIndex_8e157 ml_RJ0_1059 hP hD hS hl [] [] ⟨rfl, rfl, ⟨rfl, rfl⟩, by decide⟩ ⟨⟨Nat.le_of_ble_eq_true rfl, Nat.le_of_ble_eq_true rfl⟩, Nat.le_of_ble_eq_true rfl, Nat.le_of_ble_eq_true rfl, Nat.le_of_ble_eq_true rfl⟩ rfl dJ0_checkIndex_df160_5 (fun z5 H locs hP hD hS => ?_)
    have hP : va_P (gD G) vwCl [] H := hP
    have hD : va_D A [] := hD
    refine lv_pop hx hb dJ0_checkIndex_df160_8 rfl ?_
    cases h
    exact hret (fun _ => 0) _ _ _ _ hP hD hS dJ0_checkIndex_df160_9
abbrev rm_J1_charAt_3b067 : Room := { frames := 2, cells := 0, slots := 0, locals := 43 }
theorem km_J1_charAt_3b067 : KM yJ1_charAt_3b067 cJ1_charAt_3b067 2 (some .char) 2 := ⟨co_J1_charAt_3b067, in_RJ1, by decide +kernel⟩
set_option maxHeartbeats 4000000 in
set_option maxRecDepth 100000 in
theorem c_J1_charAt_3b067 (F : Nat) (l : Launch) (G : GT)  (p0 : Nat) (p1 : Int32) (sz : Nat) (out : Int32) (h : f_J1_charAt_3b067 F p0 p1 = some out) : Ci G l yJ1_charAt_3b067 cJ1_charAt_3b067 2 (some .char) rm_J1_charAt_3b067 [.ref (gV G p0), .int p1] [] sz out (fun _ => []) := by
  refine Ci.start rfl (by decide) (Nat.le_of_ble_eq_true rfl) ?_
  intro p e s m args below meth c A Q H locs ls hB hP hD hS hl hret
  obtain ⟨hx, hb, hmL, hr, hown, hts, hlocks, hnm, hA, hE⟩ := id hB
  obtain ⟨hK, hN, hV, hR, hZ, hZq, hAO⟩ := id hE
  have hown : s.vm.findClass RJ1 = some m.cls := hown
  have hl : lv_has ls 2 [(0, .ref (gV G p0)), (1, .int p1)] := hl
  rw [f_J1_charAt_3b067] at h
  refine lv_iload_n hx hb dJ1_charAt_3b067_0 rfl (lv_at hl 1 rfl) ?_
  refine lv_aload_n hx hb dJ1_charAt_3b067_1 rfl (lv_at hl 0 rfl) ?_
  obtain ⟨gk_p0, h⟩ := gdl h
  refine va_tlen hx hb ((hV.1 p0 gk_p0).2.2.2) hS rfl dJ1_charAt_3b067_2 ?_
  obtain ⟨o3, e3, h⟩ := bd h
  refine Cv.S (wr := []) (c_J0_checkIndex_df160 F l G p1 (Int32.ofNat (lenS.getD p0 0)) H.size o3 e3) hB km_J0_checkIndex_df160 st_J0_checkIndex_df160 ml_RJ1_9 hP hD hS hl [] [] ⟨rfl, rfl, ⟨rfl, rfl⟩, by decide⟩ ⟨⟨Nat.le_of_ble_eq_true rfl, Nat.le_of_ble_eq_true rfl⟩, Nat.le_of_ble_eq_true rfl, Nat.le_of_ble_eq_true rfl, Nat.le_of_ble_eq_true rfl⟩ rfl dJ1_charAt_3b067_3 (fun z H locs hP hD hS => ?_)
  have hP : va_P (gD G) vwCl [] H := hP
  have hD : va_D A [] := hD
  refine lv_aload_n hx hb dJ1_charAt_3b067_6 rfl (lv_at hl 0 rfl) ?_
  refine lv_iload_n hx hb dJ1_charAt_3b067_7 rfl (lv_at hl 1 rfl) ?_
  obtain ⟨g8, h⟩ := gda h
  refine va_tb hx hb ((hV.1 p0 gk_p0).2.2.2) hS g8 rfl dJ1_charAt_3b067_8 ?_
  refine lv_sipush (v := 255) hx hb dJ1_charAt_3b067_9 (by decide) ?_
  refine lv_iand hx hb dJ1_charAt_3b067_12 ?_
  refine lv_i2c hx hb dJ1_charAt_3b067_13 rfl ?_
  obtain ⟨gz, h⟩ := gdc h
  cases h
  exact hret (fun _ => 0) _ _ _ _ hP hD hS gz dJ1_charAt_3b067_14
abbrev rm_J1_canEncode_9a6ad : Room := { frames := 0, cells := 0, slots := 0, locals := 0 }
theorem km_J1_canEncode_9a6ad : KM yJ1_canEncode_9a6ad cJ1_canEncode_9a6ad 1 (some .boolean) 1 := ⟨co_J1_canEncode_9a6ad, in_RJ1, by decide +kernel⟩
set_option maxHeartbeats 4000000 in
set_option maxRecDepth 100000 in
theorem c_J1_canEncode_9a6ad (F : Nat) (l : Launch) (G : GT)  (p0 : Int32) (sz : Nat) (out : Int32) (h : f_J1_canEncode_9a6ad F p0 = some out) : Ci G l yJ1_canEncode_9a6ad cJ1_canEncode_9a6ad 1 (some .boolean) rm_J1_canEncode_9a6ad [.int p0] [] sz out (fun _ => []) := by
  refine Ci.start rfl (by decide) (Nat.le_of_ble_eq_true rfl) ?_
  intro p e s m args below meth c A Q H locs ls hB hP hD hS hl hret
  obtain ⟨hx, hb, hmL, hr, hown, hts, hlocks, hnm, hA, hE⟩ := id hB
  obtain ⟨hK, hN, hV, hR, hZ, hZq, hAO⟩ := id hE
  have hown : s.vm.findClass RJ1 = some m.cls := hown
  have hl : lv_has ls 1 [(0, .int p0)] := hl
  rw [f_J1_canEncode_9a6ad] at h
  refine lv_iload_n hx hb dJ1_canEncode_9a6ad_0 rfl (lv_at hl 0 rfl) ?_
  refine lv_if_lt (tgt := 15) hx hb dJ1_canEncode_9a6ad_1 (by decide) (fun c1 => ?_) (fun c1 => ?_)
  · have h := ip c1 h
    refine lv_iconst (v := 0) hx hb dJ1_canEncode_9a6ad_15 (by decide) ?_
    cases h
    exact hret (fun _ => 0) _ _ _ _ hP hD hS (nz (Or.inl rfl)) dJ1_canEncode_9a6ad_16
  · have h := ing c1 h
    refine lv_iload_n hx hb dJ1_canEncode_9a6ad_4 rfl (lv_at hl 0 rfl) ?_
    refine lv_sipush (v := 255) hx hb dJ1_canEncode_9a6ad_5 (by decide) ?_
    refine lv_icmp_gt (tgt := 15) hx hb dJ1_canEncode_9a6ad_8 (by decide) (fun c8 => ?_) (fun c8 => ?_)
    · have h := ip c8 h
      refine lv_iconst (v := 0) hx hb dJ1_canEncode_9a6ad_15 (by decide) ?_
      cases h
      exact hret (fun _ => 0) _ _ _ _ hP hD hS (nz (Or.inl rfl)) dJ1_canEncode_9a6ad_16
    · have h := ing c8 h
      refine lv_iconst (v := 1) hx hb dJ1_canEncode_9a6ad_11 (by decide) ?_
      refine lv_goto (tgt := 16) hx hb dJ1_canEncode_9a6ad_12 (by decide) ?_
      cases h
      exact hret (fun _ => 0) _ _ _ _ hP hD hS (nz (Or.inr rfl)) dJ1_canEncode_9a6ad_16
abbrev rm_J1_indexOfChar_4cfef : Room := { frames := 0, cells := 0, slots := 0, locals := 0 }
theorem km_J1_indexOfChar_4cfef : KM yJ1_indexOfChar_4cfef cJ1_indexOfChar_4cfef 6 (some .int) 4 := ⟨co_J1_indexOfChar_4cfef, in_RJ1, by decide +kernel⟩
set_option maxHeartbeats 4000000 in
set_option maxRecDepth 100000 in
theorem c_J1_indexOfChar_4cfef (F : Nat) (l : Launch) (G : GT)  (p0 : Nat) (p1 : Int32) (p2 : Int32) (p3 : Int32) (sz : Nat) (out : Int32) (h : f_J1_indexOfChar_4cfef F p0 p1 p2 p3 = some out) : Ci G l yJ1_indexOfChar_4cfef cJ1_indexOfChar_4cfef 6 (some .int) rm_J1_indexOfChar_4cfef [.ref (gV G p0), .int p1, .int p2, .int p3] [] sz out (fun _ => []) := by
  refine Ci.start rfl (by decide) (Nat.le_of_ble_eq_true rfl) ?_
  intro p e s m args below meth c A Q H locs ls hB hP hD hS hl hret
  obtain ⟨hx, hb, hmL, hr, hown, hts, hlocks, hnm, hA, hE⟩ := id hB
  obtain ⟨hK, hN, hV, hR, hZ, hZq, hAO⟩ := id hE
  have hown : s.vm.findClass RJ1 = some m.cls := hown
  have hl : lv_has ls 6 [(0, .ref (gV G p0)), (1, .int p1), (2, .int p2), (3, .int p3)] := hl
  rw [f_J1_indexOfChar_4cfef] at h
  refine lv_iload_n hx hb dJ1_indexOfChar_4cfef_0 rfl (lv_at hl 1 rfl) ?_
  refine lv_i2b hx hb dJ1_indexOfChar_4cfef_1 rfl ?_
  refine lv_istore (lv' := [(4, .int (Int8.toInt32 (Int32.toInt8 p1))), (0, .ref (gV G p0)), (1, .int p1), (2, .int p2), (3, .int p3)]) hx hb dJ1_indexOfChar_4cfef_2 hl (by decide) rfl (fun ls hl => ?_)
  refine lv_iload_n hx hb dJ1_indexOfChar_4cfef_4 rfl (lv_at hl 3 rfl) ?_
  refine lv_istore (lv' := [(5, .int p2), (4, .int (Int8.toInt32 (Int32.toInt8 p1))), (0, .ref (gV G p0)), (1, .int p1), (2, .int p2), (3, .int p3)]) hx hb dJ1_indexOfChar_4cfef_5 hl (by decide) rfl (fun ls hl => ?_)
  have Lp7 : ∀ (n : Nat) (v0 : Nat) (v3 : Int32) (v4 : Int32) (v5 : Int32) (X : Option (Int32)) (H : Heap) (locs : List Loc) (ls : Array Slot), va_P (gD G) vwCl [] H → va_D A [] → va_S A s.heap H locs → lv_has ls 6 [(0, .ref (gV G v0)), (3, .int v3), (4, .int v4), (5, .int v5)] → f_J1_indexOfChar_4cfef_l7 F v0 v3 v4 n v5 X = some out → (∀ (_ : True) (H : Heap) (locs : List Loc) (ls : Array Slot), va_P (gD G) vwCl [] H → va_D A [] → va_S A s.heap H locs → lv_has ls 6 [] → X  = some out → W p l e rm_J1_indexOfChar_4cfef s m args below meth c H locs 0 0 Q (F0 m 31 ls [])) → W p l e rm_J1_indexOfChar_4cfef s m args below meth c H locs 0 0 Q (F0 m 7 ls []) := by
    intro n
    induction n with
    | zero => intro v0 v3 v4 v5 X H locs ls hP hD hS hl h HX; rw [f_J1_indexOfChar_4cfef_l7] at h; cases h
    | succ n ih =>
        intro v0 v3 v4 v5 X H locs ls hP hD hS hl h HX
        rw [f_J1_indexOfChar_4cfef_l7] at h
        refine lv_iload hx hb dJ1_indexOfChar_4cfef_7 (lv_at hl 3 rfl) ?_
        refine lv_iload_n hx hb dJ1_indexOfChar_4cfef_9 rfl (lv_at hl 1 rfl) ?_
        refine lv_icmp_ge (tgt := 31) hx hb dJ1_indexOfChar_4cfef_10 (by decide) (fun c10 => ?_) (fun c10 => ?_)
        · have h := ip c10 h
          exact HX trivial H locs ls hP hD hS (lv_sub hl [] rfl) h
        · have h := ing c10 h
          refine lv_aload_n hx hb dJ1_indexOfChar_4cfef_13 rfl (lv_at hl 0 rfl) ?_
          refine lv_iload hx hb dJ1_indexOfChar_4cfef_14 (lv_at hl 3 rfl) ?_
          obtain ⟨gk_v0, h⟩ := gdl h
          obtain ⟨g16, h⟩ := gda h
          refine va_tb hx hb ((hV.1 v0 gk_v0).2.2.2) hS g16 rfl dJ1_indexOfChar_4cfef_16 ?_
          refine lv_iload hx hb dJ1_indexOfChar_4cfef_17 (lv_at hl 2 rfl) ?_
          refine lv_icmp_ne (tgt := 25) hx hb dJ1_indexOfChar_4cfef_19 (by decide) (fun c19 => ?_) (fun c19 => ?_)
          · have h := ing c19 h
            refine lv_iinc (v := (v5 + 1)) (lv' := [(5, .int (v5 + 1)), (0, .ref (gV G v0)), (3, .int v3), (4, .int v4)]) hx hb dJ1_indexOfChar_4cfef_25 hl (k := 3) rfl rfl (by decide) rfl (fun ls hl => ?_)
            refine lv_goto (tgt := 7) hx hb dJ1_indexOfChar_4cfef_28 (by decide) ?_
            exact ih v0 v3 v4 (v5 + 1) X H locs ls hP hD hS (lv_sub hl [1, 2, 3, 0] rfl) h HX
          · have h := ip c19 h
            refine lv_iload hx hb dJ1_indexOfChar_4cfef_22 (lv_at hl 3 rfl) ?_
            cases h
            exact hret (fun _ => 0) _ _ _ _ hP hD hS rfl dJ1_indexOfChar_4cfef_24
  refine Lp7 F p0 p3 (Int8.toInt32 (Int32.toInt8 p1)) p2 _ H locs ls hP hD hS (lv_sub hl [2, 5, 1, 0] rfl) h (fun _ H locs ls hP hD hS hl h => ?_)
  refine lv_iconst (v := (-1)) hx hb dJ1_indexOfChar_4cfef_31 (by decide) ?_
  cases h
  exact hret (fun _ => 0) _ _ _ _ hP hD hS rfl dJ1_indexOfChar_4cfef_32
abbrev rm_J1_indexOf_4cfef : Room := { frames := 1, cells := 0, slots := 0, locals := 40 }
theorem km_J1_indexOf_4cfef : KM yJ1_indexOf_4cfef cJ1_indexOf_4cfef 4 (some .int) 4 := ⟨co_J1_indexOf_4cfef, in_RJ1, by decide +kernel⟩
set_option maxHeartbeats 4000000 in
set_option maxRecDepth 100000 in
theorem c_J1_indexOf_4cfef (F : Nat) (l : Launch) (G : GT)  (p0 : Nat) (p1 : Int32) (p2 : Int32) (p3 : Int32) (sz : Nat) (out : Int32) (h : f_J1_indexOf_4cfef F p0 p1 p2 p3 = some out) : Ci G l yJ1_indexOf_4cfef cJ1_indexOf_4cfef 4 (some .int) rm_J1_indexOf_4cfef [.ref (gV G p0), .int p1, .int p2, .int p3] [] sz out (fun _ => []) := by
  refine Ci.start rfl (by decide) (Nat.le_of_ble_eq_true rfl) ?_
  intro p e s m args below meth c A Q H locs ls hB hP hD hS hl hret
  obtain ⟨hx, hb, hmL, hr, hown, hts, hlocks, hnm, hA, hE⟩ := id hB
  obtain ⟨hK, hN, hV, hR, hZ, hZq, hAO⟩ := id hE
  have hown : s.vm.findClass RJ1 = some m.cls := hown
  have hl : lv_has ls 4 [(0, .ref (gV G p0)), (1, .int p1), (2, .int p2), (3, .int p3)] := hl
  rw [f_J1_indexOf_4cfef] at h
  refine lv_iload_n hx hb dJ1_indexOf_4cfef_0 rfl (lv_at hl 1 rfl) ?_
  obtain ⟨o1, e1, h⟩ := bd h
  refine Ci.S (wr := []) (c_J1_canEncode_9a6ad F l G p1 H.size o1 e1) hB km_J1_canEncode_9a6ad st_J1_canEncode_9a6ad ml_RJ1_88 hP hD hS hl [] [] ⟨rfl, rfl, ⟨rfl, rfl⟩, by decide⟩ ⟨⟨Nat.le_of_ble_eq_true rfl, Nat.le_of_ble_eq_true rfl⟩, Nat.le_of_ble_eq_true rfl, Nat.le_of_ble_eq_true rfl, Nat.le_of_ble_eq_true rfl⟩ rfl dJ1_indexOf_4cfef_1 (fun z H locs hP hD hS => ?_)
  have hP : va_P (gD G) vwCl [] H := hP
  have hD : va_D A [] := hD
  refine lv_if_ne (tgt := 9) hx hb dJ1_indexOf_4cfef_4 (by decide) (fun c4 => ?_) (fun c4 => ?_)
  · have h := ing c4 h
    refine lv_iload_n hx hb dJ1_indexOf_4cfef_9 rfl (lv_at hl 2 rfl) ?_
    refine lv_iconst (v := 0) hx hb dJ1_indexOf_4cfef_10 (by decide) ?_
    refine va_mmax hx hb (hmL.trans hl.1.symm) hown (hts _ ml_RJ1_92) (hts _ st_J9_max_7cf53) (hts _ in_RJ9) (hts _ co_J9_max_7cf53) (Nat.le_of_ble_eq_true rfl) (Nat.le_of_ble_eq_true rfl) (Nat.le_of_ble_eq_true rfl) (Nat.le_of_ble_eq_true rfl) dJ1_indexOf_4cfef_11 ?_
    refine lv_istore_n (lv' := [(2, .int (if p2 < 0 then 0 else p2)), (0, .ref (gV G p0)), (1, .int p1), (3, .int p3)]) hx hb dJ1_indexOf_4cfef_14 rfl hl (by decide) rfl (fun ls hl => ?_)
    refine lv_iload_n hx hb dJ1_indexOf_4cfef_15 rfl (lv_at hl 3 rfl) ?_
    refine lv_aload_n hx hb dJ1_indexOf_4cfef_16 rfl (lv_at hl 1 rfl) ?_
    obtain ⟨gk_p0, h⟩ := gdl h
    refine va_tlen hx hb ((hV.1 p0 gk_p0).2.2.2) hS rfl dJ1_indexOf_4cfef_17 ?_
    refine va_mmin hx hb (hmL.trans hl.1.symm) hown (hts _ ml_RJ1_38) (hts _ st_J9_min_7cf53) (hts _ in_RJ9) (hts _ co_J9_min_7cf53) (Nat.le_of_ble_eq_true rfl) (Nat.le_of_ble_eq_true rfl) (Nat.le_of_ble_eq_true rfl) (Nat.le_of_ble_eq_true rfl) dJ1_indexOf_4cfef_18 ?_
    refine lv_istore_n (lv' := [(3, .int (if (Int32.ofNat (lenS.getD p0 0)) < p3 then (Int32.ofNat (lenS.getD p0 0)) else p3)), (2, .int (if p2 < 0 then 0 else p2)), (0, .ref (gV G p0)), (1, .int p1)]) hx hb dJ1_indexOf_4cfef_21 rfl hl (by decide) rfl (fun ls hl => ?_)
    refine lv_iload_n hx hb dJ1_indexOf_4cfef_22 rfl (lv_at hl 1 rfl) ?_
    refine lv_iload_n hx hb dJ1_indexOf_4cfef_23 rfl (lv_at hl 0 rfl) ?_
    refine lv_icmp_lt (tgt := 29) hx hb dJ1_indexOf_4cfef_24 (by decide) (fun c24 => ?_) (fun c24 => ?_)
    · have h := ip c24 h
      refine lv_aload_n hx hb dJ1_indexOf_4cfef_29 rfl (lv_at hl 2 rfl) ?_
      refine lv_iload_n hx hb dJ1_indexOf_4cfef_30 rfl (lv_at hl 3 rfl) ?_
      refine lv_iload_n hx hb dJ1_indexOf_4cfef_31 rfl (lv_at hl 1 rfl) ?_
      refine lv_iload_n hx hb dJ1_indexOf_4cfef_32 rfl (lv_at hl 0 rfl) ?_
      obtain ⟨o33, e33, h⟩ := bd h
      refine Ci.S (wr := []) (c_J1_indexOfChar_4cfef F l G p0 p1 (if p2 < 0 then 0 else p2) (if (Int32.ofNat (lenS.getD p0 0)) < p3 then (Int32.ofNat (lenS.getD p0 0)) else p3) H.size o33 e33) hB km_J1_indexOfChar_4cfef st_J1_indexOfChar_4cfef ml_RJ1_95 hP hD hS hl [] [] ⟨rfl, rfl, ⟨rfl, rfl⟩, by decide⟩ ⟨⟨Nat.le_of_ble_eq_true rfl, Nat.le_of_ble_eq_true rfl⟩, Nat.le_of_ble_eq_true rfl, Nat.le_of_ble_eq_true rfl, Nat.le_of_ble_eq_true rfl⟩ rfl dJ1_indexOf_4cfef_33 (fun z33 H locs hP hD hS => ?_)
      have hP : va_P (gD G) vwCl [] H := hP
      have hD : va_D A [] := hD
      cases h
      exact hret (fun _ => 0) _ _ _ _ hP hD hS rfl dJ1_indexOf_4cfef_36
    · have h := ing c24 h
      refine lv_iconst (v := (-1)) hx hb dJ1_indexOf_4cfef_27 (by decide) ?_
      cases h
      exact hret (fun _ => 0) _ _ _ _ hP hD hS rfl dJ1_indexOf_4cfef_28
  · have h := ip c4 h
    refine lv_iconst (v := (-1)) hx hb dJ1_indexOf_4cfef_7 (by decide) ?_
    cases h
    exact hret (fun _ => 0) _ _ _ _ hP hD hS rfl dJ1_indexOf_4cfef_8
abbrev rm_J0_charAt_5068e : Room := { frames := 3, cells := 0, slots := 0, locals := 64 }
theorem km_J0_charAt_5068e : KM yJ0_charAt_5068e cJ0_charAt_5068e 2 (some .char) 1 := ⟨co_J0_charAt_5068e, in_RJ0, by decide +kernel⟩
set_option maxHeartbeats 4000000 in
set_option maxRecDepth 100000 in
theorem c_J0_charAt_5068e (F : Nat) (l : Launch) (G : GT)  (p0 : Nat) (p1 : Int32) (sz : Nat) (out : Int32) (h : f_J0_charAt_5068e F p0 p1 = some out) : Ci G l yJ0_charAt_5068e cJ0_charAt_5068e 2 (some .char) rm_J0_charAt_5068e [.ref (gK G p0), .int p1] [] sz out (fun _ => []) := by
  refine Ci.start rfl (by decide) (Nat.le_of_ble_eq_true rfl) ?_
  intro p e s m args below meth c A Q H locs ls hB hP hD hS hl hret
  obtain ⟨hx, hb, hmL, hr, hown, hts, hlocks, hnm, hA, hE⟩ := id hB
  obtain ⟨hK, hN, hV, hR, hZ, hZq, hAO⟩ := id hE
  have hown : s.vm.findClass RJ0 = some m.cls := hown
  have hl : lv_has ls 2 [(0, .ref (gK G p0)), (1, .int p1)] := hl
  rw [f_J0_charAt_5068e] at h
  refine lv_aload_n hx hb dJ0_charAt_5068e_0 rfl (lv_at hl 0 rfl) ?_
  obtain ⟨gk_p0, h⟩ := gdl h
  obtain ⟨o1, e1, h⟩ := bd h
  refine Ci.VK (wr := []) (c_J0_isLatin1_aae02 F l G p0 H.size o1 e1) hB km_J0_isLatin1_aae02 ⟨im_J0_isLatin1_aae02, sl_J0_isLatin1_aae02⟩ ml_RJ0_492 hP hD hS hl (vk_recv hV gk_p0 hS) [] [] ⟨rfl, rfl, ⟨rfl, rfl⟩, by decide⟩ ⟨⟨Nat.le_of_ble_eq_true rfl, Nat.le_of_ble_eq_true rfl⟩, Nat.le_of_ble_eq_true rfl, Nat.le_of_ble_eq_true rfl, Nat.le_of_ble_eq_true rfl⟩ rfl dJ0_charAt_5068e_1 (fun z1 H locs hP hD hS => ?_)
  have hP : va_P (gD G) vwCl [] H := hP
  have hD : va_D A [] := hD
  refine lv_if_eq (tgt := 16) hx hb dJ0_charAt_5068e_4 (by decide) (fun c4 => ?_) (fun c4 => ?_)
  · have h := ip c4 h
    refine lv_aload_n hx hb dJ0_charAt_5068e_16 rfl (lv_at hl 0 rfl) ?_
    refine vk_getf hx hb ((hV.1 p0 gk_p0).2.2.1) hS hown (hts _ fl_RJ0_9) (fun _ h9 => h9) dJ0_charAt_5068e_17 ?_
    refine lv_iload_n hx hb dJ0_charAt_5068e_20 rfl (lv_at hl 1 rfl) ?_
    cases h
  · have h := ing c4 h
    refine lv_aload_n hx hb dJ0_charAt_5068e_7 rfl (lv_at hl 0 rfl) ?_
    refine vk_getf hx hb ((hV.1 p0 gk_p0).2.2.1) hS hown (hts _ fl_RJ0_9) (fun _ h9 => h9) dJ0_charAt_5068e_8 ?_
    refine lv_iload_n hx hb dJ0_charAt_5068e_11 rfl (lv_at hl 1 rfl) ?_
    obtain ⟨o12, e12, h⟩ := bd h
    refine Ci.S (wr := []) (c_J1_charAt_3b067 F l G p0 p1 H.size o12 e12) hB km_J1_charAt_3b067 st_J1_charAt_3b067 ml_RJ0_495 hP hD hS hl [] [] ⟨rfl, rfl, ⟨rfl, rfl⟩, by decide⟩ ⟨⟨Nat.le_of_ble_eq_true rfl, Nat.le_of_ble_eq_true rfl⟩, Nat.le_of_ble_eq_true rfl, Nat.le_of_ble_eq_true rfl, Nat.le_of_ble_eq_true rfl⟩ rfl dJ0_charAt_5068e_12 (fun z12 H locs hP hD hS => ?_)
    have hP : va_P (gD G) vwCl [] H := hP
    have hD : va_D A [] := hD
    obtain ⟨gz, h⟩ := gdc h
    cases h
    exact hret (fun _ => 0) _ _ _ _ hP hD hS gz dJ0_charAt_5068e_15
abbrev rm_J0_indexOf_7cf53 : Room := { frames := 2, cells := 0, slots := 0, locals := 63 }
theorem km_J0_indexOf_7cf53 : KM yJ0_indexOf_7cf53 cJ0_indexOf_7cf53 3 (some .int) 2 := ⟨co_J0_indexOf_7cf53, in_RJ0, by decide +kernel⟩
set_option maxHeartbeats 4000000 in
set_option maxRecDepth 100000 in
theorem c_J0_indexOf_7cf53 (F : Nat) (l : Launch) (G : GT)  (p0 : Nat) (p1 : Int32) (p2 : Int32) (sz : Nat) (out : Int32) (h : f_J0_indexOf_7cf53 F p0 p1 p2 = some out) : Ci G l yJ0_indexOf_7cf53 cJ0_indexOf_7cf53 3 (some .int) rm_J0_indexOf_7cf53 [.ref (gK G p0), .int p1, .int p2] [] sz out (fun _ => []) := by
  refine Ci.start rfl (by decide) (Nat.le_of_ble_eq_true rfl) ?_
  intro p e s m args below meth c A Q H locs ls hB hP hD hS hl hret
  obtain ⟨hx, hb, hmL, hr, hown, hts, hlocks, hnm, hA, hE⟩ := id hB
  obtain ⟨hK, hN, hV, hR, hZ, hZq, hAO⟩ := id hE
  have hown : s.vm.findClass RJ0 = some m.cls := hown
  have hl : lv_has ls 3 [(0, .ref (gK G p0)), (1, .int p1), (2, .int p2)] := hl
  rw [f_J0_indexOf_7cf53] at h
  refine lv_aload_n hx hb dJ0_indexOf_7cf53_0 rfl (lv_at hl 0 rfl) ?_
  obtain ⟨gk_p0, h⟩ := gdl h
  obtain ⟨o1, e1, h⟩ := bd h
  refine Ci.VK (wr := []) (c_J0_isLatin1_aae02 F l G p0 H.size o1 e1) hB km_J0_isLatin1_aae02 ⟨im_J0_isLatin1_aae02, sl_J0_isLatin1_aae02⟩ ml_RJ0_492 hP hD hS hl (vk_recv hV gk_p0 hS) [] [] ⟨rfl, rfl, ⟨rfl, rfl⟩, by decide⟩ ⟨⟨Nat.le_of_ble_eq_true rfl, Nat.le_of_ble_eq_true rfl⟩, Nat.le_of_ble_eq_true rfl, Nat.le_of_ble_eq_true rfl, Nat.le_of_ble_eq_true rfl⟩ rfl dJ0_indexOf_7cf53_1 (fun z1 H locs hP hD hS => ?_)
  have hP : va_P (gD G) vwCl [] H := hP
  have hD : va_D A [] := hD
  refine lv_if_eq (tgt := 23) hx hb dJ0_indexOf_7cf53_4 (by decide) (fun c4 => ?_) (fun c4 => ?_)
  · have h := ip c4 h
    refine lv_aload_n hx hb dJ0_indexOf_7cf53_23 rfl (lv_at hl 0 rfl) ?_
    refine vk_getf hx hb ((hV.1 p0 gk_p0).2.2.1) hS hown (hts _ fl_RJ0_9) (fun _ h9 => h9) dJ0_indexOf_7cf53_24 ?_
    refine lv_iload_n hx hb dJ0_indexOf_7cf53_27 rfl (lv_at hl 1 rfl) ?_
    refine lv_iload_n hx hb dJ0_indexOf_7cf53_28 rfl (lv_at hl 2 rfl) ?_
    refine lv_aload_n hx hb dJ0_indexOf_7cf53_29 rfl (lv_at hl 0 rfl) ?_
    obtain ⟨o30, e30, h⟩ := bd h
    refine Ci.VK (wr := []) (c_J0_length_8abf5 F l G p0 H.size o30 e30) hB km_J0_length_8abf5 ⟨im_J0_length_8abf5, sl_J0_length_8abf5⟩ ml_RJ0_505 hP hD hS hl (vk_recv hV gk_p0 hS) [] [] ⟨rfl, rfl, ⟨rfl, rfl⟩, by decide⟩ ⟨⟨Nat.le_of_ble_eq_true rfl, Nat.le_of_ble_eq_true rfl⟩, Nat.le_of_ble_eq_true rfl, Nat.le_of_ble_eq_true rfl, Nat.le_of_ble_eq_true rfl⟩ rfl dJ0_indexOf_7cf53_30 (fun z30 H locs hP hD hS => ?_)
    have hP : va_P (gD G) vwCl [] H := hP
    have hD : va_D A [] := hD
    cases h
  · have h := ing c4 h
    refine lv_aload_n hx hb dJ0_indexOf_7cf53_7 rfl (lv_at hl 0 rfl) ?_
    refine vk_getf hx hb ((hV.1 p0 gk_p0).2.2.1) hS hown (hts _ fl_RJ0_9) (fun _ h9 => h9) dJ0_indexOf_7cf53_8 ?_
    refine lv_iload_n hx hb dJ0_indexOf_7cf53_11 rfl (lv_at hl 1 rfl) ?_
    refine lv_iload_n hx hb dJ0_indexOf_7cf53_12 rfl (lv_at hl 2 rfl) ?_
    refine lv_aload_n hx hb dJ0_indexOf_7cf53_13 rfl (lv_at hl 0 rfl) ?_
    obtain ⟨o14, e14, h⟩ := bd h
    refine Ci.VK (wr := []) (c_J0_length_8abf5 F l G p0 H.size o14 e14) hB km_J0_length_8abf5 ⟨im_J0_length_8abf5, sl_J0_length_8abf5⟩ ml_RJ0_505 hP hD hS hl (vk_recv hV gk_p0 hS) [] [] ⟨rfl, rfl, ⟨rfl, rfl⟩, by decide⟩ ⟨⟨Nat.le_of_ble_eq_true rfl, Nat.le_of_ble_eq_true rfl⟩, Nat.le_of_ble_eq_true rfl, Nat.le_of_ble_eq_true rfl, Nat.le_of_ble_eq_true rfl⟩ rfl dJ0_indexOf_7cf53_14 (fun z14 H locs hP hD hS => ?_)
    have hP : va_P (gD G) vwCl [] H := hP
    have hD : va_D A [] := hD
    obtain ⟨o17, e17, h⟩ := bd h
    refine Ci.S (wr := []) (c_J1_indexOf_4cfef F l G p0 p1 p2 o14 H.size o17 e17) hB km_J1_indexOf_4cfef st_J1_indexOf_4cfef ml_RJ0_637 hP hD hS hl [] [] ⟨rfl, rfl, ⟨rfl, rfl⟩, by decide⟩ ⟨⟨Nat.le_of_ble_eq_true rfl, Nat.le_of_ble_eq_true rfl⟩, Nat.le_of_ble_eq_true rfl, Nat.le_of_ble_eq_true rfl, Nat.le_of_ble_eq_true rfl⟩ rfl dJ0_indexOf_7cf53_17 (fun z17 H locs hP hD hS => ?_)
    have hP : va_P (gD G) vwCl [] H := hP
    have hD : va_D A [] := hD
    refine lv_goto (tgt := 36) hx hb dJ0_indexOf_7cf53_20 (by decide) ?_
    cases h
    exact hret (fun _ => 0) _ _ _ _ hP hD hS rfl dJ0_indexOf_7cf53_36
abbrev rm_J0_indexOf_0f7a4 : Room := { frames := 3, cells := 0, slots := 0, locals := 85 }
theorem km_J0_indexOf_0f7a4 : KM yJ0_indexOf_0f7a4 cJ0_indexOf_0f7a4 2 (some .int) 1 := ⟨co_J0_indexOf_0f7a4, in_RJ0, by decide +kernel⟩
set_option maxHeartbeats 4000000 in
set_option maxRecDepth 100000 in
theorem c_J0_indexOf_0f7a4 (F : Nat) (l : Launch) (G : GT)  (p0 : Nat) (p1 : Int32) (sz : Nat) (out : Int32) (h : f_J0_indexOf_0f7a4 F p0 p1 = some out) : Ci G l yJ0_indexOf_0f7a4 cJ0_indexOf_0f7a4 2 (some .int) rm_J0_indexOf_0f7a4 [.ref (gK G p0), .int p1] [] sz out (fun _ => []) := by
  refine Ci.start rfl (by decide) (Nat.le_of_ble_eq_true rfl) ?_
  intro p e s m args below meth c A Q H locs ls hB hP hD hS hl hret
  obtain ⟨hx, hb, hmL, hr, hown, hts, hlocks, hnm, hA, hE⟩ := id hB
  obtain ⟨hK, hN, hV, hR, hZ, hZq, hAO⟩ := id hE
  have hown : s.vm.findClass RJ0 = some m.cls := hown
  have hl : lv_has ls 2 [(0, .ref (gK G p0)), (1, .int p1)] := hl
  rw [f_J0_indexOf_0f7a4] at h
  refine lv_aload_n hx hb dJ0_indexOf_0f7a4_0 rfl (lv_at hl 0 rfl) ?_
  refine lv_iload_n hx hb dJ0_indexOf_0f7a4_1 rfl (lv_at hl 1 rfl) ?_
  refine lv_iconst (v := 0) hx hb dJ0_indexOf_0f7a4_2 (by decide) ?_
  obtain ⟨gk_p0, h⟩ := gdl h
  obtain ⟨o3, e3, h⟩ := bd h
  refine Ci.VK (wr := []) (c_J0_indexOf_7cf53 F l G p0 p1 0 H.size o3 e3) hB km_J0_indexOf_7cf53 ⟨im_J0_indexOf_7cf53, sl_J0_indexOf_7cf53⟩ ml_RJ0_633 hP hD hS hl (vk_recv hV gk_p0 hS) [] [] ⟨rfl, rfl, ⟨rfl, rfl⟩, by decide⟩ ⟨⟨Nat.le_of_ble_eq_true rfl, Nat.le_of_ble_eq_true rfl⟩, Nat.le_of_ble_eq_true rfl, Nat.le_of_ble_eq_true rfl, Nat.le_of_ble_eq_true rfl⟩ rfl dJ0_indexOf_0f7a4_3 (fun z3 H locs hP hD hS => ?_)
  have hP : va_P (gD G) vwCl [] H := hP
  have hD : va_D A [] := hD
  cases h
  exact hret (fun _ => 0) _ _ _ _ hP hD hS rfl dJ0_indexOf_0f7a4_6
