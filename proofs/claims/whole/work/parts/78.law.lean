/-! 78: the law answers 1 -/
theorem l_loop {F L : Nat} {xs : Nat → Int32} (hF : 500 < F) (hI : IdxOk F) (hL : L ≤ 2560) : ∀ (m v : Nat) (te_length : Int32) (te_characters : Nat → Int32) (se_operands : Int32) (se_priorities : Nat → Int32) (se_associativities : Nat → Int32) (se_symbols : Nat → Int32) (se_letters : Nat → Int32) (ca_operands : Int32) (ca_priorities : Nat → Int32) (ca_associativities : Nat → Int32) (ca_symbols : Nat → Int32) (ca_letters : Nat → Int32) (st_pipelineLength : Int32) (st_filters : Nat → Int32) (st_variables : Nat → Int32) (hi_size : Int32) (e0_pipelineLength : Int32) (e0_filters : Nat → Int32) (e0_variables : Nat → Int32) (e1_pipelineLength : Int32) (e1_filters : Nat → Int32) (e1_variables : Nat → Int32) (e2_pipelineLength : Int32) (e2_filters : Nat → Int32) (e2_variables : Nat → Int32) (e3_pipelineLength : Int32) (e3_filters : Nat → Int32) (e3_variables : Nat → Int32) (fo_operators : Int32) (fo_roots : Nat → Int32) (fo_leftChildren : Nat → Int32) (fo_rightChildren : Nat → Int32) (fo_counts : Nat → Int32) (tr_operators : Int32) (tr_roots : Nat → Int32) (tr_ranks : Nat → Int32) (tr_allowedRoots : Nat → Int32) (tr_ranksBelowRoot : Nat → Int32) (tr_results : Nat → Int64) (bx_results : Nat → Int64) (md_edits : Int32) (md_operators : Int32) (md_readOperators : Int32) (md_typed : Int32) (md_at : Int32) (md_now : Nat → Int32) (md_history : Nat → Int32) (md_priority : Nat → Int32) (md_assoc : Nat → Int32) (md_symbols : Nat → Int32) (md_operands : Nat → Int32) (md_readPriority : Nat → Int32) (md_readAssoc : Nat → Int32) (md_readSymbols : Nat → Int32) (md_readOperands : Nat → Int32) (md_text : Nat → Int32) (md_trees : Nat → Int32) (md_discarded : Nat → Int32) (md_preorder : Nat → Int32) (md_lowOf : Nat → Int32) (md_highOf : Nat → Int32) (md_parentOf : Nat → Int32) (md_sideOf : Nat → Int32) (md_stack : Nat → Int32) (md_ranks : Nat → Int32) (md_values : Nat → Int64) (md_results : Nat → Int64), v ≤ L → L + 5 ≤ v + 5 * m → RelS te_length te_characters se_operands se_priorities se_associativities se_symbols se_letters st_pipelineLength st_filters st_variables hi_size e0_filters e0_pipelineLength e0_variables e1_filters e1_pipelineLength e1_variables e2_filters e2_pipelineLength e2_variables e3_filters e3_pipelineLength e3_variables md_edits md_operators md_typed md_now md_history md_priority md_assoc md_symbols md_operands md_text → f_L_law_l18 F L xs m (nI v) te_length te_characters se_operands se_priorities se_associativities se_symbols se_letters ca_operands ca_priorities ca_associativities ca_symbols ca_letters st_pipelineLength st_filters st_variables hi_size e0_pipelineLength e0_filters e0_variables e1_pipelineLength e1_filters e1_variables e2_pipelineLength e2_filters e2_variables e3_pipelineLength e3_filters e3_variables fo_operators fo_roots fo_leftChildren fo_rightChildren fo_counts tr_operators tr_roots tr_ranks tr_allowedRoots tr_ranksBelowRoot tr_results bx_results md_edits md_operators md_readOperators md_typed md_at md_now md_history md_priority md_assoc md_symbols md_operands md_readPriority md_readAssoc md_readSymbols md_readOperands md_text md_trees md_discarded md_preorder md_lowOf md_highOf md_parentOf md_sideOf md_stack md_ranks md_values md_results = some 1 := by
  intro m
  induction m with
  | zero => intro v te_length te_characters se_operands se_priorities se_associativities se_symbols se_letters ca_operands ca_priorities ca_associativities ca_symbols ca_letters st_pipelineLength st_filters st_variables hi_size e0_pipelineLength e0_filters e0_variables e1_pipelineLength e1_filters e1_variables e2_pipelineLength e2_filters e2_variables e3_pipelineLength e3_filters e3_variables fo_operators fo_roots fo_leftChildren fo_rightChildren fo_counts tr_operators tr_roots tr_ranks tr_allowedRoots tr_ranksBelowRoot tr_results bx_results md_edits md_operators md_readOperators md_typed md_at md_now md_history md_priority md_assoc md_symbols md_operands md_readPriority md_readAssoc md_readSymbols md_readOperands md_text md_trees md_discarded md_preorder md_lowOf md_highOf md_parentOf md_sideOf md_stack md_ranks md_values md_results h1 h2; omega
  | succ m ih =>
    intro v te_length te_characters se_operands se_priorities se_associativities se_symbols se_letters ca_operands ca_priorities ca_associativities ca_symbols ca_letters st_pipelineLength st_filters st_variables hi_size e0_pipelineLength e0_filters e0_variables e1_pipelineLength e1_filters e1_variables e2_pipelineLength e2_filters e2_variables e3_pipelineLength e3_filters e3_variables fo_operators fo_roots fo_leftChildren fo_rightChildren fo_counts tr_operators tr_roots tr_ranks tr_allowedRoots tr_ranksBelowRoot tr_results bx_results md_edits md_operators md_readOperators md_typed md_at md_now md_history md_priority md_assoc md_symbols md_operands md_readPriority md_readAssoc md_readSymbols md_readOperands md_text md_trees md_discarded md_preorder md_lowOf md_highOf md_parentOf md_sideOf md_stack md_ranks md_values md_results h1 h2 hR
    rw [f_L_law_l18]
    by_cases hz : v + 5 ≤ L
    · have e5 : nI v + 5 = nI (v + 5) := by rw [k5, nI_add]
      have hc : ¬ (Int32.ofNat L) - 5 < nI v := by
        show ¬ nI L - 5 < nI v
        rw [k5, pk_sub (by omega)]
        exact nI_nlt (by omega) (by omega)
      rw [if_neg hc, gar_n (by omega) (by omega), e5]
      have key : ∀ (te_length : Int32) (te_characters : Nat → Int32) (se_operands : Int32) (se_priorities : Nat → Int32) (se_associativities : Nat → Int32) (se_symbols : Nat → Int32) (se_letters : Nat → Int32) (ca_operands : Int32) (ca_priorities : Nat → Int32) (ca_associativities : Nat → Int32) (ca_symbols : Nat → Int32) (ca_letters : Nat → Int32) (st_pipelineLength : Int32) (st_filters : Nat → Int32) (st_variables : Nat → Int32) (hi_size : Int32) (e0_pipelineLength : Int32) (e0_filters : Nat → Int32) (e0_variables : Nat → Int32) (e1_pipelineLength : Int32) (e1_filters : Nat → Int32) (e1_variables : Nat → Int32) (e2_pipelineLength : Int32) (e2_filters : Nat → Int32) (e2_variables : Nat → Int32) (e3_pipelineLength : Int32) (e3_filters : Nat → Int32) (e3_variables : Nat → Int32) (fo_operators : Int32) (fo_roots : Nat → Int32) (fo_leftChildren : Nat → Int32) (fo_rightChildren : Nat → Int32) (fo_counts : Nat → Int32) (tr_operators : Int32) (tr_roots : Nat → Int32) (tr_ranks : Nat → Int32) (tr_allowedRoots : Nat → Int32) (tr_ranksBelowRoot : Nat → Int32) (tr_results : Nat → Int64) (bx_results : Nat → Int64) (md_edits : Int32) (md_operators : Int32) (md_readOperators : Int32) (md_typed : Int32) (md_at : Int32) (md_now : Nat → Int32) (md_history : Nat → Int32) (md_priority : Nat → Int32) (md_assoc : Nat → Int32) (md_symbols : Nat → Int32) (md_operands : Nat → Int32) (md_readPriority : Nat → Int32) (md_readAssoc : Nat → Int32) (md_readSymbols : Nat → Int32) (md_readOperands : Nat → Int32) (md_text : Nat → Int32) (md_trees : Nat → Int32) (md_discarded : Nat → Int32) (md_preorder : Nat → Int32) (md_lowOf : Nat → Int32) (md_highOf : Nat → Int32) (md_parentOf : Nat → Int32) (md_sideOf : Nat → Int32) (md_stack : Nat → Int32) (md_ranks : Nat → Int32) (md_values : Nat → Int64) (md_results : Nat → Int64), RelS te_length te_characters se_operands se_priorities se_associativities se_symbols se_letters st_pipelineLength st_filters st_variables hi_size e0_filters e0_pipelineLength e0_variables e1_filters e1_pipelineLength e1_variables e2_filters e2_pipelineLength e2_variables e3_filters e3_pipelineLength e3_variables md_edits md_operators md_typed md_now md_history md_priority md_assoc md_symbols md_operands md_text → f_L_law_l18 F L xs m (nI (v + 5)) te_length te_characters se_operands se_priorities se_associativities se_symbols se_letters ca_operands ca_priorities ca_associativities ca_symbols ca_letters st_pipelineLength st_filters st_variables hi_size e0_pipelineLength e0_filters e0_variables e1_pipelineLength e1_filters e1_variables e2_pipelineLength e2_filters e2_variables e3_pipelineLength e3_filters e3_variables fo_operators fo_roots fo_leftChildren fo_rightChildren fo_counts tr_operators tr_roots tr_ranks tr_allowedRoots tr_ranksBelowRoot tr_results bx_results md_edits md_operators md_readOperators md_typed md_at md_now md_history md_priority md_assoc md_symbols md_operands md_readPriority md_readAssoc md_readSymbols md_readOperands md_text md_trees md_discarded md_preorder md_lowOf md_highOf md_parentOf md_sideOf md_stack md_ranks md_values md_results = some 1 := fun te_length te_characters se_operands se_priorities se_associativities se_symbols se_letters ca_operands ca_priorities ca_associativities ca_symbols ca_letters st_pipelineLength st_filters st_variables hi_size e0_pipelineLength e0_filters e0_variables e1_pipelineLength e1_filters e1_variables e2_pipelineLength e2_filters e2_variables e3_pipelineLength e3_filters e3_variables fo_operators fo_roots fo_leftChildren fo_rightChildren fo_counts tr_operators tr_roots tr_ranks tr_allowedRoots tr_ranksBelowRoot tr_results bx_results md_edits md_operators md_readOperators md_typed md_at md_now md_history md_priority md_assoc md_symbols md_operands md_readPriority md_readAssoc md_readSymbols md_readOperands md_text md_trees md_discarded md_preorder md_lowOf md_highOf md_parentOf md_sideOf md_stack md_ranks md_values md_results h => ih (v + 5) te_length te_characters se_operands se_priorities se_associativities se_symbols se_letters ca_operands ca_priorities ca_associativities ca_symbols ca_letters st_pipelineLength st_filters st_variables hi_size e0_pipelineLength e0_filters e0_variables e1_pipelineLength e1_filters e1_variables e2_pipelineLength e2_filters e2_variables e3_pipelineLength e3_filters e3_variables fo_operators fo_roots fo_leftChildren fo_rightChildren fo_counts tr_operators tr_roots tr_ranks tr_allowedRoots tr_ranksBelowRoot tr_results bx_results md_edits md_operators md_readOperators md_typed md_at md_now md_history md_priority md_assoc md_symbols md_operands md_readPriority md_readAssoc md_readSymbols md_readOperands md_text md_trees md_discarded md_preorder md_lowOf md_highOf md_parentOf md_sideOf md_stack md_ranks md_values md_results (by omega) (by omega) h
      by_cases z0 : (xs (Int32.toNatClampNeg (nI v)) &&& 31) = 0
      · rw [if_pos z0]
        exact l_c0 hF hI hz hL hR key
      rw [if_neg z0]
      by_cases z1 : (xs (Int32.toNatClampNeg (nI v)) &&& 31) = 1
      · rw [if_pos z1]
        exact l_c1 hF hI hz hL hR key
      rw [if_neg z1]
      by_cases z2 : (xs (Int32.toNatClampNeg (nI v)) &&& 31) = 2
      · rw [if_pos z2]
        exact l_c2 hF hI hz hL hR key
      rw [if_neg z2]
      by_cases z3 : (xs (Int32.toNatClampNeg (nI v)) &&& 31) = 3
      · rw [if_pos z3]
        exact l_c3 hF hI hz hL hR key
      rw [if_neg z3]
      by_cases z4 : (xs (Int32.toNatClampNeg (nI v)) &&& 31) = 4
      · rw [if_pos z4]
        exact l_c4 hF hI hz hL hR key
      rw [if_neg z4]
      by_cases z5 : (xs (Int32.toNatClampNeg (nI v)) &&& 31) = 5
      · rw [if_pos z5]
        exact l_c5 hF hI hz hL hR key
      rw [if_neg z5]
      by_cases z6 : (xs (Int32.toNatClampNeg (nI v)) &&& 31) = 6
      · rw [if_pos z6]
        exact l_c6 hF hI hz hL hR key
      rw [if_neg z6]
      by_cases z7 : (xs (Int32.toNatClampNeg (nI v)) &&& 31) = 7
      · rw [if_pos z7]
        exact l_c7 hF hI hz hL hR key
      rw [if_neg z7]
      by_cases z8 : (xs (Int32.toNatClampNeg (nI v)) &&& 31) = 8
      · rw [if_pos z8]
        exact l_c8 hF hI hz hL hR key
      rw [if_neg z8]
      by_cases z9 : (xs (Int32.toNatClampNeg (nI v)) &&& 31) = 9
      · rw [if_pos z9]
        exact l_c9 hF hI hz hL hR key
      rw [if_neg z9]
      by_cases z10 : (xs (Int32.toNatClampNeg (nI v)) &&& 31) = 10
      · rw [if_pos z10]
        exact l_c10 hF hI hz hL hR key
      rw [if_neg z10]
      by_cases z11 : (xs (Int32.toNatClampNeg (nI v)) &&& 31) = 11
      · rw [if_pos z11]
        exact l_c11 hF hI hz hL hR key
      rw [if_neg z11]
      by_cases z12 : (xs (Int32.toNatClampNeg (nI v)) &&& 31) = 12
      · rw [if_pos z12]
        exact l_c12 hF hI hz hL hR key
      rw [if_neg z12]
      by_cases z13 : (xs (Int32.toNatClampNeg (nI v)) &&& 31) = 13
      · rw [if_pos z13]
        exact l_c13 hF hI hz hL hR key
      rw [if_neg z13]
      by_cases z14 : (xs (Int32.toNatClampNeg (nI v)) &&& 31) = 14
      · rw [if_pos z14]
        exact l_c14 hF hI hz hL hR key
      rw [if_neg z14]
      by_cases z15 : (xs (Int32.toNatClampNeg (nI v)) &&& 31) = 15
      · rw [if_pos z15]
        exact l_c15 hF hI hz hL hR key
      rw [if_neg z15]
      by_cases z16 : (xs (Int32.toNatClampNeg (nI v)) &&& 31) = 16
      · rw [if_pos z16]
        exact l_c16 hF hI hz hL hR key
      rw [if_neg z16]
      by_cases z17 : (xs (Int32.toNatClampNeg (nI v)) &&& 31) = 17
      · rw [if_pos z17]
        exact l_c17 hF hI hz hL hR key
      rw [if_neg z17]
      by_cases z18 : (xs (Int32.toNatClampNeg (nI v)) &&& 31) = 18
      · rw [if_pos z18]
        exact l_c18 hF hI hz hL hR key
      rw [if_neg z18]
      by_cases z19 : (xs (Int32.toNatClampNeg (nI v)) &&& 31) = 19
      · rw [if_pos z19]
        exact l_c19 hF hI hz hL hR key
      rw [if_neg z19]
      by_cases z20 : (xs (Int32.toNatClampNeg (nI v)) &&& 31) = 20
      · rw [if_pos z20]
        exact l_c20 hF hI hz hL hR key
      rw [if_neg z20]
      by_cases z21 : (xs (Int32.toNatClampNeg (nI v)) &&& 31) = 21
      · rw [if_pos z21]
        exact l_c21 hF hI hz hL hR key
      rw [if_neg z21]
      by_cases z22 : (xs (Int32.toNatClampNeg (nI v)) &&& 31) = 22
      · rw [if_pos z22]
        exact l_c22 hF hI hz hL hR key
      rw [if_neg z22]
      by_cases z23 : (xs (Int32.toNatClampNeg (nI v)) &&& 31) = 23
      · rw [if_pos z23]
        exact l_c23 hF hI hz hL hR key
      rw [if_neg z23]
      by_cases z24 : (xs (Int32.toNatClampNeg (nI v)) &&& 31) = 24
      · rw [if_pos z24]
        exact l_c24 hF hI hz hL hR key
      rw [if_neg z24]
      by_cases z25 : (xs (Int32.toNatClampNeg (nI v)) &&& 31) = 25
      · rw [if_pos z25]
        exact l_c25 hF hI hz hL hR key
      rw [if_neg z25]
      by_cases z26 : (xs (Int32.toNatClampNeg (nI v)) &&& 31) = 26
      · rw [if_pos z26]
        exact l_c26 hF hI hz hL hR key
      rw [if_neg z26]
      exact key _ _ _ _ _ _ _ _ _ _ _ _ _ _ _ _ _ _ _ _ _ _ _ _ _ _ _ _ _ _ _ _ _ _ _ _ _ _ _ _ _ _ _ _ _ _ _ _ _ _ _ _ _ _ _ _ _ _ _ _ _ _ _ _ _ _ _ hR
    · have hc : (Int32.ofNat L) - 5 < nI v := by
        show nI L - 5 < nI v
        by_cases y : L < 5
        · exact Int32.lt_of_lt_of_le (by rw [k5]; exact pk_sneg (by omega) y) (nI_pos' (by omega))
        · rw [k5, pk_sub (by omega)]
          exact nI_lt (by omega) (by omega)
      rw [if_pos hc]
theorem law_true {L : Nat} {xs : Nat → Int32} (hL : L ≤ 2560) : f_L_law 4000 L xs = some 1 := by
  obtain ⟨bx, cas, cle, co, cpr, csA, e0F, e0p, e0V, e1F, e1p, e1V, e2F, e2p, e2V, e3F, e3p, e3V, cnt, lf, fop, rt, ro, hi, as, le, so, pr, sA, stF, pl, av, te, tl, tal, top, trk, trb, trs, tro, c1, c2⟩ := q_initC
  obtain ⟨ma, a0, di, ed, hO, hist, lO, now, mO, mo, pO, pre, mp, mrk, rA, rO, rn, rP, rS, mres, sO, stk, mS, md, mtr, my, vals, d1, d2⟩ := q_initM
  obtain ⟨i1, i2, i3, i4, i5, i6⟩ := init_rel (stF := stF) c2 d2
  unfold f_L_law
  rw [c1, Option.bind_some, d1, Option.bind_some, k0]
  exact l_loop (by omega) idx_4000 hL 4000 0 _ _ _ _ _ _ _ _ _ _ _ _ _ _ _ _ _ _ _ _ _ _ _ _ _ _ _ _ _ _ _ _ _ _ _ _ _ _ _ _ _ _ _ _ _ _ _ _ _ _ _ _ _ _ _ _ _ _ _ _ _ _ _ _ _ _ _ (by omega) (by omega) ⟨0, 4, 0, ⟨by omega, i1, i2, fun i hi => by omega⟩, i5, by omega, i3, i4, ⟨fun z => by omega, fun z => by omega, fun z => by omega, fun z => by omega⟩, i6⟩
