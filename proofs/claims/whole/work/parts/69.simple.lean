/-! 69: orderMatters; the simple questions; the text -/
/-- the loaded setup, on both sides -/
def PrOk (pr mp : Ar) : Prop := ∀ s, s < 9 → (pr s = -1 ∧ mp s = -4) ∨ (¬ pr s = -1 ∧ mp s = pr s)
def SE (n : Nat) (so : Int32) (pr as sA le : Ar) (mo : Int32) (mp ma mS mO : Ar) : Prop := n ≤ 10 ∧ so = nI (n + 1) ∧ mo = nI n ∧ (∃ sy, ExM pr as sy n mS mp ma) ∧ (∀ i, i < n → sA i = mS i) ∧ LeOk n le ∧ (∀ i, i ≤ n → mO i = le i) ∧ PrOk pr mp
theorem RQ_of {n K : Nat} {fl : Nat → FL} {pr as sA le stF av : Ar} {so pl : Int32} {mp ma mS mO now : Ar} {mo : Int32} (hE : SE n so pr as sA le mo mp ma mS mO) (hT : ST K fl pl stF av now) : ∃ sy, RQ n K fl sy pr as sA le stF av so pl mp ma mS mO now mo := by
  obtain ⟨e1, e2, e3, ⟨sy, e4⟩, e5, e6, e7, e8⟩ := hE
  obtain ⟨t1, t2, t3, t4, t5, t6⟩ := hT
  exact ⟨sy, e1, t1, e2, e3, t2, t3, fun i hi => ⟨by rw [e5 i hi]; exact (e4 i hi).1, (e4 i hi).2.1⟩, t4, t5, e4, e6, e7, t6⟩
theorem q_orderMatters {F n : Nat} {pr as sA le stF av : Ar} {so pl : Int32} {mp ma mS mO now : Ar} {mo : Int32} (hF : 154 < F) (hE : SE n so pr as sA le mo mp ma mS mO) (hS : SX pl stF av now) (p : Int32) (cnt lf rt ro : Ar) (ops : Int32) (di tr : Ar) :
    ∃ (a : Int32) (c l : Ar) (o : Int32) (r s st' d now' t : Ar), f_X7_orderMatters F p cnt lf ops rt ro as so pr sA stF pl = some (a, c, l, o, r, s, st') ∧ f_X8_orderMatters F p ma di now mo mp mS tr = some (a, d, now', t) ∧ SX pl st' av now' := by
  have hS' := hS
  obtain ⟨K, fl, hT⟩ := hS
  obtain ⟨sy, hn, hK, rfl, rfl, rfl, h0, hs, hf, hN, hM, -⟩ := RQ_of hE hT
  unfold f_X7_orderMatters f_X8_orderMatters
  rw [m_isPos, Option.bind_some, m_isFil hK h0, Option.bind_some, bI_ite, bI_ite]
  cases hb : pB p K with
  | false =>
    simp only [Bool.false_eq_true, if_false]
    exact ⟨_, _, _, _, _, _, _, _, _, _, rfl, rfl, hS'⟩
  | true =>
    obtain ⟨q, hq, rfl⟩ := pB_t (by omega) hb
    simp only [if_true]
    rw [g051, c00, h0, m_isLast hq hK, Option.bind_some, bI_ite]
    by_cases hl : q + 1 = K
    · rw [decide_eq_true hl, if_pos ((lastM hq hK).mpr hl)]
      simp only [if_true]
      exact ⟨_, _, _, _, _, _, _, _, _, _, rfl, rfl, hS'⟩
    · obtain ⟨st1, i1, i2⟩ := m_swC (F := F) (st := stF) (show q + 1 < 6 by omega)
      obtain ⟨now1, j1, j2⟩ := m_swM (F := F) (now := now) hF (show q + 1 < 6 by omega)
      have hU := ST_sw hT (show q + 1 < K by omega) i2 j2
      obtain ⟨u1, u2, u3, u4, u5, u6⟩ := id hU
      obtain ⟨st2, i3, i4⟩ := m_swC (F := F) (st := st1) (show q + 1 < 6 by omega)
      obtain ⟨now2, j3, j4⟩ := m_swM (F := F) (now := now1) hF (show q + 1 < 6 by omega)
      have hV := ST_sw hU (show q + 1 < K by omega) i4 j4
      obtain ⟨c1, l1, r1, s1, a1, -, -⟩ := m_grow (F := F) (K := K) (cnt := cnt) (lf := lf) (rt := rt) (ro := ro) (ops := ops) (by omega) hn hK hs hf
      obtain ⟨d1, t1, b1, -, -⟩ := m_treesBy (F := F) (K := K) (di := di) (tr := tr) (by omega) hK (Nat.le_refl _) hN hM hn
      obtain ⟨c2, l2, r2, s2, a2, -, -⟩ := m_grow (F := F) (K := K) (cnt := c1) (lf := l1) (rt := r1) (ro := s1) (ops := nI n) (by omega) hn hK hs u4
      obtain ⟨d2, t2, b2, -, -⟩ := m_treesBy (F := F) (K := K) (di := d1) (tr := t1) (by omega) hK (Nat.le_refl _) u5 hM hn
      rw [decide_eq_false hl, if_neg (fun z => hl ((lastM hq hK).mp z))]
      simp only [Bool.false_eq_true, if_false]
      rw [a1, Option.bind_some, i1, Option.bind_some, a2, Option.bind_some, i3, Option.bind_some, g051, b1, Option.bind_some, j1, Option.bind_some, g051, u3, b2, Option.bind_some, j3, Option.bind_some]
      simp only []
      by_cases z : nI (nTrees pr as sy fl n K) = nI (nTrees pr as sy (swF fl q) n K)
      · rw [if_pos z, if_pos z]
        exact ⟨_, _, _, _, _, _, _, _, _, _, rfl, rfl, ⟨K, _, hV⟩⟩
      · rw [if_neg z, if_neg z]
        exact ⟨_, _, _, _, _, _, _, _, _, _, rfl, rfl, ⟨K, _, hV⟩⟩
theorem q_symbolOf {F n : Nat} {pr as sA le : Ar} {so : Int32} {mp ma mS mO : Ar} {mo : Int32} (hE : SE n so pr as sA le mo mp ma mS mO) (p : Int32) : ∃ a, f_X7_symbolOf F p so sA = some a ∧ f_X8_symbolOf F p mo mS = some a := by
  obtain ⟨e1, rfl, rfl, e4, e5, e6, e7, e8⟩ := hE
  unfold f_X7_symbolOf f_X8_symbolOf
  rw [m_in1 e1, Option.bind_some, m_operators e1, Option.bind_some, bI_ite]
  cases hb : pB p n with
  | false =>
    simp only [Bool.false_eq_true, if_false]
    by_cases h : p < 0
    · rw [if_pos h]; exact ⟨_, rfl, rfl⟩
    · rw [if_neg h]
      by_cases h2 : nI n ≤ p
      · rw [if_pos h2]; exact ⟨_, rfl, rfl⟩
      · unfold pB at hb
        rw [decide_eq_false h, decide_eq_false h2] at hb
        cases hb
  | true =>
    obtain ⟨q, hq, rfl⟩ := pB_t e1 hb
    simp only [if_true]
    rw [if_neg (Int32.not_lt.mpr (nI_pos' (by omega))), if_neg (nI_ge hq (by omega)), gar_n (by omega) (by omega), nI_clamp (by omega), e5 q hq]
    exact ⟨_, rfl, by rw [gar_n (by omega) (by omega)]⟩
theorem q_priorityOf {F n : Nat} {pr as sA le : Ar} {so : Int32} {mp ma mS mO : Ar} {mo : Int32} (hE : SE n so pr as sA le mo mp ma mS mO) (p : Int32) : ∃ a, f_X7_priorityOf F p pr = some a ∧ f_X8_priorityOf F p mp = some a := by
  obtain ⟨e1, rfl, rfl, e4, e5, e6, e7, e8⟩ := hE
  unfold f_X7_priorityOf f_X8_priorityOf f_X4_isDeclared
  rw [m_symC, Option.bind_some, m_symM, Option.bind_some, bI_ite, bI_ite]
  cases hb : sB p with
  | false => simp only [Bool.false_eq_true, if_false]; exact ⟨_, rfl, rfl⟩
  | true =>
    obtain ⟨q, hq, rfl⟩ := sB_t hb
    simp only [if_true]
    simp only [gar_n hq (show 9 < 2 ^ 31 by omega), nI_clamp (show q < 2 ^ 31 by omega)]
    rcases e8 q hq with ⟨z1, z2⟩ | ⟨z1, z2⟩
    · rw [if_pos z1, Option.bind_some, if_pos rfl, z2]; exact ⟨_, rfl, rfl⟩
    · rw [if_neg z1, Option.bind_some, if_neg (show ¬ (1 : Int32) = 0 by decide), z2]; exact ⟨_, rfl, rfl⟩
theorem q_operatorCount {F n : Nat} {pr as sA le : Ar} {so : Int32} {mp ma mS mO : Ar} {mo : Int32} (hE : SE n so pr as sA le mo mp ma mS mO) : ∃ a, f_X7_operatorCount F so = some a ∧ f_X8_operatorCount F mo = some a := by
  obtain ⟨e1, rfl, rfl, -⟩ := hE
  unfold f_X7_operatorCount f_X8_operatorCount
  rw [m_operators e1, Option.bind_some]
  exact ⟨_, rfl, rfl⟩
theorem q_filterCount {F : Nat} {pl : Int32} {stF av now : Ar} (hS : SX pl stF av now) : ∃ a, f_X7_filterCount F pl = some a ∧ f_X8_filterCount F now = some a := by
  obtain ⟨K, fl, hK, rfl, h0, -⟩ := hS
  unfold f_X7_filterCount f_X8_filterCount
  rw [g051, c00, h0]
  exact ⟨_, rfl, rfl⟩
/-- the text -/
def TX (L : Nat) (tl : Int32) (te : Ar) (my : Int32) (md : Ar) : Prop := L ≤ 200 ∧ tl = nI L ∧ my = nI L ∧ ∀ i, i < L → te i = md i ∧ ∃ z, 32 ≤ z ∧ z < 127 ∧ md i = nI z
theorem ch_id : ∀ z, z < 127 → UInt32.toInt32 (Int32.toUInt32 (nI z) % 65536) = nI z := by decide +kernel
theorem nar_id : ∀ z, z < 127 → vp_nar .char (nI z) = nI z := by decide +kernel
theorem q_append {F L : Nat} {tl my : Int32} {te md : Ar} (hT : TX L tl te my md) (p : Int32) : ∃ (a : Int32) (te' : Ar) (tl' : Int32) (md' : Ar) (my' : Int32) (L' : Nat), f_X7_append F p te tl = some (a, te', tl') ∧ f_X8_append F p md my = some (a, md', my') ∧ TX L' tl' te' my' md' := by
  have hT' := hT
  obtain ⟨hL, rfl, rfl, ht⟩ := hT
  unfold f_X7_append f_X8_append f_X8_in
  by_cases h1 : p < 32
  · rw [if_pos h1, if_pos h1, Option.bind_some, if_pos rfl]
    exact ⟨_, _, _, _, _, L, rfl, rfl, hT'⟩
  · rw [if_neg h1, if_neg h1]
    by_cases h2 : p ≤ 126
    · have h0 : ¬ p < 0 := fun z => h1 (Int32.lt_of_lt_of_le z (by decide))
      obtain ⟨z, hz, rfl⟩ := nI_of h0
      have z1 : z < 127 := by
        rcases Nat.lt_or_ge 126 z with e | e
        · exact absurd h2 (by rw [show (126 : Int32) = nI 126 by decide]; exact nI_ge e hz)
        · omega
      have z2 : 32 ≤ z := by
        rcases Nat.lt_or_ge z 32 with e | e
        · exact absurd (show nI z < 32 by rw [show (32 : Int32) = nI 32 by decide]; exact nI_lt e (by omega)) h1
        · exact e
      rw [if_pos h2, if_neg (Int32.not_lt.mpr h2), Option.bind_some, if_neg (show ¬ (1 : Int32) = 0 by decide), ch_id z z1]
      unfold f_X5_put
      by_cases h3 : L < 200
      · rw [k200, if_pos (nI_lt h3 (by omega)), gar_n h3 (by omega), Option.bind_some, if_neg (show ¬ (1 : Int32) = 0 by decide), if_neg (show ¬ nI L = nI 200 from fun y => by have := (nI_eq (by omega) (by omega)).mp y; omega), gar_n h3 (by omega), nar_id z z1, nI_clamp (by omega), nI_1]
        refine ⟨_, upd te L (nI z), nI (L + 1), upd md L (nI z), nI (L + 1), L + 1, rfl, rfl, by omega, rfl, rfl, fun i hi => ?_⟩
        by_cases e : i = L
        · subst e; rw [pk_us, pk_us]; exact ⟨rfl, z, z2, z1, rfl⟩
        · rw [pk_un e, pk_un e]; exact ht i (by omega)
      · rw [k200, if_neg (nI_nlt (by omega) (by omega)), Option.bind_some, if_pos rfl, if_pos (show nI L = nI 200 by rw [show L = 200 by omega])]
        exact ⟨_, _, _, _, _, L, rfl, rfl, hT'⟩
    · rw [if_neg h2, if_pos (Int32.not_le.mp h2), Option.bind_some, if_pos rfl]
      exact ⟨_, _, _, _, _, L, rfl, rfl, hT'⟩
theorem q_clearText {F L : Nat} {tl my : Int32} {te md : Ar} (hT : TX L tl te my md) : ∃ (a tl' my' : Int32), f_X7_clearText F tl = some (a, tl') ∧ f_X8_clearText F my = some (a, my') ∧ TX 0 tl' te my' md := by
  obtain ⟨hL, rfl, rfl, ht⟩ := hT
  unfold f_X7_clearText f_X8_clearText f_X5_empty
  rw [Option.bind_some]
  exact ⟨_, _, _, rfl, rfl, by omega, k0, k0, fun i hi => by omega⟩
