/-! 60: questions: what both sides hold; treeCount -/
/-- what both sides hold, as far as questions ask it -/
def RQ (n K : Nat) (fl : Nat → FL) (sy : Nat → Nat) (pr as sA le stF av : Ar) (so pl : Int32) (mp ma mS mO now : Ar) (mo : Int32) : Prop :=
  n ≤ 10 ∧ K ≤ 6 ∧ so = nI (n + 1) ∧ mo = nI n ∧ pl = nI K ∧ now 0 = nI K ∧ (∀ i, i < n → sA i = nI (sy i) ∧ sy i < 9) ∧ (∀ i, i < K → stF i = fcode (fl i) ∧ okF (fl i)) ∧ NowF now fl K ∧ ExM pr as sy n mS mp ma ∧ LeOk n le ∧ (∀ i, i ≤ n → mO i = le i) ∧ (∀ j, j < 26 → now (25 + j) = av j)
def inB (p : Int32) (K : Nat) : Bool := !decide (p < 0) && !decide (nI K < p)
theorem m_isFC {F K : Nat} {p : Int32} : f_X7_isFilterCount F p (nI K) = some (bI (inB p K)) := by
  unfold f_X7_isFilterCount inB
  by_cases h : p < 0
  · rw [if_pos h, decide_eq_true h]; rfl
  · rw [if_neg h, decide_eq_false h]
    by_cases h2 : nI K < p
    · rw [if_pos h2, decide_eq_true h2]; rfl
    · rw [if_neg h2, decide_eq_false h2]; rfl
theorem m_isPre {F K : Nat} {p : Int32} {now : Ar} (h : now 0 = nI K) : f_X8_isPrefix F p now = some (bI (inB p K)) := by
  unfold f_X8_isPrefix f_X8_in inB
  rw [show gar 0 51 = gar (α := Int32) (nI 0) 51 by rw [← k0], gar_n (by omega) (by omega), show Int32.toNatClampNeg 0 = 0 by decide, h]
  by_cases h : p < 0
  · rw [if_pos h, decide_eq_true h]; rfl
  · rw [if_neg h, decide_eq_false h]
    by_cases h2 : nI K < p
    · rw [if_pos h2, decide_eq_true h2]; rfl
    · rw [if_neg h2, decide_eq_false h2]; rfl
theorem inB_t {p : Int32} {K : Nat} (hK : K ≤ 6) (h : inB p K = true) : ∃ j, j ≤ K ∧ p = nI j := by
  unfold inB at h
  rw [Bool.and_eq_true, Bool.not_eq_true', Bool.not_eq_true', decide_eq_false_iff_not, decide_eq_false_iff_not] at h
  rcases i_cases p K (by omega) with (e | e) | e
  · exact absurd e h.1
  · exact absurd e h.2
  · exact e
theorem q_treeCount {F n K : Nat} {fl : Nat → FL} {sy : Nat → Nat} {pr as sA le stF av : Ar} {so pl : Int32} {mp ma mS mO now : Ar} {mo : Int32} (hF : 121 < F) (hR : RQ n K fl sy pr as sA le stF av so pl mp ma mS mO now mo) (p : Int32) (cnt lf rt ro : Ar) (ops : Int32) (di tr : Ar) :
    ∃ a c l o r s d t, f_X7_treeCount F p cnt lf ops rt ro as so pr sA stF pl = some (a, c, l, o, r, s) ∧ f_X8_treeCount F p ma di now mo mp mS tr = some (a, d, t) := by
  obtain ⟨hn, hK, rfl, rfl, rfl, h0, hs, hf, hN, hE, -⟩ := hR
  unfold f_X7_treeCount f_X8_treeCount
  rw [m_isFC, Option.bind_some, m_isPre h0, Option.bind_some, bI_ite, bI_ite]
  cases hb : inB p K with
  | false =>
    simp only [Bool.false_eq_true, if_false]
    exact ⟨_, _, _, _, _, _, _, _, rfl, rfl⟩
  | true =>
    obtain ⟨j, hj, rfl⟩ := inB_t hK hb
    obtain ⟨c1, l1, r1, s1, e1, -, -⟩ := m_grow (F := F) (K := j) (cnt := cnt) (lf := lf) (rt := rt) (ro := ro) (ops := ops) hF hn (by omega) hs (fun i hi => hf i (by omega))
    obtain ⟨d1, t1, g1, -, -⟩ := m_treesBy (F := F) (di := di) (tr := tr) hF hK hj hN hE hn
    simp only [if_true]
    rw [e1, Option.bind_some, g1, Option.bind_some]
    exact ⟨_, _, _, _, _, _, _, _, rfl, rfl⟩
