/-! 64: derivations -/
theorem q_derivations {F n K : Nat} {fl : Nat → FL} {sy : Nat → Nat} {pr as sA le stF av : Ar} {so pl : Int32} {mp ma mS mO now : Ar} {mo : Int32} (hF : 121 < F) (hR : RQ n K fl sy pr as sA le stF av so pl mp ma mS mO now mo) (p p2 p3 p4 : Int32) (cnt lf rt ro : Ar) (ops : Int32) (di tr : Ar) :
    ∃ a u v, f_X7_derivations F p p2 p3 p4 cnt lf ops rt ro as so pr sA stF pl = some (a, u) ∧ f_X8_derivations F p p2 p3 p4 ma di now mo mp mS tr = some (a, v) := by
  obtain ⟨hn, hK, rfl, rfl, rfl, h0, hs, hf, hN, hE, -⟩ := hR
  unfold f_X7_derivations f_X7_derivations_b24 f_X7_derivations_b25 f_X8_derivations
  rw [m_operators hn, Option.bind_some, m_isFC, Option.bind_some, Option.bind_some, m_isPre h0, Option.bind_some, bI_ite, bI_ite, bI_ite]
  cases hb : inB p K with
  | false =>
    simp only [Bool.false_eq_true, if_false, ite_self]
    exact ⟨_, _, _, rfl, rfl⟩
  | true =>
    obtain ⟨j, hj, rfl⟩ := inB_t hK hb
    simp only [if_true]
    by_cases h2 : p2 < 0
    · rw [if_pos h2, if_pos h2]; exact ⟨_, _, _, rfl, rfl⟩
    · rw [if_neg h2, if_neg h2]
      by_cases h3 : p3 ≤ p2
      · rw [if_pos h3]
        by_cases h4 : nI n < p3
        · rw [if_pos h4]; exact ⟨_, _, _, rfl, rfl⟩
        · rw [if_neg h4, if_pos h3]; exact ⟨_, _, _, rfl, rfl⟩
      · rw [if_neg h3]
        by_cases h4 : nI n < p3
        · rw [if_pos h4, if_pos h4]; exact ⟨_, _, _, rfl, rfl⟩
        · rw [if_neg h4, if_neg h4, if_neg h3]
          obtain ⟨lo, hlo, rfl⟩ := nI_of h2
          have h5 : ¬ p3 < 0 := fun z => h3 (Int32.le_trans (Int32.le_of_lt z) (nI_pos' hlo))
          obtain ⟨hi, hhi, rfl⟩ := nI_of h5
          have c1 : lo < hi := by
            rcases Nat.lt_or_ge lo hi with e | e
            · exact e
            · exact absurd (nI_le e hlo) h3
          have c2 : hi ≤ n := by
            rcases Nat.lt_or_ge n hi with e | e
            · exact absurd (nI_lt e hhi) h4
            · exact e
          rw [if_neg (show ¬ (1 : Int32) = 0 by decide)]
          unfold f_X8_in
          rw [show nI hi - 1 = nI (hi - 1) by rw [show hi = (hi - 1) + 1 by omega, nI_pred]; rfl]
          by_cases h6 : p4 < nI lo
          · rw [if_pos h6, if_pos h6, Option.bind_some, if_pos rfl]; exact ⟨_, _, _, rfl, rfl⟩
          · rw [if_neg h6, if_neg h6]
            have h7 : ¬ p4 < 0 := fun z => h6 (Int32.lt_of_lt_of_le z (nI_pos' hlo))
            obtain ⟨q, hq, rfl⟩ := nI_of h7
            have c3 : lo ≤ q := by
              rcases Nat.lt_or_ge q lo with e | e
              · exact absurd (nI_lt e hlo) h6
              · exact e
            by_cases c4 : q < hi
            · obtain ⟨k1', l1, r1, s1, e1, e2, e3⟩ := m_grow (F := F) (K := j) (cnt := cnt) (lf := lf) (rt := rt) (ro := ro) (ops := ops) hF hn (by omega) hs (fun i hi => hf i (by omega))
              obtain ⟨d2, t2, w1, w2, w3⟩ := m_build (F := F) (K := j) (di := di) (tr := tr) hF hK hj hN hE hn
              have hd := m_deriv (F := F) (c := 0) ⟨e2.1, e3⟩ hn (by omega) c3 c4 c2
              rw [show aw l1 r1 0 = -1 from rfl] at hd
              rw [if_pos (nI_lt c4 (by omega)), if_neg (nI_nlt (by omega) (by omega)), Option.bind_some, if_neg (show ¬ (1 : Int32) = 0 by decide), e1, Option.bind_some, w1, Option.bind_some, hd, Option.bind_some, eSp, eIx, gar_n (by omega) (by omega), nI_clamp (by omega), show tG (Pk pr as sy fl j) (Dk pr as sy fl n j) lo hi 0 q = Cc (Pk pr as sy fl j) (Dk pr as sy fl n j) lo hi q by unfold tG; rw [okc_0, if_pos rfl]]
              simp only [w3 lo hi q c3 c4 c2 trivial]
              exact ⟨_, _, _, rfl, rfl⟩
            · rw [if_neg (nI_nlt (by omega) hq), if_pos (nI_lt (by omega) hq), Option.bind_some, if_pos rfl]
              exact ⟨_, _, _, rfl, rfl⟩
