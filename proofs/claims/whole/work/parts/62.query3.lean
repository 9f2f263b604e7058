/-! 62: survivorRank -/
theorem m_isTree {F n K k : Nat} {fl : Nat → FL} {sy : Nat → Nat} {pr as : Ar} {mp ma mS now : Ar} (hF : 121 < F) (hn : n ≤ 10) (hK : K ≤ 6) (hN : NowF now fl K) (hE : ExM pr as sy n mS mp ma) (hk : k < 2 ^ 31) (di tr hO lO pO pre sO st : Ar) :
    ∃ d t hO' lO' pO' pre' sO' st', f_X8_isTree F (nI k) ma di hO lO now (nI n) pO pre mp sO st mS tr = some (bI (decide (k < nTrees pr as sy fl n 0)), d, hO', lO', pO', pre', sO', st', t) ∧ (k < nTrees pr as sy fl n 0 → TM (Pk pr as sy fl 0) (Dk pr as sy fl n 0) n k hO' lO' pO' pre' sO') := by
  unfold f_X8_isTree
  obtain ⟨d1, t1, m1, -, m3⟩ := m_treesBy (F := F) (K := 0) (di := di) (tr := tr) hF hK (Nat.zero_le _) hN hE hn
  have hle := nTrees_le (pr := pr) (as := as) (sy := sy) (fl := fl) (n := n) (k := 0) hn
  rw [← k0] at m1
  rw [m1, Option.bind_some]
  by_cases h : k < nTrees pr as sy fl n 0
  · obtain ⟨hO', lO', pO', pre', sO', st', w1, w2⟩ := m_unrank (F := F) (hO := hO) (lO := lO) (pO := pO) (pre := pre) (sO := sO) (st := st) (k := k) (by omega) (Nat.zero_le _) (hN.mono (Nat.zero_le _)) hE hn m3 h
    rw [← k0] at w1
    rw [if_pos (nI_lt h (by omega)), w1, Option.bind_some, decide_eq_true h]
    exact ⟨_, _, _, _, _, _, _, _, rfl, fun _ => w2⟩
  · rw [if_neg (nI_nlt (by omega) hk), decide_eq_false h]
    exact ⟨_, _, _, _, _, _, _, _, rfl, fun z => absurd z h⟩
theorem q_survivorRank {F n K : Nat} {fl : Nat → FL} {sy : Nat → Nat} {pr as sA le stF av : Ar} {so pl : Int32} {mp ma mS mO now : Ar} {mo : Int32} (hF : 121 < F) (hR : RQ n K fl sy pr as sA le stF av so pl mp ma mS mO now mo) (p p2 : Int32) (cnt lf rt ro : Ar) (ops x : Int32) (al ra rbA tro : Ar) (di tr hO lO pO pre rA sO st : Ar) :
    ∃ a u v, f_X7_survivorRank F p p2 cnt lf ops rt ro as so pr sA stF pl al x ra rbA tro = some (a, u) ∧ f_X8_survivorRank F p p2 ma di hO lO now mo pO pre mp rA sO st mS tr = some (a, v) := by
  have hR' := hR
  obtain ⟨hn, hK, rfl, rfl, rfl, h0, hs, hf, hN, hE, -⟩ := hR
  unfold f_X7_survivorRank f_X8_survivorRank
  rw [m_isFC, Option.bind_some, m_isPre h0, Option.bind_some, bI_ite, bI_ite]
  cases hb : inB p K with
  | false =>
    simp only [Bool.false_eq_true, if_false]
    exact ⟨_, _, _, rfl, rfl⟩
  | true =>
    obtain ⟨j, hj, rfl⟩ := inB_t hK hb
    simp only [if_true]
    by_cases h2 : 0 ≤ p2
    · rw [if_pos h2, if_pos h2]
      obtain ⟨k, hk, rfl⟩ := nI_of (x := p2) (Int32.not_lt.mpr h2)
      obtain ⟨b, c, l, o, r, s, al', x', ra', tro', g1, g2, g3⟩ := m_selTree hF hR' (Nat.zero_le K) hk cnt lf rt ro ops x al ra tro
      obtain ⟨d, t, hO', lO', pO', pre', sO', st', m1, m2⟩ := m_isTree hF hn hK hN hE hk di tr hO lO pO pre sO st
      rw [← k0] at g1
      rw [g1, Option.bind_some, m1, Option.bind_some, bI_ite, bI_ite]
      by_cases h : k < nTrees pr as sy fl n 0
      · have hb2 : b = true := g2.trans (decide_eq_true h)
        obtain ⟨q1, q2, -, -, q5⟩ := g3 hb2
        subst q1; subst q2; subst hb2
        rw [decide_eq_true h]
        simp only [if_true]
        obtain ⟨c1, l1, r1, s1, e1, e2, e3⟩ := m_grow (F := F) (K := j) (cnt := c) (lf := l) (rt := r) (ro := s) (ops := nI n) hF hn (by omega) hs (fun i hi => hf i (by omega))
        obtain ⟨d2, t2, w1, w2, w3⟩ := m_build (F := F) (di := d) (tr := t) hF hK hj hN hE hn
        have sC := m_survC (F := F) (by omega) hn h q5 (fun s p c hp hc => e2.1 s p c hp hc) (fun lo hi r a1 a2 a3 => e2.2 lo hi r a1 a2 a3)
        have sM := m_survM (F := F) (by omega) (show j ≤ 6 by omega) (hN.mono hj) hE hn h (m2 h) w2
        rw [e1, Option.bind_some, w1, Option.bind_some, sC, Option.bind_some, sM, Option.bind_some, bI_ite, bI_ite]
        cases svB (Pk pr as sy fl j) (Dk pr as sy fl n j) n (tT (Pk pr as sy fl 0) (Dk pr as sy fl n 0) n k) with
        | false => simp only [Bool.false_eq_true, if_false]; exact ⟨_, _, _, rfl, rfl⟩
        | true =>
          simp only [if_true]
          obtain ⟨rb', z1⟩ := m_rankIn (F := F) (P' := Pk pr as sy fl j) (D' := Dk pr as sy fl n j) (cnt := c1) (lf := l1) (rt := r1) (rbA := rbA) (by omega) ⟨e2.1, e3⟩ hn h q5
          obtain ⟨rA', z2⟩ := m_rankM (F := F) (rA := rA) (by omega) (show j ≤ 6 by omega) (hN.mono hj) hE hn h (m2 h) w3
          rw [z1, Option.bind_some, z2, Option.bind_some]
          exact ⟨_, _, _, rfl, rfl⟩
      · have hb2 : b = false := g2.trans (decide_eq_false h)
        subst hb2
        rw [decide_eq_false h]
        simp only [Bool.false_eq_true, if_false]
        exact ⟨_, _, _, rfl, rfl⟩
    · rw [if_neg h2, if_neg h2]; exact ⟨_, _, _, rfl, rfl⟩
