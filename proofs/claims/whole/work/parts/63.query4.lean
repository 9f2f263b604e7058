/-! 63: discardedBy -/
theorem m_dB {F n K k : Nat} {fl : Nat → FL} {sy : Nat → Nat} {pr as sA le stF av : Ar} {so pl : Int32} {mp ma mS mO now : Ar} {mo : Int32} {al ra tro hO lO pO pre sO st : Ar} (hF : 121 < F) (hR : RQ n K fl sy pr as sA le stF av so pl mp ma mS mO now mo) (h : k < nTrees pr as sy fl n 0) (hT : TL (Pk pr as sy fl 0) (Dk pr as sy fl n 0) n k ra tro) (hM : TM (Pk pr as sy fl 0) (Dk pr as sy fl n 0) n k hO lO pO pre sO)
    {X : Ar → Ar → Ar → Ar → Option (Int32 × Ar × Ar × Int32 × Ar × Ar × Ar × Int32 × Ar × Ar)} {Y : Ar → Ar → Option (Int32 × Ar × Ar × Ar × Ar × Ar × Ar × Ar × Ar)} (hX : ∀ c l r s, ∃ u, X c l r s = some (nI K, u)) (hY : ∀ d t, ∃ w, Y d t = some (nI K, w)) : ∀ (m v : Nat) (cnt lf rt ro di tr : Ar), v ≤ K → K - v < m → FS pr as sy fl n v lf rt ro →
    ∃ a u w, f_X7_discardedBy_l20 F (nI n) as so pr sA stF pl al (nI n) ra tro m (nI v) cnt lf rt ro X = some (a, u) ∧ f_X8_discardedBy_l19 F ma hO lO now mo pO pre mp sO st mS m (nI v) di tr Y = some (a, w) := by
  obtain ⟨hn, hK, rfl, rfl, rfl, h0, hs, hf, hN, hE, -⟩ := hR
  intro m
  induction m with
  | zero => intro v cnt lf rt ro di tr h1 h2; omega
  | succ m ih =>
    intro v cnt lf rt ro di tr h1 h2 hS
    have g0 : ∀ z : Option (Int32 × Ar × Ar × Ar × Ar × Ar × Ar × Ar × Ar), gar 0 51 z = z := fun z => by rw [k0]; exact gar_n (by omega) (by omega)
    rw [f_X7_discardedBy_l20, f_X8_discardedBy_l19, g0, show Int32.toNatClampNeg 0 = 0 by decide, h0]
    by_cases hz : K ≤ v
    · rw [if_pos (nI_le hz (by omega)), if_pos (nI_le hz (by omega))]
      obtain ⟨u, e1⟩ := hX cnt lf rt ro
      obtain ⟨w, e2⟩ := hY di tr
      exact ⟨_, _, _, e1, e2⟩
    · obtain ⟨f1, f2⟩ := hf v (by omega)
      obtain ⟨c1, l1, r1, s1, a1, a2⟩ := m_apply (F := F) (cnt := cnt) (by omega) hn hs f2 hS
      obtain ⟨d2, t2, w1, w2, w3⟩ := m_build (F := F) (K := v + 1) (di := di) (tr := tr) hF hK (by omega) hN hE hn
      have sC := m_survC (F := F) (by omega) hn h hT (fun s p c hp hc => a2.1 s p c hp hc) (fun lo hi r a1 a3 a4 => a2.2 lo hi r a1 a3 a4)
      have sM := m_survM (F := F) (by omega) (show v + 1 ≤ 6 by omega) (hN.mono (by omega)) hE hn h hM w2
      rw [if_neg (nI_ge (by omega) (by omega)), if_neg (nI_ge (by omega) (by omega)), gar_n (by omega) (by omega), nI_clamp (by omega), f1, a1, Option.bind_some, show nI v + 1 = nI (v + 1) from nI_1 v, w1, Option.bind_some, sC, Option.bind_some, sM, Option.bind_some, bI_ite, bI_ite]
      cases svB (Pk pr as sy fl (v + 1)) (Dk pr as sy fl n (v + 1)) n (tT (Pk pr as sy fl 0) (Dk pr as sy fl n 0) n k) with
      | false => simp only [Bool.false_eq_true, if_false]; exact ⟨_, _, _, rfl, rfl⟩
      | true => simp only [if_true]; exact ih (v + 1) c1 l1 r1 s1 d2 t2 (by omega) (by omega) a2
theorem q_discardedBy {F n K : Nat} {fl : Nat → FL} {sy : Nat → Nat} {pr as sA le stF av : Ar} {so pl : Int32} {mp ma mS mO now : Ar} {mo : Int32} (hF : 121 < F) (hR : RQ n K fl sy pr as sA le stF av so pl mp ma mS mO now mo) (p2 : Int32) (cnt lf rt ro : Ar) (ops x : Int32) (al ra tro : Ar) (di tr hO lO pO pre sO st : Ar) :
    ∃ a u v, f_X7_discardedBy F p2 cnt lf ops rt ro as so pr sA stF pl al x ra tro = some (a, u) ∧ f_X8_discardedBy F p2 ma di hO lO now mo pO pre mp sO st mS tr = some (a, v) := by
  have hR' := hR
  obtain ⟨hn, hK, rfl, rfl, rfl, h0, hs, hf, hN, hE, -⟩ := hR
  unfold f_X7_discardedBy f_X8_discardedBy
  by_cases h2 : 0 ≤ p2
  · rw [if_pos h2, if_pos h2]
    obtain ⟨k, hk, rfl⟩ := nI_of (x := p2) (Int32.not_lt.mpr h2)
    obtain ⟨b, c, l, o, r, s, al', x', ra', tro', g1, g2, g3⟩ := m_selTree hF hR' (Nat.zero_le K) hk cnt lf rt ro ops x al ra tro
    obtain ⟨d, t, hO', lO', pO', pre', sO', st', m1, m2⟩ := m_isTree hF hn hK hN hE hk di tr hO lO pO pre sO st
    rw [← k0] at g1
    rw [g1, Option.bind_some, m1, Option.bind_some, bI_ite, bI_ite]
    by_cases h : k < nTrees pr as sy fl n 0
    · have hb2 : b = true := g2.trans (decide_eq_true h)
      obtain ⟨q1, q2, q3, -, q5⟩ := g3 hb2
      subst q1; subst q2; subst hb2
      rw [decide_eq_true h]
      simp only [if_true]
      have g0 : ∀ z : Option (Int32 × Ar × Ar × Ar × Ar × Ar × Ar × Ar × Ar), gar 0 51 z = z := fun z => by rw [k0]; exact gar_n (by omega) (by omega)
      rw [k0]
      exact m_dB hF hR' h q5 (m2 h) (fun c l r s => ⟨_, rfl⟩) (fun d t => ⟨_, by rw [← k0, g0, show Int32.toNatClampNeg 0 = 0 by decide, h0]⟩) F 0 c l r s d t (Nat.zero_le _) (by omega) q3
    · have hb2 : b = false := g2.trans (decide_eq_false h)
      subst hb2
      rw [decide_eq_false h]
      simp only [Bool.false_eq_true, if_false]
      exact ⟨_, _, _, rfl, rfl⟩
  · rw [if_neg h2, if_neg h2]; exact ⟨_, _, _, rfl, rfl⟩
