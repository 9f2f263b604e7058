/-! 61: questions about one tree: operatorAt, value -/
theorem m_selTree {F n K j k : Nat} {fl : Nat → FL} {sy : Nat → Nat} {pr as sA le stF av : Ar} {so pl : Int32} {mp ma mS mO now : Ar} {mo : Int32} (hF : 121 < F) (hR : RQ n K fl sy pr as sA le stF av so pl mp ma mS mO now mo) (hj : j ≤ K) (hk : k < 2 ^ 31) (cnt lf rt ro : Ar) (ops x : Int32) (al ra tro : Ar) :
    ∃ b c l o r s al' x' ra' tro', f_X7_selectTree F (nI j) (nI k) cnt lf ops rt ro as so pr sA stF al x ra tro = some (bI b, c, l, o, r, s, al', x', ra', tro') ∧ b = decide (k < nTrees pr as sy fl n j) ∧ (b = true → o = nI n ∧ x' = nI n ∧ FS pr as sy fl n j l r s ∧ FA (Pk pr as sy fl j) (Dk pr as sy fl n j) n c l r ∧ TL (Pk pr as sy fl j) (Dk pr as sy fl n j) n k ra' tro') := by
  obtain ⟨hn, hK, rfl, rfl, rfl, h0, hs, hf, hN, hE, -⟩ := hR
  unfold f_X7_selectTree
  obtain ⟨c1, l1, r1, s1, e1, e2, e3⟩ := m_grow (F := F) (K := j) (cnt := cnt) (lf := lf) (rt := rt) (ro := ro) (ops := ops) hF hn (by omega) hs (fun i hi => hf i (by omega))
  have hle := nTrees_le (pr := pr) (as := as) (sy := sy) (fl := fl) (n := n) (k := j) hn
  rw [e1, Option.bind_some]
  by_cases h : k < nTrees pr as sy fl n j
  · have hFA : FA (Pk pr as sy fl j) (Dk pr as sy fl n j) n c1 l1 r1 := ⟨e2.1, e3⟩
    obtain ⟨al1, ra1, ro1, g1, g2⟩ := m_select (F := F) (x := x) (al := al) (ra := ra) (ro := tro) hF hFA hn h
    rw [if_pos (nI_lt h (by omega)), g1, Option.bind_some]
    exact ⟨true, _, _, _, _, _, _, _, _, _, rfl, (decide_eq_true h).symm, fun _ => ⟨rfl, rfl, e2, hFA, g2⟩⟩
  · rw [if_neg (nI_nlt (by omega) hk)]
    exact ⟨false, _, _, _, _, _, _, _, _, _, rfl, (decide_eq_false h).symm, fun z => by cases z⟩
theorem q_operatorAt {F n K : Nat} {fl : Nat → FL} {sy : Nat → Nat} {pr as sA le stF av : Ar} {so pl : Int32} {mp ma mS mO now : Ar} {mo : Int32} (hF : 121 < F) (hR : RQ n K fl sy pr as sA le stF av so pl mp ma mS mO now mo) (p p2 p3 : Int32) (cnt lf rt ro : Ar) (ops x : Int32) (al ra tro : Ar) (di tr hO lO pO pre sO st : Ar) :
    ∃ a u v, f_X7_operatorAt F p p2 p3 cnt lf ops rt ro as so pr sA stF pl al x ra tro = some (a, u) ∧ f_X8_operatorAt F p p2 p3 ma di hO lO now mo pO pre mp sO st mS tr = some (a, v) := by
  have hR' := hR
  obtain ⟨hn, hK, rfl, rfl, rfl, h0, hs, hf, hN, hE, -⟩ := hR
  unfold f_X7_operatorAt f_X8_operatorAt
  rw [m_isFC, Option.bind_some, m_isPre h0, Option.bind_some, bI_ite, bI_ite]
  cases hb : inB p K with
  | false =>
    simp only [Bool.false_eq_true, if_false]
    exact ⟨_, _, _, rfl, rfl⟩
  | true =>
    obtain ⟨j, hj, rfl⟩ := inB_t hK hb
    simp only [if_true]
    by_cases h2 : p2 < 0
    · rw [if_pos h2, if_pos h2]; exact ⟨_, _, _, rfl, rfl⟩
    · rw [if_neg h2, if_neg h2]
      obtain ⟨k, hk, rfl⟩ := nI_of h2
      by_cases h3 : 0 ≤ p3
      · rw [if_pos h3, if_pos h3]
        obtain ⟨b, c, l, o, r, s, al', x', ra', tro', g1, g2, g3⟩ := m_selTree hF hR' hj hk cnt lf rt ro ops x al ra tro
        obtain ⟨d1, t1, m1, -, m3⟩ := m_treesBy (F := F) (di := di) (tr := tr) hF hK hj hN hE hn
        have hle := nTrees_le (pr := pr) (as := as) (sy := sy) (fl := fl) (n := n) (k := j) hn
        rw [g1, Option.bind_some, m1, Option.bind_some, bI_ite]
        by_cases h : k < nTrees pr as sy fl n j
        · have hb2 : b = true := g2.trans (decide_eq_true h)
          obtain ⟨q1, q2, -, -, q5⟩ := g3 hb2
          subst q1; subst q2; subst hb2
          simp only [if_true]
          rw [if_neg (nI_ge h (by omega))]
          obtain ⟨i, hi, rfl⟩ := nI_of (x := p3) (Int32.not_lt.mpr h3)
          by_cases hz : i < n
          · obtain ⟨hO', lO', pO', pre', sO', st', w1, w2⟩ := m_unrank (F := F) (hO := hO) (lO := lO) (pO := pO) (pre := pre) (sO := sO) (st := st) (k := k) (by omega) (by omega) (hN.mono hj) hE hn m3 h
            rw [if_pos (nI_lt hz (by omega)), w1, Option.bind_some, m_preorder (by omega) hn h q5 hz, Option.bind_some, gar_n (by omega) (by omega)]
            simp only [nI_clamp (show i < 2 ^ 31 by omega), w2.2 i hz]
            exact ⟨_, _, _, rfl, rfl⟩
          · rw [if_neg (nI_nlt (by omega) hi), m_preorder_out (by omega) (nI_le (by omega) hi), Option.bind_some]
            exact ⟨_, _, _, rfl, rfl⟩
        · have hb2 : b = false := g2.trans (decide_eq_false h)
          subst hb2
          simp only [Bool.false_eq_true, if_false]
          rw [if_pos (nI_le (by omega) hk)]
          exact ⟨_, _, _, rfl, rfl⟩
      · rw [if_neg h3, if_neg h3]
        exact ⟨_, _, _, rfl, rfl⟩
theorem leafM {n : Nat} {F : Nat} {le av mO now : Ar} (hn : n ≤ 10) (hle : LeOk n le) (hm : ∀ i, i ≤ n → mO i = le i) (hv : ∀ j, j < 26 → now (25 + j) = av j) : ∀ i, i ≤ n → f_X8_leaf F (nI i) now mO = some (lvC av le i) := by
  intro i hi
  obtain ⟨z, z1, z2⟩ := hle i hi
  unfold f_X8_leaf lvC
  rw [gar_n (by omega) (by omega), nI_clamp (by omega), hm i hi, z2, k25, nI_add, gar_n (by omega) (by omega), nI_clamp (by omega), nI_clamp (by omega), hv z z1]
theorem lvC_ok (av le : Ar) (i : Nat) : VOK (lvC av le i) := Or.inl ⟨_, rfl⟩
theorem q_value {F n K : Nat} {fl : Nat → FL} {sy : Nat → Nat} {pr as sA le stF av : Ar} {so pl : Int32} {mp ma mS mO now : Ar} {mo : Int32} (hF : 121 < F) (hR : RQ n K fl sy pr as sA le stF av so pl mp ma mS mO now mo) (hss : ∀ i, i < n → sA i = mS i) (p p2 : Int32) (cnt lf rt ro : Ar) (ops x : Int32) (al ra tro : Ar) (res : Nat → Int64) (di tr hO lO pO pre sO st : Ar) (vals : Nat → Int64) :
    ∃ a u v, f_X7_value F p p2 cnt lf ops rt ro as le so pr sA stF pl av al x ra res tro = some (a, u) ∧ f_X8_value F p p2 ma di hO lO now mO mo pO pre mp sO st mS tr vals = some (a, v) := by
  have hR' := hR
  obtain ⟨hn, hK, rfl, rfl, rfl, h0, hs, hf, hN, hE, hle', hmo, hvv⟩ := hR
  unfold f_X7_value f_X8_value
  rw [m_isFC, Option.bind_some, m_isPre h0, Option.bind_some, bI_ite, bI_ite]
  cases hb : inB p K with
  | false =>
    simp only [Bool.false_eq_true, if_false]
    exact ⟨_, _, _, rfl, rfl⟩
  | true =>
    obtain ⟨j, hj, rfl⟩ := inB_t hK hb
    simp only [if_true]
    by_cases h2 : p2 < 0
    · rw [if_pos h2, if_pos h2]; exact ⟨_, _, _, rfl, rfl⟩
    · rw [if_neg h2, if_neg h2]
      obtain ⟨k, hk, rfl⟩ := nI_of h2
      obtain ⟨b, c, l, o, r, s, al', x', ra', tro', g1, g2, g3⟩ := m_selTree hF hR' hj hk cnt lf rt ro ops x al ra tro
      obtain ⟨d1, t1, m1, -, m3⟩ := m_treesBy (F := F) (di := di) (tr := tr) hF hK hj hN hE hn
      have hle := nTrees_le (pr := pr) (as := as) (sy := sy) (fl := fl) (n := n) (k := j) hn
      rw [g1, Option.bind_some, m1, Option.bind_some, bI_ite]
      by_cases h : k < nTrees pr as sy fl n j
      · have hb2 : b = true := g2.trans (decide_eq_true h)
        obtain ⟨q1, q2, -, -, q5⟩ := g3 hb2
        subst q1; subst q2; subst hb2
        simp only [if_true]
        rw [if_pos (nI_lt h (by omega))]
        obtain ⟨hO', lO', pO', pre', sO', st', w1, w2⟩ := m_unrank (F := F) (hO := hO) (lO := lO) (pO := pO) (pre := pre) (sO := sO) (st := st) (k := k) (by omega) (by omega) (hN.mono hj) hE hn m3 h
        obtain ⟨r1, v1⟩ := m_evalC (F := F) (sA := sA) (av := av) (res := res) (by omega) hn hle' h q5
        obtain ⟨r2, v2⟩ := m_evalM (F := F) (sA := mS) (rA := vals) (by omega) hn h w2 (leafM hn hle' hmo hvv) (lvC_ok av le)
        have hev : ∀ (f lo hi c k : Nat), hi - lo ≤ f → hi ≤ n → VT (Pk pr as sy fl j) (Dk pr as sy fl n j) lo hi c k → ev (Pk pr as sy fl j) (Dk pr as sy fl n j) sA (lvC av le) f lo hi c k = ev (Pk pr as sy fl j) (Dk pr as sy fl n j) mS (lvC av le) f lo hi c k := by
          intro f
          induction f with
          | zero => intro lo hi c k _ _ _; rfl
          | succ f ih =>
            intro lo hi c k h1 h2 h3
            rw [ev, ev]
            by_cases hz : lo < hi
            · obtain ⟨b1, b2, b3, b4, b5, b6, b7, b8⟩ := vt_all hz h3
              rw [if_pos hz, if_pos hz, hss _ (by omega), ih _ _ _ _ (by omega) (by omega) b7, ih _ _ _ _ (by omega) (by omega) b8]
            · rw [if_neg hz, if_neg hz]
        rw [w1, Option.bind_some, v1, Option.bind_some, v2, Option.bind_some, hev 10 0 n 0 k (by omega) (by omega) (vt_n h)]
        exact ⟨_, _, _, rfl, rfl⟩
      · have hb2 : b = false := g2.trans (decide_eq_false h)
        subst hb2
        simp only [Bool.false_eq_true, if_false]
        rw [if_neg (nI_nlt (by omega) hk)]
        exact ⟨_, _, _, rfl, rfl⟩
