/-! 74: the whole text; syntaxError and load -/
theorem m_parse_l {F L : Nat} {te md : Ar} (hT : TK L te md) (hI : IdxOk F) (hF : 300 < F) : ∀ (m1 j s m2 : Nat) (cas cle : Ar) (co : Int32) (cpr csA ra ro : Ar) (rn : Int32) (rp rs : Ar), j ≤ L → L - j < m1 → s ≤ j → L - s < m2 → (∀ q, s ≤ q → q < j → ¬ zz md L q = 59) → RDX co cpr cas csA cle rn rp ra rs ro →
    ∃ (a : Int32) (cas' cle' : Ar) (co' : Int32) (cpr' csA' : Ar) (at' : Int32) (ra' ro' : Ar) (rn' : Int32) (rp' rs' : Ar), f_X5_parse_l8 F te (nI L) m1 (nI s) (nI j) cas cle co cpr csA (fun v2 se_associativities se_letters se_operands se_priorities se_symbols => (if (nI L) ≤ v2 then (some ((-4), se_associativities, se_letters, se_operands, se_priorities, se_symbols)) else (some (v2, se_associativities, se_letters, se_operands, se_priorities, se_symbols)))) = some (a, cas', cle', co', cpr', csA') ∧
      f_X8_read_l9 F md (nI L) m2 (nI s) ra ro rn rp rs (fun md_at md_readAssoc md_readOperands md_readOperators md_readPriority md_readSymbols => (some ((-4), md_at, md_readAssoc, md_readOperands, md_readOperators, md_readPriority, md_readSymbols))) = some (a, at', ra', ro', rn', rp', rs') ∧ (a = -4 → RDX co' cpr' cas' csA' cle' rn' rp' ra' rs' ro') := by
  have hL := hT.1
  intro m1
  induction m1 with
  | zero => intro j s m2 cas cle co cpr csA ra ro rn rp rs h1 h2; omega
  | succ m1 ih =>
    intro j s m2 cas cle co cpr csA ra ro rn rp rs h1 h2 h3 h4 h5 hR
    obtain ⟨m2, rfl⟩ : ∃ z, m2 = z + 1 := ⟨m2 - 1, by omega⟩
    rw [f_X5_parse_l8]
    by_cases hz : L ≤ j
    · have hj : j = L := by omega
      subst hj
      rw [if_pos (nI_le (Nat.le_refl _) (by omega))]
      by_cases hs : s = j
      · subst hs
        rw [if_pos (nI_le (Nat.le_refl _) (by omega)), f_X8_read_l9, if_pos (nI_le (Nat.le_refl _) (by omega))]
        exact ⟨-4, cas, cle, co, cpr, csA, nI s, ra, ro, rn, rp, rs, rfl, rfl, fun _ => hR⟩
      · obtain ⟨a, b, c, d, e, f, y⟩ := m_unterm (m := m2) (ra := ra) (ro := ro) (rp := rp) (rs := rs) (rn := rn) (Y := (fun md_at md_readAssoc md_readOperands md_readOperators md_readPriority md_readSymbols => (some ((-4), md_at, md_readAssoc, md_readOperands, md_readOperators, md_readPriority, md_readSymbols)))) hT hF (show s < j by omega) h5
        rw [if_neg (nI_ge (by omega) (by omega)), y]
        exact ⟨nI s, _, _, _, _, _, _, _, _, _, _, _, rfl, rfl, fun z => absurd z (p4_ne (by omega))⟩
    · rw [if_neg (nI_ge (by omega) (by omega)), gar_n (by omega) (by omega), nI_clamp (by omega), te_zz hT (show j < L by omega), show (59 : Int32) = nI 59 by decide]
      have hlt := zz_lt hT j
      by_cases h6 : zz md L j = 59
      · rw [if_pos (by rw [h6])]
        rcases m_stmt (F := F) (ra := ra) (ro := ro) (rp := rp) (rs := rs) hT hI hF h3 (by omega) h6 h5 hR with ⟨cas', cle', co', cpr', csA', ra', ro', rn', rp', rs', y1, y2, y3⟩ | ⟨⟨x1, x2, x3, x4, x5, y1⟩, y2⟩
        · rw [y1, Option.bind_some, if_neg (show ¬ (1 : Int32) = 0 by decide), y2 m2, nI_1]
          exact ih (j + 1) (j + 1) m2 _ _ _ _ _ _ _ _ _ _ (by omega) (by omega) (by omega) (by omega) (fun q q1 q2 => by omega) y3
        · obtain ⟨a, b, c, d, e, f, y⟩ := y2 m2 (fun md_at md_readAssoc md_readOperands md_readOperators md_readPriority md_readSymbols => (some ((-4), md_at, md_readAssoc, md_readOperands, md_readOperators, md_readPriority, md_readSymbols)))
          rw [y1, Option.bind_some, if_pos rfl, y]
          exact ⟨nI s, _, _, _, _, _, _, _, _, _, _, _, rfl, rfl, fun z => absurd z (p4_ne (by omega))⟩
      · rw [if_neg (fun z => h6 ((nI_eq (by omega) (by omega)).mp z)), nI_1]
        exact ih (j + 1) s (m2 + 1) _ _ _ _ _ _ _ _ _ _ (by omega) (by omega) (by omega) h4 (fun q q1 q2 => by
          by_cases e : q = j
          · rw [e]; exact h6
          · exact h5 q q1 (by omega)) hR
theorem m_rr_l {F : Nat} : ∀ (m v : Nat) (ra rp : Ar) (X : Ar → Ar → Option (Ar × Int32 × Ar)), v ≤ 9 → 9 - v < m → ∃ ra' rp', f_X8_resetReading_l2 F m (nI v) ra rp X = X ra' rp' ∧ (∀ t, v ≤ t → t < 9 → rp' t = -4) ∧ (∀ t, t < v → rp' t = rp t) := by
  intro m
  induction m with
  | zero => intro v ra rp X h1 h2; omega
  | succ m ih =>
    intro v ra rp X h1 h2
    rw [f_X8_resetReading_l2]
    by_cases hz : 9 ≤ v
    · rw [k9, if_pos (nI_le hz (by omega))]
      exact ⟨ra, rp, rfl, fun t _ _ => by omega, fun t _ => rfl⟩
    · rw [k9, if_neg (nI_ge (by omega) (by omega)), gar_n (by omega) (by omega), gar_n (by omega) (by omega), nI_1, nI_clamp (by omega)]
      obtain ⟨ra', rp', e1, e2, e3⟩ := ih (v + 1) (upd ra v 0) (upd rp v (-4)) X (by omega) (by omega)
      refine ⟨ra', rp', e1, fun t h3 h4 => ?_, fun t h3 => ?_⟩
      · by_cases e : t = v
        · subst e; rw [e3 t (by omega), pk_us]
        · exact e2 t (by omega) h4
      · rw [e3 t (by omega), pk_un (by omega)]
theorem m_parse {F L : Nat} {te md : Ar} (hT : TK L te md) (hI : IdxOk F) (hF : 300 < F) (cas cle : Ar) (co : Int32) (cpr csA : Ar) (a0 : Int32) (ra ro : Ar) (rn : Int32) (rp rs : Ar) :
    ∃ (a : Int32) (cas' cle' : Ar) (co' : Int32) (cpr' csA' : Ar) (at' : Int32) (ra' ro' : Ar) (rn' : Int32) (rp' rs' : Ar), f_X5_parse F cas cle co cpr csA te (nI L) = some (a, cas', cle', co', cpr', csA') ∧ f_X8_read F a0 ra ro rn rp rs md (nI L) = some (a, at', ra', ro', rn', rp', rs') ∧ (a = -4 → RDX co' cpr' cas' csA' cle' rn' rp' ra' rs' ro') := by
  have hL := hT.1
  unfold f_X5_parse f_X8_read f_X4_reset f_X8_resetReading
  obtain ⟨pr1, p1, p2, -⟩ := m_fill (F := F) (n := 9) (v := -1) (av := cpr) (by omega) (by omega)
  obtain ⟨ra1, rp1, r1, r2, -⟩ := m_rr_l (F := F) F 0 ra rp (fun md_readAssoc md_readPriority => (some (md_readAssoc, (-4), md_readPriority))) (by omega) (by omega)
  rw [← k0] at r1
  rw [p1, Option.bind_some, Option.bind_some, r1, Option.bind_some]
  simp only []
  rw [k0]
  exact m_parse_l hT hI hF F 0 0 F cas cle (nI 0) pr1 csA ra1 ro (-4) rp1 rs (by omega) (by omega) (by omega) (by omega) (fun q q1 q2 => by omega) ⟨fun t ht => Or.inl ⟨p2 t ht, r2 t (by omega) ht⟩, Or.inl ⟨k0.symm, rfl⟩⟩
theorem TX.tk {L : Nat} {tl my : Int32} {te md : Ar} (h : TX L tl te my md) : TK L te md := ⟨h.1, h.2.2.2⟩
theorem q_syntaxError {F L : Nat} {te md : Ar} {tl my : Int32} (hT : TX L tl te my md) (hI : IdxOk F) (hF : 300 < F) (cas cle : Ar) (co : Int32) (cpr csA : Ar) (a0 : Int32) (ra ro : Ar) (rn : Int32) (rp rs : Ar) : ∃ a u v, f_X7_syntaxError F cas cle co cpr csA te tl = some (a, u) ∧ f_X8_syntaxError F a0 ra ro rn rp rs md my = some (a, v) := by
  have hK := hT.tk
  obtain ⟨-, rfl, rfl, -⟩ := hT
  obtain ⟨a, cas', cle', co', cpr', csA', at', ra', ro', rn', rp', rs', y1, y2, -⟩ := m_parse hK hI hF cas cle co cpr csA a0 ra ro rn rp rs
  unfold f_X7_syntaxError f_X8_syntaxError
  rw [y1, Option.bind_some, y2, Option.bind_some]
  exact ⟨_, _, _, rfl, rfl⟩
theorem m_var {F : Nat} : ∀ (m v : Nat) (av : Ar) (X : Ar → Option (Int32 × Ar)), v ≤ 26 → 26 - v < m → ∃ av', f_X0_reset_l7 F m (nI v) av X = X av' ∧ (∀ t, v ≤ t → t < 26 → av' t = nI (t + 1)) ∧ (∀ t, t < v → av' t = av t) := by
  intro m
  induction m with
  | zero => intro v av X h1 h2; omega
  | succ m ih =>
    intro v av X h1 h2
    rw [f_X0_reset_l7]
    by_cases hz : 26 ≤ v
    · rw [k26, if_pos (nI_le hz (by omega))]
      exact ⟨av, rfl, fun t _ _ => by omega, fun t _ => rfl⟩
    · rw [k26, if_neg (nI_ge (by omega) (by omega)), gar_n (by omega) (by omega), nI_1, nI_clamp (by omega)]
      obtain ⟨av', e1, e2, e3⟩ := ih (v + 1) (upd av v (nI (v + 1))) X (by omega) (by omega)
      refine ⟨av', e1, fun t h3 h4 => ?_, fun t h3 => ?_⟩
      · by_cases e : t = v
        · subst e; rw [e3 t (by omega), pk_us]
        · exact e2 t (by omega) h4
      · rw [e3 t (by omega), pk_un (by omega)]
abbrev R7 : Type := Option (Ar × Int32 × Ar × Ar × Int32 × Ar × Ar)
theorem m_in2 {F : Nat} {ra rp : Ar} : ∀ (m v : Nat) (ma mp : Ar) (X : Ar → Ar → R7), v ≤ 9 → 9 - v < m → ∃ ma' mp', f_X8_install_l2 F ra rp m (nI v) ma mp X = X ma' mp' ∧ (∀ t, v ≤ t → t < 9 → ma' t = ra t ∧ mp' t = rp t) ∧ (∀ t, t < v → ma' t = ma t ∧ mp' t = mp t) := by
  intro m
  induction m with
  | zero => intro v ma mp X h1 h2; omega
  | succ m ih =>
    intro v ma mp X h1 h2
    rw [f_X8_install_l2]
    by_cases hz : 9 ≤ v
    · rw [k9, if_pos (nI_le hz (by omega))]
      exact ⟨ma, mp, rfl, fun t _ _ => by omega, fun t _ => ⟨rfl, rfl⟩⟩
    · rw [k9, if_neg (nI_ge (by omega) (by omega)), gar_n (by omega) (by omega), gar_n (by omega) (by omega), gar_n (by omega) (by omega), gar_n (by omega) (by omega), nI_1, nI_clamp (by omega)]
      obtain ⟨ma', mp', e1, e2, e3⟩ := ih (v + 1) (upd ma v (ra v)) (upd mp v (rp v)) X (by omega) (by omega)
      refine ⟨ma', mp', e1, fun t h3 h4 => ?_, fun t h3 => ?_⟩
      · by_cases e : t = v
        · subst e; rw [(e3 t (by omega)).1, (e3 t (by omega)).2, pk_us, pk_us]; exact ⟨rfl, rfl⟩
        · exact e2 t (by omega) h4
      · rw [(e3 t (by omega)).1, (e3 t (by omega)).2, pk_un (by omega), pk_un (by omega)]; exact ⟨rfl, rfl⟩
theorem m_in48 {F n : Nat} {rs : Ar} (hn : n ≤ 10) : ∀ (m v : Nat) (mS : Ar) (X : Ar → R7), v ≤ n → n - v < m → ∃ mS', f_X8_install_l48 F (nI n) rs m (nI v) mS X = X mS' ∧ (∀ t, v ≤ t → t < n → mS' t = rs t) ∧ (∀ t, t < v → mS' t = mS t) := by
  intro m
  induction m with
  | zero => intro v mS X h1 h2; omega
  | succ m ih =>
    intro v mS X h1 h2
    rw [f_X8_install_l48]
    by_cases hz : n ≤ v
    · rw [if_pos (nI_le hz (by omega))]
      exact ⟨mS, rfl, fun t _ _ => by omega, fun t _ => rfl⟩
    · rw [if_neg (nI_ge (by omega) (by omega)), gar_n (by omega) (by omega), gar_n (by omega) (by omega), nI_1, nI_clamp (by omega)]
      obtain ⟨mS', e1, e2, e3⟩ := ih (v + 1) (upd mS v (rs v)) X (by omega) (by omega)
      refine ⟨mS', e1, fun t h3 h4 => ?_, fun t h3 => ?_⟩
      · by_cases e : t = v
        · subst e; rw [e3 t (by omega), pk_us]
        · exact e2 t (by omega) h4
      · rw [e3 t (by omega), pk_un (by omega)]
theorem m_in76 {F n : Nat} {ro : Ar} (hn : n ≤ 10) : ∀ (m v : Nat) (mO : Ar) (X : Ar → R7), v ≤ n + 1 → n + 1 - v < m → ∃ mO', f_X8_install_l76 F (nI n) ro m (nI v) mO X = X mO' ∧ (∀ t, v ≤ t → t ≤ n → mO' t = ro t) ∧ (∀ t, t < v → mO' t = mO t) := by
  intro m
  induction m with
  | zero => intro v mO X h1 h2; omega
  | succ m ih =>
    intro v mO X h1 h2
    rw [f_X8_install_l76]
    by_cases hz : n < v
    · rw [if_pos (nI_lt hz (by omega))]
      exact ⟨mO, rfl, fun t _ _ => by omega, fun t _ => rfl⟩
    · rw [if_neg (nI_nlt (by omega) (by omega)), gar_n (by omega) (by omega), gar_n (by omega) (by omega), nI_1, nI_clamp (by omega)]
      obtain ⟨mO', e1, e2, e3⟩ := ih (v + 1) (upd mO v (ro v)) X (by omega) (by omega)
      refine ⟨mO', e1, fun t h3 h4 => ?_, fun t h3 => ?_⟩
      · by_cases e : t = v
        · subst e; rw [e3 t (by omega), pk_us]
        · exact e2 t (by omega) h4
      · rw [e3 t (by omega), pk_un (by omega)]
theorem m_in111 {F : Nat} : ∀ (m v : Nat) (now : Ar) (X : Ar → R7), v ≤ 26 → 26 - v < m → ∃ now', f_X8_install_l111 F m (nI v) now X = X now' ∧ (∀ t, v ≤ t → t < 26 → now' (25 + t) = nI (t + 1)) ∧ (∀ t, t < 25 + v → now' t = now t) := by
  intro m
  induction m with
  | zero => intro v now X h1 h2; omega
  | succ m ih =>
    intro v now X h1 h2
    rw [f_X8_install_l111]
    by_cases hz : 26 ≤ v
    · rw [k26, if_pos (nI_le hz (by omega))]
      exact ⟨now, rfl, fun t _ _ => by omega, fun t _ => rfl⟩
    · rw [k26, if_neg (nI_ge (by omega) (by omega)), n25a, gar_n (by omega) (by omega), nI_1, nI_clamp (by omega)]
      obtain ⟨now', e1, e2, e3⟩ := ih (v + 1) (upd now (25 + v) (nI (v + 1))) X (by omega) (by omega)
      refine ⟨now', e1, fun t h3 h4 => ?_, fun t h3 => ?_⟩
      · by_cases e : t = v
        · subst e; rw [e3 _ (by omega), pk_us]
        · exact e2 t (by omega) h4
      · rw [e3 t (by omega), pk_un (by omega)]
theorem m_install {F n : Nat} {ma : Ar} {ed : Int32} {now mO : Ar} {mo : Int32} {mp ra ro rp rs mS : Ar} (hF : 154 < F) (hn : n ≤ 10) : ∃ ma' now' mO' mp' mS', f_X8_install F ma ed now mO mo mp ra ro (nI n) rp rs mS = some (ma', 0, now', mO', nI n, mp', mS') ∧ (∀ t, t < 9 → ma' t = ra t ∧ mp' t = rp t) ∧ (∀ t, t < n → mS' t = rs t) ∧ (∀ t, t ≤ n → mO' t = ro t) ∧ now' 0 = nI 0 ∧ (∀ t, t < 26 → now' (25 + t) = nI (t + 1)) := by
  unfold f_X8_install
  obtain ⟨ma', mp', a1, a2, -⟩ := m_in2 (F := F) (ra := ra) (rp := rp) F 0 ma mp (fun md_assoc md_priority => (f_X8_install_l48 F (nI n) rs F 0 mS (fun md_symbols => (f_X8_install_l76 F (nI n) ro F 0 mO (fun md_operands => (gar 0 51 (f_X8_install_l111 F  F 0 (upd now (Int32.toNatClampNeg 0) 0) (fun md_now => (some (md_assoc, 0, md_now, md_operands, (nI n), md_priority, md_symbols)))))))))) (by omega) (by omega)
  obtain ⟨mS', b1, b2, -⟩ := m_in48 (F := F) (rs := rs) hn F 0 mS (fun md_symbols => (f_X8_install_l76 F (nI n) ro F 0 mO (fun md_operands => (gar 0 51 (f_X8_install_l111 F  F 0 (upd now (Int32.toNatClampNeg 0) 0) (fun md_now => (some (ma', 0, md_now, md_operands, (nI n), mp', md_symbols)))))))) (by omega) (by omega)
  obtain ⟨mO', c1, c2, -⟩ := m_in76 (F := F) (ro := ro) hn F 0 mO (fun md_operands => (gar 0 51 (f_X8_install_l111 F  F 0 (upd now (Int32.toNatClampNeg 0) 0) (fun md_now => (some (ma', 0, md_now, md_operands, (nI n), mp', mS')))))) (by omega) (by omega)
  obtain ⟨now', d1, d2, d3⟩ := m_in111 (F := F) F 0 (upd now (Int32.toNatClampNeg 0) 0) (fun md_now => (some (ma', 0, md_now, mO', (nI n), mp', mS'))) (by omega) (by omega)
  rw [← k0] at a1 b1 c1 d1
  refine ⟨ma', now', mO', mp', mS', ?_, fun t ht => a2 t (by omega) ht, fun t ht => b2 t (by omega) ht, fun t ht => c2 t (by omega) ht, ?_, fun t ht => d2 t (by omega) ht⟩
  · rw [a1, b1, c1, g051, d1]
  · rw [d3 0 (by omega), c00, pk_us, k0]
theorem m_operators0 {F n : Nat} (hn : n ≤ 10) : f_X4_hasExpression F (nI (n + 1)) = some 1 := by
  unfold f_X4_hasExpression
  rw [if_neg (show ¬ nI (n + 1) ≤ 0 by rw [k0]; exact nI_ge (by omega) (by omega))]
theorem c09 : Int32.toNatClampNeg 9 = 9 := by decide
theorem c10 : Int32.toNatClampNeg 10 = 10 := by decide
theorem c11 : Int32.toNatClampNeg 11 = 11 := by decide
/-- what is laid down as the setup, on both sides -/
theorem SE_of {n : Nat} {cpr cas csA cle : Ar} {rp ra rs ro : Ar} {pr as sA le : Ar} {mp ma mS mO : Ar} (hn : n ≤ 10) (hD : DP cpr cas rp ra) (hl : XL n cle ro) (hs : XS n csA rs cpr) (a1 : ∀ t, t < 9 → pr t = cpr t ∧ as t = cas t) (a2 : ∀ t, t < n → sA t = csA t) (a3 : ∀ t, t ≤ n → le t = cle t) (b1 : ∀ t, t < 9 → ma t = ra t ∧ mp t = rp t) (b2 : ∀ t, t < n → mS t = rs t) (b3 : ∀ t, t ≤ n → mO t = ro t) : SE n (nI (n + 1)) pr as sA le (nI n) mp ma mS mO := by
  refine ⟨hn, rfl, rfl, ⟨fun i => (csA i).toNatClampNeg, fun i hi => ?_⟩, fun i hi => ?_, fun i hi => ?_, fun i hi => ?_, fun t ht => ?_⟩
  · obtain ⟨t, t1, t2, t3, t4⟩ := hs i hi
    show mS i = nI ((csA i).toNatClampNeg) ∧ (csA i).toNatClampNeg < 9 ∧ mp ((csA i).toNatClampNeg) = pr ((csA i).toNatClampNeg) ∧ ma ((csA i).toNatClampNeg) = as ((csA i).toNatClampNeg) ∧ ∃ z, z < 3 ∧ as ((csA i).toNatClampNeg) = nI z
    rw [t2, nI_clamp (by omega), b2 i hi, (b1 t t1).1, (b1 t t1).2, (a1 t t1).1, (a1 t t1).2]
    rcases hD t t1 with ⟨h1, -⟩ | ⟨d, z, h1, h2, h3, h4, h5, h6⟩
    · exact absurd h1 t4
    · exact ⟨t3, t1, h4.trans h3.symm, h6.trans h5.symm, z, h2, h5⟩
  · obtain ⟨t, t1, t2, t3, t4⟩ := hs i hi
    rw [a2 i hi, b2 i hi, t2, t3]
  · obtain ⟨z, z1, z2, z3⟩ := hl i hi
    exact ⟨z, z1, by rw [a3 i hi, z2]⟩
  · obtain ⟨z, z1, z2, z3⟩ := hl i hi
    rw [b3 i hi, a3 i hi, z2, z3]
  · rw [(a1 t ht).1, (b1 t ht).2]
    rcases hD t ht with ⟨h1, h2⟩ | ⟨d, z, h1, h2, h3, h4, h5, h6⟩
    · exact Or.inl ⟨h1, h2⟩
    · exact Or.inr ⟨by rw [h3]; exact nI_not_m1 d (by omega), h4.trans h3.symm⟩
theorem SX_new {stF av now : Ar} (h0 : now 0 = nI 0) (h1 : ∀ t, t < 26 → av t = nI (t + 1)) (h2 : ∀ t, t < 26 → now (25 + t) = nI (t + 1)) : SX 0 stF av now :=
  ⟨0, fun _ => (0, 0, 0, 0), by omega, k0, h0, fun i hi => by omega, fun i hi => by omega, fun j hj => by rw [h1 j hj, h2 j hj]⟩
/-- the class's taking of a text that was read well -/
theorem m_take {F n : Nat} {te : Ar} {tl : Int32} {cas cle : Ar} {co : Int32} {cpr csA cas' cle' cpr' csA' : Ar} {hi : Int32} {as le : Ar} {so : Int32} {pr sA : Ar} {pl : Int32} {av : Ar} (hF : 154 < F) (hn : n ≤ 10) (hp : f_X5_parse F cas cle co cpr csA te tl = some (-4, cas', cle', nI (n + 1), cpr', csA')) : ∃ as' le' pr' sA' av', f_X7_takeSetup F cas cle co cpr csA hi as le so pr sA pl av te tl = some (1, cas', cle', nI (n + 1), cpr', csA', 0, as', le', nI (n + 1), pr', sA', 0, av') ∧ (∀ t, t < 9 → pr' t = cpr' t ∧ as' t = cas' t) ∧ (∀ t, t < n → sA' t = csA' t) ∧ (∀ t, t ≤ n → le' t = cle' t) ∧ (∀ t, t < 26 → av' t = nI (t + 1)) := by
  unfold f_X7_takeSetup
  obtain ⟨av', a1, a2, -⟩ := m_var (F := F) F 0 av (fun st_variables => (some (0, st_variables))) (by omega) (by omega)
  rw [← k0] at a1
  rw [hp, Option.bind_some, if_pos rfl]
  simp only []
  rw [m_operators0 hn, Option.bind_some, if_neg (show ¬ (1 : Int32) = 0 by decide)]
  unfold f_X4_copyFrom f_X0_reset f_X3_reset
  rw [Option.bind_some, a1, Option.bind_some, Option.bind_some]
  refine ⟨_, _, _, _, av', rfl, fun t ht => ⟨?_, ?_⟩, fun t ht => ?_, fun t ht => ?_, fun t ht => a2 t (by omega) ht⟩
  · show va_cpy cpr' pr (Int32.toNatClampNeg 0) (Int32.toNatClampNeg 0) (Int32.toNatClampNeg 9) t = _
    rw [c00, c09]; exact sb_cpy0 ht
  · show va_cpy cas' as (Int32.toNatClampNeg 0) (Int32.toNatClampNeg 0) (Int32.toNatClampNeg 9) t = _
    rw [c00, c09]; exact sb_cpy0 ht
  · show va_cpy csA' sA (Int32.toNatClampNeg 0) (Int32.toNatClampNeg 0) (Int32.toNatClampNeg 10) t = _
    rw [c00, c10]; exact sb_cpy0 (by omega)
  · show va_cpy cle' le (Int32.toNatClampNeg 0) (Int32.toNatClampNeg 0) (Int32.toNatClampNeg 11) t = _
    rw [c00, c11]; exact sb_cpy0 (by omega)
