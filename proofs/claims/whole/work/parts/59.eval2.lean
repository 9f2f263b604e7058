/-! 59: the reference's values -/
theorem m_ev_l41 {F n k0' q a b c k : Nat} {v1 : Int32} {hO lO pO pre sO : Ar} {rA : Nat → Int64} {P D : PT} (hn : n ≤ 10) (hv : VT P D 0 n 0 k0') (hT : TM P D n k0' hO lO pO pre sO) (hq : q < n) (htq : tT P D n k0' q = (a, b, c, k)) : ∀ (m x : Nat) (v7 v8 : Int64) (X : Int64 → Int64 → Option (Int64 × (Nat → Int64))), a ≤ x → x ≤ b → b - x < m →
    f_X8_evaluate_l41 F v1 (nI q) hO pO sO rA m v7 v8 (nI x) X = X (if a < q ∧ x ≤ chL P D a b q c k then rA (chL P D a b q c k) else v7) (if q + 1 < b ∧ x ≤ chR P D a b q c k then rA (chR P D a b q c k) else v8) := by
  obtain ⟨s1, s2, s3, s4, s5⟩ := tT_spec hv hq htq
  obtain ⟨b1, b2, b3, b4, b5, b6, b7, b8⟩ := vt_all (show a < b by omega) s4
  rw [s5] at b7 b8
  have hL : a < q → a ≤ chL P D a b q c k ∧ chL P D a b q c k < q := fun z => by have := vt_all z b7; exact ⟨this.1, this.2.1⟩
  have hR : q + 1 < b → q + 1 ≤ chR P D a b q c k ∧ chR P D a b q c k < b := fun z => by have := vt_all z b8; exact ⟨this.1, this.2.1⟩
  obtain ⟨q1, -, -, -⟩ := hT.1 q hq
  rw [htq] at q1
  replace q1 : hO q = nI b := q1
  intro m
  induction m with
  | zero => intro x v7 v8 X h1 h2 h3; omega
  | succ m ih =>
    intro x v7 v8 X h1 h2 h3
    rw [f_X8_evaluate_l41, gar_n (show q < 10 by omega) (by omega), nI_clamp (show q < 2 ^ 31 by omega), q1]
    by_cases z : b ≤ x
    · rw [if_pos (nI_le z (by omega)), if_neg (fun y => by have := hL y.1; omega), if_neg (fun y => by have := hR y.1; omega)]
    · obtain ⟨a', b', c', k'', hx⟩ : ∃ a' b' c' k'', tT P D n k0' x = (a', b', c', k'') := ⟨_, _, _, _, rfl⟩
      have hc := tT_c hv (show x < n by omega) hx
      obtain ⟨t1, t2, t3, t4⟩ := hT.1 x (by omega)
      rw [hx] at t3 t4
      replace t3 : pO x = par c' := t3
      replace t4 : sO x = sid c' := t4
      have cl : c' = 1 + 2 * q ↔ (a < q ∧ x = chL P D a b q c k) := child_l hv hq htq (show x < n by omega) hx
      have cr : c' = 2 + 2 * q ↔ (q + 1 < b ∧ x = chR P D a b q c k) := child_r hv hq htq (show x < n by omega) hx
      have hp := par_eq (c := c') (q := q) (by omega) (by omega)
      rw [if_neg (nI_ge (by omega) (by omega)), gar_n (by omega) (by omega), gar_n (by omega) (by omega), gar_n (by omega) (by omega), nI_clamp (by omega), t3, t4]
      unfold f_X8_evaluate_b83 f_X8_evaluate_b84
      rw [gar_n (by omega) (by omega), gar_n (by omega) (by omega), gar_n (by omega) (by omega), nI_clamp (by omega), t3, t4, show nI x + 1 = nI (x + 1) from nI_1 x]
      simp only [gar_n (show x < 10 by omega) (show 10 < 2 ^ 31 by omega)]
      rw [ih (x + 1) _ _ X (by omega) (by omega) (by omega), ih (x + 1) _ _ X (by omega) (by omega) (by omega), ih (x + 1) _ _ X (by omega) (by omega) (by omega), ih (x + 1) _ _ X (by omega) (by omega) (by omega)]
      by_cases y : par c' = nI q
      · rw [if_pos y]
        rcases hp.mp y with e | e
        · have e2 := cl.mp e
          have hne : ¬ (q + 1 < b ∧ x = chR P D a b q c k) := fun w => by have := cr.mpr w; omega
          have s0 : sid c' = 0 := (sid_0 (by omega)).mpr (by omega)
          have s1' : ¬ sid c' = 1 := fun w => by have := (sid_1 (by omega)).mp w; omega
          rw [if_pos s0, if_pos y, if_neg s1', if_neg (show ¬ (a < q ∧ x + 1 ≤ chL P D a b q c k) by omega), if_pos (show a < q ∧ x ≤ chL P D a b q c k by omega), ← e2.2]
          congr 1
          by_cases u : q + 1 < b ∧ x ≤ chR P D a b q c k
          · rw [if_pos u, if_pos (by omega)]
          · rw [if_neg u, if_neg (by omega)]
        · have e2 := cr.mp e
          have hne : ¬ (a < q ∧ x = chL P D a b q c k) := fun w => by have := cl.mpr w; omega
          have s0 : ¬ sid c' = 0 := fun w => by have := (sid_0 (by omega)).mp w; omega
          have s1' : sid c' = 1 := (sid_1 (by omega)).mpr (by omega)
          rw [if_neg s0, if_pos y, if_pos s1', if_neg (show ¬ (q + 1 < b ∧ x + 1 ≤ chR P D a b q c k) by omega), if_pos (show q + 1 < b ∧ x ≤ chR P D a b q c k by omega), ← e2.2]
          congr 1
          by_cases u : a < q ∧ x ≤ chL P D a b q c k
          · rw [if_pos u, if_pos (by omega)]
          · rw [if_neg u, if_neg (by omega)]
      · have n1 : ¬ (a < q ∧ x = chL P D a b q c k) := fun w => y (hp.mpr (Or.inl (cl.mpr w)))
        have n2 : ¬ (q + 1 < b ∧ x = chR P D a b q c k) := fun w => y (hp.mpr (Or.inr (cr.mpr w)))
        rw [if_neg y, if_neg y]
        congr 1
        · by_cases u : a < q ∧ x ≤ chL P D a b q c k
          · rw [if_pos u, if_pos (by omega)]
          · rw [if_neg u, if_neg (by omega)]
        · by_cases u : q + 1 < b ∧ x ≤ chR P D a b q c k
          · rw [if_pos u, if_pos (by omega)]
          · rw [if_neg u, if_neg (by omega)]
theorem m_ev_l7 {F n k : Nat} {hO lO pO pre sO sA now opn : Ar} {lv : Nat → Int64} {P D : PT} (hF : 12 < F) (hn : n ≤ 10) (hv : VT P D 0 n 0 k) (hT : TM P D n k hO lO pO pre sO) (hl : ∀ i, i ≤ n → f_X8_leaf F (nI i) now opn = some (lv i)) (hok : ∀ i, VOK (lv i)) : ∀ (m j : Nat) (rA : Nat → Int64) (X : (Nat → Int64) → Option (Int64 × (Nat → Int64))), j ≤ n → j < m → (∀ i a b c k', j ≤ i → i < n → tT P D n k (pw P D n 0 n 0 k i) = (a, b, c, k') → rA (pw P D n 0 n 0 k i) = ev P D sA lv 10 a b c k') →
    ∃ rA', f_X8_evaluate_l7 F hO lO now opn pO pre sO sA m (dj j) rA X = X rA' ∧ (∀ i a b c k', i < n → tT P D n k (pw P D n 0 n 0 k i) = (a, b, c, k') → rA' (pw P D n 0 n 0 k i) = ev P D sA lv 10 a b c k') := by
  intro m
  induction m with
  | zero => intro j rA X h1 h2; omega
  | succ m ih =>
    intro j rA X h1 h2 hI
    rw [f_X8_evaluate_l7]
    cases j with
    | zero =>
      rw [if_pos dj_0]
      exact ⟨rA, rfl, fun i a b c k' i1 => hI i a b c k' (by omega) i1⟩
    | succ j =>
      rw [dj_s, if_neg (nI_pos (by omega))]
      have hw := pw_lt (P := P) (D := D) n 0 n 0 k j (by omega) hv (by omega)
      generalize hq : pw P D n 0 n 0 k j = q at hw
      obtain ⟨a, b, c, k', hx⟩ : ∃ a' b' c' k'', tT P D n k q = (a', b', c', k'') := ⟨_, _, _, _, rfl⟩
      have hqn : q < n := hw.2
      obtain ⟨s1, s2, s3, s4, s5⟩ := tT_spec hv hqn hx
      obtain ⟨b1, b2, b3, b4, b5, b6, b7, b8⟩ := vt_all (show a < b by omega) s4
      rw [s5] at b7 b8
      obtain ⟨t1, t2, t3, t4⟩ := hT.1 q hqn
      rw [hx] at t1 t2
      replace t1 : hO q = nI b := t1
      replace t2 : lO q = nI a := t2
      have tp := hT.2 j (by omega)
      rw [hq] at tp
      have pl := pw_left (P := P) (D := D) n 0 n 0 k j a b c k' (by omega) hv (by omega) (by rw [hq]; exact hx)
      rw [hq] at pl
      obtain ⟨pl1, pl2⟩ := pl
      have fin : ∀ v : Int64, v = ev P D sA lv 10 a b c k' → ∃ rA', f_X8_evaluate_l7 F hO lO now opn pO pre sO sA m (dj j) (vp_updL rA q v) X = X rA' ∧ (∀ i a b c k', i < n → tT P D n k (pw P D n 0 n 0 k i) = (a, b, c, k') → rA' (pw P D n 0 n 0 k i) = ev P D sA lv 10 a b c k') := by
        intro v hvv
        refine ih j _ X (by omega) (by omega) (fun i a' b' c' k'' i1 i2 i3 => ?_)
        by_cases y : pw P D n 0 n 0 k i = q
        · rw [y] at i3 ⊢
          rw [pk_uLs, hvv]
          have e2 := i3.symm.trans hx
          injection e2 with x1 e2
          injection e2 with x2 e2
          injection e2 with x3 x4
          subst x1; subst x2; subst x3; subst x4
          rfl
        · rw [pk_uLn y]
          by_cases y2 : i = j
          · rw [y2] at y; exact absurd hq y
          · exact hI i a' b' c' k'' (by omega) i2 i3
      have hl' : (if a < q ∧ a ≤ chL P D a b q c k' then rA (chL P D a b q c k') else lv q) = ev P D sA lv 10 a q (1 + 2 * q) (tL P D a b c k') := by
        by_cases z : a < q
        · have w := vt_all z b7
          obtain ⟨z1, z2⟩ := pl1 z
          rw [if_pos ⟨z, w.1⟩, show chL P D a b q c k' = _ from z2.symm]
          exact hI (j + 1) _ _ _ _ (by omega) (by omega) (by rw [z2]; exact nd_left n 0 n 0 k q a b c k' (by omega) hv (by omega) hqn hx z)
        · rw [if_neg (by omega), ev, if_neg z, show a = q by omega]
      have hr' : (if q + 1 < b ∧ a ≤ chR P D a b q c k' then rA (chR P D a b q c k') else lv (q + 1)) = ev P D sA lv 10 (q + 1) b (2 + 2 * q) (tR P D a b c k') := by
        by_cases z : q + 1 < b
        · have w := vt_all z b8
          obtain ⟨z1, z2⟩ := pl2 z
          rw [if_pos ⟨z, show a ≤ tQ P D (q + 1) b (2 + 2 * q) (tR P D a b c k') by omega⟩, show chR P D a b q c k' = _ from z2.symm]
          exact hI (j + 1 + (q - a)) _ _ _ _ (by omega) (by omega) (by rw [z2]; exact nd_right n 0 n 0 k q a b c k' (by omega) hv (by omega) hqn hx z)
        · rw [if_neg (by omega), ev, if_neg z]
      have o1 := ev_ok (P := P) (D := D) (sA := sA) hok 10 a q (1 + 2 * q) (tL P D a b c k')
      have o2 := ev_ok (P := P) (D := D) (sA := sA) hok 10 (q + 1) b (2 + 2 * q) (tR P D a b c k')
      rw [gar_n (show j < 10 by omega) (by omega), nI_clamp (show j < 2 ^ 31 by omega), tp, hl q (by omega), Option.bind_some, show nI q + 1 = nI (q + 1) from nI_1 q, hl (q + 1) (by omega), Option.bind_some, gar_n (show q < 10 by omega) (by omega), nI_clamp (show q < 2 ^ 31 by omega), t2, m_ev_l41 hn hv hT hqn hx F a _ _ _ (Nat.le_refl _) (by omega) (by omega), hl', hr', m_failM o1, Option.bind_some, bI_ite, m_failM o2, Option.bind_some, bI_ite, gar_n (show q < 10 by omega) (by omega), m_apply8, Option.bind_some, gar_n (show q < 10 by omega) (by omega), gar_n (show q < 10 by omega) (by omega)]
      have en := ev_nd (sA := sA) (lv := lv) (show a < b by omega) (by omega) s4 s5
      unfold nV at en
      cases h1 : flB (ev P D sA lv 10 a q (1 + 2 * q) (tL P D a b c k')) with
      | true =>
        rw [h1] at en
        simp only [if_true] at en ⊢
        exact fin _ en.symm
      | false =>
        rw [h1] at en
        simp only [Bool.false_eq_true, if_false] at en ⊢
        cases h2 : flB (ev P D sA lv 10 (q + 1) b (2 + 2 * q) (tR P D a b c k')) with
        | true =>
          rw [h2] at en
          simp only [if_true] at en ⊢
          exact fin _ en.symm
        | false =>
          rw [h2] at en
          simp only [Bool.false_eq_true, if_false] at en ⊢
          rw [gar_n (show q < 10 by omega) (by omega)]
          exact fin _ en.symm
theorem m_evalM {F n k : Nat} {hO lO pO pre sO sA now opn : Ar} {lv rA : Nat → Int64} {P D : PT} (hF : 12 < F) (hn : n ≤ 10) (hv : k < Sc P D 0 n (fun _ => true)) (hT : TM P D n k hO lO pO pre sO) (hl : ∀ i, i ≤ n → f_X8_leaf F (nI i) now opn = some (lv i)) (hok : ∀ i, VOK (lv i)) : ∃ rA', f_X8_evaluate F hO lO now opn (nI n) pO pre sO sA rA = some (ev P D sA lv 10 0 n 0 k, rA') := by
  unfold f_X8_evaluate
  obtain ⟨r1, e1, e2⟩ := m_ev_l7 (F := F) (sA := sA) hF hn (vt_n hv) hT hl hok F n rA (fun md_values => (if nI n = 0 then ((f_X8_leaf F 0 now opn).bind fun o184 => (some (o184, md_values))) else (gar 0 10 (gar (pre (Int32.toNatClampNeg 0)) 10 (some ((md_values (Int32.toNatClampNeg (pre (Int32.toNatClampNeg 0)))), md_values)))))) (Nat.le_refl _) (by omega) (fun i a b c k' i1 i2 => by omega)
  rw [show dj n = nI n - 1 from (Int32.sub_eq_add_neg _ _).symm] at e1
  refine ⟨r1, ?_⟩
  rw [e1]
  by_cases h : n = 0
  · subst h
    rw [if_pos (show nI 0 = 0 from nI_0), k0, hl 0 (by omega), Option.bind_some, ev, if_neg (by omega)]
  · have hp : pw P D n 0 n 0 k 0 = tQ P D 0 n 0 k := by
      obtain ⟨n', rfl⟩ : ∃ y, n = y + 1 := ⟨n - 1, by omega⟩
      rw [pw, if_pos rfl]
    have hw := pw_lt (P := P) (D := D) n 0 n 0 k 0 (by omega) (vt_n hv) (by omega)
    have hr := e2 0 0 n 0 k (by omega) (by rw [hp]; exact tT_top (by omega))
    rw [if_neg (show ¬ nI n = 0 from nI_ne0 (by omega) (by omega)), k0, gar_n (by omega) (by omega), nI_clamp (by omega), hT.2 0 (by omega), gar_n (by omega) (by omega), nI_clamp (by omega), hr]
