/-! 53: the operator in preorder; which trees survive -/
theorem m_pre_l {F n k0' : Nat} {P D : PT} {ra ro : Ar} {X : Option Int32} (hn : n ≤ 10) (hv0 : VT P D 0 n 0 k0') (hT : TL P D n k0' ra ro) : ∀ (f lo hi c k i v x : Nat), hi - lo ≤ f → hi ≤ n → lo < hi → VT P D lo hi c k → tT P D n k0' (tQ P D lo hi c k) = (lo, hi, c, k) → i < hi - lo → v + (hi - lo) ≤ n → hi - lo ≤ x →
    f_X6_operatorInPreorder_l13 F (nI n) ro x (nI lo) (nI hi) (nI i) (nI v) X = some (nI (pw P D f lo hi c k i)) := by
  intro f
  induction f with
  | zero => intro lo hi c k i v x h1 h2 h3; omega
  | succ f ih =>
    intro lo hi c k i v x h1 h2 h3 h4 h5 h6 h7 h8
    obtain ⟨b1, b2, b3, b4, b5, b6, b7, b8⟩ := vt_all h3 h4
    obtain ⟨x, rfl⟩ : ∃ y, x = y + 1 := ⟨x - 1, by omega⟩
    obtain ⟨t1, t2⟩ := hT.1 _ lo hi c k (show tQ P D lo hi c k < n by omega) h5
    rw [f_X6_operatorInPreorder_l13, if_neg (nI_ge (by omega) (by omega)), pk_sub (by omega), if_neg (nI_ge (by omega) (by omega)), m_spanIndex, Option.bind_some, gar_n (by omega) (by omega), nI_clamp (by omega), t2, pw]
    by_cases hi0 : i = 0
    · subst hi0
      rw [if_pos (show nI 0 = 0 from nI_0), if_pos rfl]
    · obtain ⟨i, rfl⟩ : ∃ y, i = y + 1 := ⟨i - 1, by omega⟩
      rw [if_neg (show ¬ nI (i + 1) = 0 from nI_ne0 (by omega) (by omega)), if_neg (show ¬ (i + 1 = 0) by omega), nI_dec, pk_sub b1, show i + 1 - 1 = i from rfl]
      by_cases z : i < tQ P D lo hi c k - lo
      · have w := vt_all (show lo < tQ P D lo hi c k by omega) b7
        rw [if_neg (nI_ge z (by omega)), if_pos z, k1, nI_add]
        exact ih lo _ _ _ i (v + 1) x (by omega) (by omega) (by omega) b7 (nd_left n 0 n 0 k0' _ lo hi c k (by omega) hv0 (by omega) (by omega) h5 (by omega)) (by omega) (by omega) (by omega)
      · rw [if_pos (nI_le (by omega) (by omega)), if_neg z, k1, nI_add, nI_add, pk_sub (by omega)]
        exact ih _ hi _ _ _ (v + 1) x (by omega) (by omega) (by omega) b8 (nd_right n 0 n 0 k0' _ lo hi c k (by omega) hv0 (by omega) (by omega) h5 (by omega)) (by omega) (by omega) (by omega)
theorem m_preorder {F n k i : Nat} {P D : PT} {ra ro : Ar} (hF : 12 < F) (hn : n ≤ 10) (hv : k < Sc P D 0 n (fun _ => true)) (hT : TL P D n k ra ro) (hi : i < n) : f_X6_operatorInPreorder F (nI i) (nI n) ro = some (nI (pw P D n 0 n 0 k i)) := by
  unfold f_X6_operatorInPreorder
  rw [k0]
  obtain ⟨n', rfl⟩ : ∃ y, n = y + 1 := ⟨n - 1, by omega⟩
  exact m_pre_l hn (vt_n hv) hT (n' + 1) 0 (n' + 1) 0 k i 0 F (by omega) (Nat.le_refl _) (by omega) (vt_n hv) nd_top (by omega) (by omega) (by omega)
theorem m_preorder_out {F n : Nat} {i : Int32} {ro : Ar} (hF : 12 < F) (hi : nI n ≤ i) : f_X6_operatorInPreorder F i (nI n) ro = some (-4) := by
  unfold f_X6_operatorInPreorder
  obtain ⟨f, rfl⟩ : ∃ f, F = f + 1 := ⟨F - 1, by omega⟩
  rw [f_X6_operatorInPreorder_l13, Int32.sub_zero, if_pos hi]
  by_cases h : nI n ≤ (0 : Int32)
  · rw [if_pos h]
  · rw [if_neg h]
theorem m_cs {F n lo hi : Nat} {w : Int32} {ro : Ar} {r : Nat} (hn : n ≤ 10) (hhi : hi ≤ n) (hlo : lo ≤ hi) (hr : lo < hi → ro (lo * 11 + hi) = nI r) : f_X6_childSurvives F (nI lo) (nI hi) w ro = some (bI (!decide (lo < hi) || bq w r)) := by
  unfold f_X6_childSurvives
  by_cases h : lo < hi
  · rw [if_neg (nI_ge h (by omega)), m_spanIndex, Option.bind_some, gar_n (by omega) (by omega), nI_clamp (by omega), hr h, m_isIn, Option.bind_some, decide_eq_true h]
    cases bq w r <;> rfl
  · rw [if_pos (nI_le (by omega) (by omega)), decide_eq_false h]; rfl
/-- the root of a span in the tree -/
def rN (P D : PT) (a b c k : Nat) : Nat := tQ P D a b c k
def gS (P D P' D' : PT) (a b q c k : Nat) : Bool := D' a b q && ((!decide (a < q) || P' 0 q (tQ P D a q (1 + 2 * q) (tL P D a b c k))) && (!decide (q + 1 < b) || P' 1 q (tQ P D (q + 1) b (2 + 2 * q) (tR P D a b c k))))
theorem m_rootS {F n k0' a b q c k : Nat} {P D P' D' : PT} {ra ro lf rt fro : Ar} (hn : n ≤ 10) (hv0 : VT P D 0 n 0 k0') (hT : TL P D n k0' ra ro) (hP : ∀ s p c, p < n → c < n → PA lf rt s p c = P' s p c) (hD : ∀ lo hi r, lo ≤ r → r < hi → hi ≤ n → DA fro lo hi r = D' lo hi r) (hq : q < n) (ht : tT P D n k0' q = (a, b, c, k)) :
    f_X6_rootSurvives F (nI a) (nI b) lf rt fro ro = some (bI (gS P D P' D' a b q c k)) := by
  obtain ⟨s1, s2, s3, s4, s5⟩ := tT_spec hv0 hq ht
  obtain ⟨t1, t2⟩ := hT.1 q a b c k hq ht
  obtain ⟨b1, b2, b3, b4, b5, b6, b7, b8⟩ := vt_all (by omega) s4
  rw [s5] at b7 b8
  have hl : a < q → ro (a * 11 + q) = nI (tQ P D a q (1 + 2 * q) (tL P D a b c k)) := fun z => (hT.1 _ a q _ _ (by have := vt_all z b7; omega) (nd_left n 0 n 0 k0' q a b c k (by omega) hv0 (by omega) hq ht z)).2
  have hr : q + 1 < b → ro ((q + 1) * 11 + b) = nI (tQ P D (q + 1) b (2 + 2 * q) (tR P D a b c k)) := fun z => (hT.1 _ (q + 1) b _ _ (by have := vt_all z b8; omega) (nd_right n 0 n 0 k0' q a b c k (by omega) hv0 (by omega) hq ht z)).2
  unfold f_X6_rootSurvives f_X2_allowsRoot
  have g1 := hD a b q s1 s2 s3
  unfold DA at g1
  rw [m_spanIndex, Option.bind_some, gar_n (by omega) (by omega), nI_clamp (by omega), t2, Option.bind_some, gar_n (by omega) (by omega), m_isIn, Option.bind_some, gbo_b, Option.bind_some, bI_ite, nI_clamp (show a * 11 + b < 2 ^ 31 by omega), g1, nI_clamp (show q < 2 ^ 31 by omega), gar_n (by omega) (by omega), gar_n (by omega) (by omega), m_cs hn (by omega) s1 hl, Option.bind_some, bI_ite, k1, nI_add, m_cs hn s3 (by omega) hr, Option.bind_some, bI_ite]
  unfold gS
  have e1 : (!decide (a < q) || bq (lf q) (tQ P D a q (1 + 2 * q) (tL P D a b c k))) = (!decide (a < q) || P' 0 q (tQ P D a q (1 + 2 * q) (tL P D a b c k))) := by
    by_cases z : a < q
    · have := vt_all z b7
      have h := hP 0 q (tQ P D a q (1 + 2 * q) (tL P D a b c k)) hq (by omega)
      unfold PA at h
      rw [if_pos rfl] at h
      rw [h]
    · rw [decide_eq_false z]; rfl
  have e2 : (!decide (q + 1 < b) || bq (rt q) (tQ P D (q + 1) b (2 + 2 * q) (tR P D a b c k))) = (!decide (q + 1 < b) || P' 1 q (tQ P D (q + 1) b (2 + 2 * q) (tR P D a b c k))) := by
    by_cases z : q + 1 < b
    · have := vt_all z b8
      have h := hP 1 q (tQ P D (q + 1) b (2 + 2 * q) (tR P D a b c k)) hq (by omega)
      unfold PA at h
      rw [if_neg (by omega)] at h
      rw [h]
    · rw [decide_eq_false z]; rfl
  rw [e1, e2]
  cases D' a b q <;> cases (!decide (a < q) || P' 0 q (tQ P D a q (1 + 2 * q) (tL P D a b c k))) <;> cases (!decide (q + 1 < b) || P' 1 q (tQ P D (q + 1) b (2 + 2 * q) (tR P D a b c k))) <;> rfl
/-- a span of the tree whose root breaks a rule, as the class asks it -/
def badS (P D P' D' : PT) (n k : Nat) (ra : Ar) (a b : Nat) : Prop := ∃ q c k', q < n ∧ tT P D n k q = (a, b, c, k') ∧ gS P D P' D' a b q c k' = false
theorem m_sv_l12 {F n k len : Nat} {P D P' D' : PT} {ra ro lf rt fro : Ar} {X : Option Int32} (hn : n ≤ 10) (hv : VT P D 0 n 0 k) (hT : TL P D n k ra ro) (hP : ∀ s p c, p < n → c < n → PA lf rt s p c = P' s p c) (hD : ∀ lo hi r, lo ≤ r → r < hi → hi ≤ n → DA fro lo hi r = D' lo hi r) (hl : 1 ≤ len) (hl2 : len ≤ n) : ∀ (m low : Nat), low + len ≤ n + 1 → n + 1 - (low + len) < m →
    (f_X6_survives_l12 F (nI len) lf rt fro (nI n) ra ro m (nI low) X = some 0 ∧ ∃ a b, b - a = len ∧ b ≤ n ∧ badS P D P' D' n k ra a b) ∨ (f_X6_survives_l12 F (nI len) lf rt fro (nI n) ra ro m (nI low) X = X ∧ ∀ a b, b - a = len → low ≤ a → b ≤ n → ¬ badS P D P' D' n k ra a b) := by
  intro m
  induction m with
  | zero => intro low h1 h2; omega
  | succ m ih =>
    intro low h1 h2
    rw [f_X6_survives_l12, nI_add]
    by_cases hz : n < low + len
    · rw [if_pos (nI_lt hz (by omega))]
      exact Or.inr ⟨rfl, fun a b z1 z2 z3 => by omega⟩
    · rw [if_neg (nI_nlt (by omega) (by omega)), m_hasSub (by omega), Option.bind_some, bI_ite, k1, nI_add]
      have go : (¬ badS P D P' D' n k ra low (low + len)) → (f_X6_survives_l12 F (nI len) lf rt fro (nI n) ra ro m (nI (low + 1)) X = some 0 ∧ ∃ a b, b - a = len ∧ b ≤ n ∧ badS P D P' D' n k ra a b) ∨ (f_X6_survives_l12 F (nI len) lf rt fro (nI n) ra ro m (nI (low + 1)) X = X ∧ ∀ a b, b - a = len → low ≤ a → b ≤ n → ¬ badS P D P' D' n k ra a b) := by
        intro hb
        rcases ih (low + 1) (by omega) (by omega) with h | ⟨h, h'⟩
        · exact Or.inl h
        · refine Or.inr ⟨h, fun a b z1 z2 z3 => ?_⟩
          by_cases y : a = low
          · rw [y, show b = low + len by omega]; exact hb
          · exact h' a b z1 (by omega) z3
      by_cases y : ra (low * 11 + (low + len)) = -1
      · rw [hasB_f.mpr y]
        simp only [Bool.false_eq_true, if_false]
        refine go ?_
        rintro ⟨q, c, k', q1, q2, -⟩
        exact (hT.1 q _ _ c k' q1 q2).1 y
      · rw [hasB_t.mpr y]
        simp only [if_true]
        obtain ⟨q, c, k', q1, q2, q3⟩ := hT.2 low (low + len) (by omega) (by omega) y
        rw [m_rootS hn hv hT hP hD (show q < n by omega) q3, Option.bind_some, bI_ite]
        cases hg : gS P D P' D' low (low + len) q c k' with
        | false =>
          simp only [Bool.false_eq_true, if_false]
          exact Or.inl ⟨trivial, low, low + len, by omega, by omega, q, c, k', by omega, q3, hg⟩
        | true =>
          simp only [if_true]
          refine go ?_
          rintro ⟨q', c', k'', r1, r2, r3⟩
          have e : q' = q := nd_uniq n 0 n 0 k q' q _ _ c' k'' (by omega) hv (by omega) r1 (by omega) (by omega) c k' r2 q3
          subst e
          have e2 := r2.symm.trans q3
          injection e2 with _ e2
          injection e2 with _ e2
          injection e2 with x3 x4
          subst x3; subst x4
          rw [hg] at r3
          cases r3
theorem m_sv_l2 {F n k : Nat} {P D P' D' : PT} {ra ro lf rt fro : Ar} (hF : 12 < F) (hn : n ≤ 10) (hv : VT P D 0 n 0 k) (hT : TL P D n k ra ro) (hP : ∀ s p c, p < n → c < n → PA lf rt s p c = P' s p c) (hD : ∀ lo hi r, lo ≤ r → r < hi → hi ≤ n → DA fro lo hi r = D' lo hi r) : ∀ (m len : Nat), 1 ≤ len → len ≤ n + 1 → n + 1 - len < m →
    (f_X6_survives_l2 F lf rt fro (nI n) ra ro m (nI len) (some 1) = some 0 ∧ ∃ a b, b ≤ n ∧ badS P D P' D' n k ra a b) ∨ (f_X6_survives_l2 F lf rt fro (nI n) ra ro m (nI len) (some 1) = some 1 ∧ ∀ a b, len ≤ b - a → b ≤ n → ¬ badS P D P' D' n k ra a b) := by
  intro m
  induction m with
  | zero => intro len h1 h2 h3; omega
  | succ m ih =>
    intro len h1 h2 h3
    rw [f_X6_survives_l2]
    by_cases hz : n < len
    · rw [if_pos (nI_lt hz (by omega))]
      exact Or.inr ⟨rfl, fun a b z1 z2 => by omega⟩
    · rw [if_neg (nI_nlt (by omega) (by omega)), show nI len + 1 = nI (len + 1) from nI_1 len]
      have e := m_sv_l12 (F := F) (X := f_X6_survives_l2 F lf rt fro (nI n) ra ro m (nI (len + 1)) (some 1)) hn hv hT hP hD h1 (by omega) F 0 (by omega) (by omega)
      rw [← k0] at e
      rcases e with ⟨e1, a, b, e2, e3, e4⟩ | ⟨e1, e2⟩
      · exact Or.inl ⟨e1, a, b, e3, e4⟩
      · rw [e1]
        rcases ih (len + 1) (by omega) (by omega) (by omega) with h | ⟨h, h'⟩
        · exact Or.inl h
        · refine Or.inr ⟨h, fun a b z1 z2 => ?_⟩
          by_cases y : b - a = len
          · exact e2 a b y (by omega) z2
          · exact h' a b (by omega) z2
/-- the tree stands under other rules, operator by operator -/
def svB (P' D' : PT) (n : Nat) (T : Nat → Nat × Nat × Nat × Nat) : Bool := !anyF (fun q => !(D' (T q).1 (T q).2.1 q && okc P' (T q).2.2.1 q)) 0 n
theorem svB_f {P' D' : PT} {n : Nat} {T : Nat → Nat × Nat × Nat × Nat} : svB P' D' n T = false ↔ ∃ q, q < n ∧ (D' (T q).1 (T q).2.1 q && okc P' (T q).2.2.1 q) = false := by
  unfold svB
  rw [Bool.not_eq_false', anyF_pos]
  constructor
  · rintro ⟨q, -, h2, h3⟩
    exact ⟨q, by omega, (Bool.not_eq_true' _).mp h3⟩
  · rintro ⟨q, h2, h3⟩
    exact ⟨q, by omega, by omega, by rw [h3]; rfl⟩
theorem bad_iff {n k : Nat} {P D P' D' : PT} {ra : Ar} (hv : VT P D 0 n 0 k) : (∃ a b, b ≤ n ∧ badS P D P' D' n k ra a b) ↔ svB P' D' n (tT P D n k) = false := by
  rw [svB_f]
  constructor
  · rintro ⟨a, b, -, q, c, k', q1, q2, q3⟩
    obtain ⟨s1, s2, s3, s4, s5⟩ := tT_spec hv q1 q2
    obtain ⟨b1, b2, b3, b4, b5, b6, b7, b8⟩ := vt_all (by omega) s4
    rw [s5] at b7 b8
    unfold gS at q3
    cases hd : D' a b q with
    | false => exact ⟨q, q1, by rw [q2]; show (D' a b q && _) = false; rw [hd]; rfl⟩
    | true =>
      rw [hd, Bool.true_and, Bool.and_eq_false_iff] at q3
      rcases q3 with q3 | q3
      · rw [Bool.or_eq_false_iff] at q3
        have hz : a < q := by simpa using q3.1
        have ht := nd_left n 0 n 0 k q a b c k' (by omega) hv (by omega) q1 q2 hz
        have w := vt_all hz b7
        refine ⟨tQ P D a q (1 + 2 * q) (tL P D a b c k'), by omega, ?_⟩
        rw [show tT P D n k (tQ P D a q (1 + 2 * q) (tL P D a b c k')) = _ from ht]
        show (_ && okc P' (1 + 2 * q) _) = false
        rw [okc_l, q3.2, Bool.and_false]
      · rw [Bool.or_eq_false_iff] at q3
        have hz : q + 1 < b := by simpa using q3.1
        have ht := nd_right n 0 n 0 k q a b c k' (by omega) hv (by omega) q1 q2 hz
        have w := vt_all hz b8
        refine ⟨tQ P D (q + 1) b (2 + 2 * q) (tR P D a b c k'), by omega, ?_⟩
        rw [show tT P D n k (tQ P D (q + 1) b (2 + 2 * q) (tR P D a b c k')) = _ from ht]
        show (_ && okc P' (2 + 2 * q) _) = false
        rw [okc_r, q3.2, Bool.and_false]
  · rintro ⟨q, q1, q2⟩
    obtain ⟨a, b, c, k', hT⟩ : ∃ a b c k', tT P D n k q = (a, b, c, k') := ⟨_, _, _, _, rfl⟩
    rw [hT] at q2
    replace q2 : (D' a b q && okc P' c q) = false := q2
    obtain ⟨s1, s2, s3, s4, s5⟩ := tT_spec hv q1 hT
    cases hd : D' a b q with
    | false => exact ⟨a, b, s3, q, c, k', q1, hT, by unfold gS; rw [hd]; rfl⟩
    | true =>
      rw [hd, Bool.true_and] at q2
      rcases nd_up n 0 n 0 k q a b c k' (by omega) hv (by omega) q1 hT with ⟨-, -, x, -⟩ | ⟨p, a', b', c'', k'', p1, p2, p3, p4, p5⟩
      · subst x; cases q2
      · have hb := tT_spec hv p2 p3
        refine ⟨a', b', hb.2.2.1, p, c'', k'', p2, p3, ?_⟩
        unfold gS
        rcases p5 with ⟨x1, x2, x3, x4⟩ | ⟨x1, x2, x3, x4⟩
        · subst x1; subst x2; subst x3; subst x4
          rw [okc_l] at q2
          rw [decide_eq_true (show a < b by omega), s5, q2]
          simp
        · subst x1; subst x2; subst x3; subst x4
          rw [okc_r] at q2
          rw [decide_eq_true (show p + 1 < b by omega), s5, q2]
          simp
theorem m_survC {F n k : Nat} {P D P' D' : PT} {ra ro lf rt fro : Ar} (hF : 12 < F) (hn : n ≤ 10) (hv : k < Sc P D 0 n (fun _ => true)) (hT : TL P D n k ra ro) (hP : ∀ s p c, p < n → c < n → PA lf rt s p c = P' s p c) (hD : ∀ lo hi r, lo ≤ r → r < hi → hi ≤ n → DA fro lo hi r = D' lo hi r) : f_X6_survives F lf rt fro (nI n) ra ro = some (bI (svB P' D' n (tT P D n k))) := by
  unfold f_X6_survives
  have e := m_sv_l2 hF hn (vt_n hv) hT hP hD F 1 (by omega) (by omega) (by omega)
  rw [← k1] at e
  rcases e with ⟨e1, e2⟩ | ⟨e1, e2⟩
  · rw [e1, (bad_iff (vt_n hv)).mp e2]; rfl
  · have : svB P' D' n (tT P D n k) = true := by
      cases h : svB P' D' n (tT P D n k) with
      | true => rfl
      | false =>
        obtain ⟨a, b, h1, h2⟩ := (bad_iff (ra := ra) (vt_n hv)).mpr h
        have hab : 1 ≤ b - a := by
          obtain ⟨q, c, k', q1, q2, -⟩ := h2
          obtain ⟨s1, s2, -⟩ := tT_spec (vt_n hv) q1 q2
          omega
        exact absurd h2 (e2 a b hab h1)
    rw [e1, this]; rfl
