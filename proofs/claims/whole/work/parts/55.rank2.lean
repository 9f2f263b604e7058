/-! 55: the rank among survivors, both sides -/
theorem m_ri_l12 {F n k len : Nat} {P D P' D' : PT} {cnt lf rt ra ro : Ar} (hF : 12 < F) (h : FA P' D' n cnt lf rt) (hn : n ≤ 10) (hv : VT P D 0 n 0 k) (hT : TL P D n k ra ro) (hl : 1 ≤ len) (hl2 : len ≤ n) : ∀ (m low : Nat) (rbA : Ar) (X : Ar → Option (Int32 × Ar)), low + len ≤ n + 1 → n + 1 - (low + len) < m → RBok P D P' D' n k rbA (fun x y => y - x < len ∨ (y - x = len ∧ x < low)) →
    ∃ rb', f_X6_rankIn_l12 F (nI len) cnt lf rt (nI n) ra ro m (nI low) rbA X = X rb' ∧ RBok P D P' D' n k rb' (fun x y => y - x ≤ len) := by
  intro m
  induction m with
  | zero => intro low rbA X h1 h2; omega
  | succ m ih =>
    intro low rbA X h1 h2 hR
    rw [f_X6_rankIn_l12, nI_add]
    by_cases hz : n < low + len
    · rw [if_pos (nI_lt hz (by omega))]
      exact ⟨rbA, rfl, fun q a b c k' q1 q2 q3 => hR q a b c k' q1 q2 (by have := tT_spec hv q1 q2; omega)⟩
    · rw [if_neg (nI_nlt (by omega) (by omega)), m_hasSub (by omega), Option.bind_some, bI_ite, k1, nI_add]
      by_cases y : ra (low * 11 + (low + len)) = -1
      · rw [hasB_f.mpr y]
        simp only [Bool.false_eq_true, if_false]
        refine ih (low + 1) rbA X (by omega) (by omega) (fun q a b c k' q1 q2 q3 => ?_)
        by_cases e : a = low ∧ b = low + len
        · obtain ⟨rfl, rfl⟩ := e
          exact absurd y (hT.1 q _ _ c k' q1 q2).1
        · exact hR q a b c k' q1 q2 (by have := tT_spec hv q1 q2; omega)
      · rw [hasB_t.mpr y]
        simp only [if_true]
        obtain ⟨q, c, k', q1, q2, q3⟩ := hT.2 low (low + len) (by omega) (by omega) y
        rw [m_rankBelow hF h hn hv hT (show q < n by omega) q3 (fun x a b c' k'' x1 x2 x3 => hR x a b c' k'' x1 x2 (by omega)), Option.bind_some]
        refine ih (low + 1) _ X (by omega) (by omega) (fun q' a b c' k'' r1 r2 r3 => ?_)
        by_cases e : a = low ∧ b = low + len
        · obtain ⟨rfl, rfl⟩ := e
          have e : q' = q := nd_uniq n 0 n 0 k q' q _ _ c' k'' (by omega) hv (by omega) r1 (by omega) (by omega) c k' r2 q3
          subst e
          have e2 := r2.symm.trans q3
          injection e2 with _ e2
          injection e2 with _ e2
          injection e2 with x3 x4
          subst x3; subst x4
          rw [pk_us]
        · have := tT_spec hv r1 r2
          rw [pk_un (sp_ne (by omega) (by omega) (by omega))]
          exact hR q' a b c' k'' r1 r2 (by omega)
theorem m_ri_l2 {F n k : Nat} {P D P' D' : PT} {cnt lf rt ra ro : Ar} (hF : 12 < F) (h : FA P' D' n cnt lf rt) (hn : n ≤ 10) (hv : VT P D 0 n 0 k) (hT : TL P D n k ra ro) : ∀ (m len : Nat) (rbA : Ar) (X : Ar → Option (Int32 × Ar)), 1 ≤ len → len ≤ n + 1 → n + 1 - len < m → RBok P D P' D' n k rbA (fun x y => y - x < len) →
    ∃ rb', f_X6_rankIn_l2 F cnt lf rt (nI n) ra ro m (nI len) rbA X = X rb' ∧ RBok P D P' D' n k rb' (fun _ _ => True) := by
  intro m
  induction m with
  | zero => intro len rbA X h1 h2 h3; omega
  | succ m ih =>
    intro len rbA X h1 h2 h3 hR
    rw [f_X6_rankIn_l2]
    by_cases hz : n < len
    · rw [if_pos (nI_lt hz (by omega))]
      exact ⟨rbA, rfl, fun q a b c k' q1 q2 q3 => hR q a b c k' q1 q2 (by have := tT_spec hv q1 q2; omega)⟩
    · rw [if_neg (nI_nlt (by omega) (by omega)), k0]
      obtain ⟨rb1, e1, e2⟩ := m_ri_l12 hF h hn hv hT h1 (by omega) F 0 rbA (fun tr_ranksBelowRoot => (f_X6_rankIn_l2 F cnt lf rt (nI n) ra ro m (nI len + 1) tr_ranksBelowRoot X)) (by omega) (by omega) (fun q a b c k' q1 q2 q3 => hR q a b c k' q1 q2 (by omega))
      rw [e1, k1, nI_add]
      exact ih (len + 1) rb1 X (by omega) (by omega) (by omega) (fun q a b c k' q1 q2 q3 => e2 q a b c k' q1 q2 (by omega))
theorem tT_top {P D : PT} {n k : Nat} (h : 0 < n) : tT P D n k (tQ P D 0 n 0 k) = (0, n, 0, k) := by
  unfold tT
  obtain ⟨n', rfl⟩ : ∃ y, n = y + 1 := ⟨n - 1, by omega⟩
  exact nd_top
theorem m_rankIn {F n k : Nat} {P D P' D' : PT} {cnt lf rt ra ro rbA : Ar} (hF : 12 < F) (h : FA P' D' n cnt lf rt) (hn : n ≤ 10) (hv : k < Sc P D 0 n (fun _ => true)) (hT : TL P D n k ra ro) : ∃ rb', f_X6_rankIn F cnt lf rt (nI n) ra rbA ro = some (nI (rk P D P' D' 10 0 n 0 k), rb') := by
  unfold f_X6_rankIn
  obtain ⟨rb1, e1, e2⟩ := m_ri_l2 hF h hn (vt_n hv) hT F 1 rbA (fun tr_ranksBelowRoot => ((f_X6_rankOf F 0 (nI n) (-1) cnt tr_ranksBelowRoot ro).bind fun o62 => (some (o62, tr_ranksBelowRoot)))) (by omega) (by omega) (by omega) (fun q a b c k' q1 q2 q3 => by have := tT_spec (vt_n hv) q1 q2; omega)
  rw [← k1] at e1
  have e3 := m_rankOfC (rbA := rb1) (P' := P') (D' := D') hF h hn (vt_n hv) hT (Nat.zero_le n) (Nat.le_refl n) (show 0 ≤ 2 * n by omega) (vt_n hv) (fun z => tT_top z) (fun z => by
    have w := vt_all z (vt_n hv)
    exact e2 _ 0 n 0 k w.2.1 (tT_top z) trivial)
  rw [show aw lf rt 0 = -1 from rfl, ← k0] at e3
  rw [e1, e3]
  exact ⟨rb1, rfl⟩
theorem pw_lt {P D : PT} : ∀ (f lo hi c k i : Nat), hi - lo ≤ f → VT P D lo hi c k → i < hi - lo → lo ≤ pw P D f lo hi c k i ∧ pw P D f lo hi c k i < hi := by
  intro f
  induction f with
  | zero => intro lo hi c k i h1 h2 h3; omega
  | succ f ih =>
    intro lo hi c k i h1 h2 h3
    obtain ⟨b1, b2, b3, b4, b5, b6, b7, b8⟩ := vt_all (by omega) h2
    rw [pw]
    by_cases z : i = 0
    · rw [if_pos z]; exact ⟨b1, b2⟩
    · rw [if_neg z]
      by_cases y : i - 1 < tQ P D lo hi c k - lo
      · rw [if_pos y]
        have := ih lo _ _ _ (i - 1) (by omega) b7 y
        exact ⟨this.1, by omega⟩
      · rw [if_neg y]
        have := ih _ hi _ _ (i - 1 - (tQ P D lo hi c k - lo)) (by omega) b8 (by omega)
        exact ⟨by omega, this.2⟩
theorem pw_left {P D : PT} : ∀ (f lo hi c k i a b c' k' : Nat), hi - lo ≤ f → VT P D lo hi c k → i < hi - lo → nd P D f lo hi c k (pw P D f lo hi c k i) = (a, b, c', k') → (a < pw P D f lo hi c k i → i + 1 < hi - lo ∧ pw P D f lo hi c k (i + 1) = tQ P D a (pw P D f lo hi c k i) (1 + 2 * pw P D f lo hi c k i) (tL P D a b c' k')) ∧ (pw P D f lo hi c k i + 1 < b → i + 1 + (pw P D f lo hi c k i - a) < hi - lo ∧ pw P D f lo hi c k (i + 1 + (pw P D f lo hi c k i - a)) = tQ P D (pw P D f lo hi c k i + 1) b (2 + 2 * pw P D f lo hi c k i) (tR P D a b c' k')) := by
  intro f
  induction f with
  | zero => intro lo hi c k i a b c' k' h1 h2 h3; omega
  | succ f ih =>
    intro lo hi c k i a b c' k' h1 h2 h3 h4
    obtain ⟨b1, b2, b3, b4, b5, b6, b7, b8⟩ := vt_all (by omega) h2
    by_cases z : i = 0
    · subst z
      rw [show pw P D (f + 1) lo hi c k 0 = tQ P D lo hi c k by rw [pw, if_pos rfl]] at h4 ⊢
      rw [nd_top] at h4
      injection h4 with x1 h4
      injection h4 with x2 h4
      injection h4 with x3 x4
      subst x1; subst x2; subst x3; subst x4
      refine ⟨fun y => ⟨by omega, ?_⟩, fun y => ⟨by omega, ?_⟩⟩
      · rw [pw, if_neg (by omega), if_pos (by omega)]
        cases f with
        | zero => omega
        | succ f => rw [show 0 + 1 - 1 = 0 from rfl, pw, if_pos rfl]
      · rw [pw, if_neg (by omega), if_neg (by omega)]
        cases f with
        | zero => omega
        | succ f => rw [show 0 + 1 + (tQ P D lo hi c k - lo) - 1 - (tQ P D lo hi c k - lo) = 0 by omega, pw, if_pos rfl]
    · by_cases y : i - 1 < tQ P D lo hi c k - lo
      · have e : pw P D (f + 1) lo hi c k i = pw P D f lo (tQ P D lo hi c k) (1 + 2 * tQ P D lo hi c k) (tL P D lo hi c k) (i - 1) := by rw [pw, if_neg z, if_pos y]
        have w := pw_lt f lo (tQ P D lo hi c k) (1 + 2 * tQ P D lo hi c k) (tL P D lo hi c k) (i - 1) (by omega) b7 y
        rw [e] at h4 ⊢
        rw [nd, if_neg (by omega), if_pos w.2] at h4
        obtain ⟨i1, i2⟩ := ih lo _ _ _ (i - 1) a b c' k' (by omega) b7 y h4
        have sp := nd_spec (P := P) (D := D) f lo _ _ _ (pw P D f lo (tQ P D lo hi c k) (1 + 2 * tQ P D lo hi c k) (tL P D lo hi c k) (i - 1)) (by omega) b7 w.1 w.2
        obtain ⟨a', b', c'', k'', g1, g2, g3, g4, g5, -⟩ := sp
        rw [h4] at g1
        injection g1 with x1 g1
        injection g1 with x2 g1
        subst x1; subst x2
        refine ⟨fun q => ?_, fun q => ?_⟩
        · obtain ⟨j1, j2⟩ := i1 q
          refine ⟨by omega, ?_⟩
          rw [pw, if_neg (by omega), if_pos (by omega), show i + 1 - 1 = i - 1 + 1 by omega]
          exact j2
        · obtain ⟨j1, j2⟩ := i2 q
          generalize hp : pw P D f lo (tQ P D lo hi c k) (1 + 2 * tQ P D lo hi c k) (tL P D lo hi c k) (i - 1) = p at *
          refine ⟨by omega, ?_⟩
          rw [pw, if_neg (by omega), if_pos (by omega), show i + 1 + (p - a) - 1 = i - 1 + 1 + (p - a) by omega]
          exact j2
      · have e : pw P D (f + 1) lo hi c k i = pw P D f (tQ P D lo hi c k + 1) hi (2 + 2 * tQ P D lo hi c k) (tR P D lo hi c k) (i - 1 - (tQ P D lo hi c k - lo)) := by rw [pw, if_neg z, if_neg y]
        have w := pw_lt f (tQ P D lo hi c k + 1) hi (2 + 2 * tQ P D lo hi c k) (tR P D lo hi c k) (i - 1 - (tQ P D lo hi c k - lo)) (by omega) b8 (by omega)
        rw [e] at h4 ⊢
        rw [nd, if_neg (by omega), if_neg (by omega)] at h4
        obtain ⟨i1, i2⟩ := ih _ hi _ _ (i - 1 - (tQ P D lo hi c k - lo)) a b c' k' (by omega) b8 (by omega) h4
        have sp := nd_spec (P := P) (D := D) f _ hi _ _ (pw P D f (tQ P D lo hi c k + 1) hi (2 + 2 * tQ P D lo hi c k) (tR P D lo hi c k) (i - 1 - (tQ P D lo hi c k - lo))) (by omega) b8 w.1 w.2
        obtain ⟨a', b', c'', k'', g1, g2, g3, g4, g5, -⟩ := sp
        rw [h4] at g1
        injection g1 with x1 g1
        injection g1 with x2 g1
        subst x1; subst x2
        generalize hp : pw P D f (tQ P D lo hi c k + 1) hi (2 + 2 * tQ P D lo hi c k) (tR P D lo hi c k) (i - 1 - (tQ P D lo hi c k - lo)) = p at *
        refine ⟨fun q => ?_, fun q => ?_⟩
        · obtain ⟨j1, j2⟩ := i1 q
          refine ⟨by omega, ?_⟩
          rw [pw, if_neg (by omega), if_neg (by omega), show i + 1 - 1 - (tQ P D lo hi c k - lo) = i - 1 - (tQ P D lo hi c k - lo) + 1 by omega]
          exact j2
        · obtain ⟨j1, j2⟩ := i2 q
          refine ⟨by omega, ?_⟩
          rw [pw, if_neg (by omega), if_neg (by omega), show i + 1 + (p - a) - 1 - (tQ P D lo hi c k - lo) = i - 1 - (tQ P D lo hi c k - lo) + 1 + (p - a) by omega]
          exact j2
/-- who stands left or right of q -/
theorem child_l {P D : PT} {n k : Nat} (hv : VT P D 0 n 0 k) {q a b c k' x a' b' c' k'' : Nat} (hq : q < n) (ht : tT P D n k q = (a, b, c, k')) (hx : x < n) (htx : tT P D n k x = (a', b', c', k'')) : c' = 1 + 2 * q ↔ (a < q ∧ x = tQ P D a q (1 + 2 * q) (tL P D a b c k')) := by
  obtain ⟨s1, s2, s3, s4, s5⟩ := tT_spec hv hq ht
  obtain ⟨b1, b2, b3, b4, b5, b6, b7, b8⟩ := vt_all (by omega) s4
  rw [s5] at b7 b8
  constructor
  · intro e
    subst e
    rcases nd_up n 0 n 0 k x a' b' _ k'' (by omega) hv (by omega) hx htx with ⟨-, -, y, -⟩ | ⟨p, a2, b2', c2, k2, p1, p2, p3, p4, ⟨y1, y2, y3, y4⟩ | ⟨-, -, y, -⟩⟩
    · omega
    · have : p = q := by omega
      subst this
      have e2 := p3.symm.trans ht
      injection e2 with z1 e2
      subst z1
      have h1 := tT_spec hv hx htx
      have hz : a2 < p := by omega
      subst y1; subst y2
      have hl := nd_left n 0 n 0 k b' a' b c k' (by omega) hv (by omega) hq ht hz
      have w := vt_all hz b7
      exact ⟨hz, nd_uniq n 0 n 0 k x _ a' b' _ _ (by omega) hv (by omega) hx (by omega) (by omega) _ _ htx hl⟩
    · omega
  · rintro ⟨hz, rfl⟩
    have hl := nd_left n 0 n 0 k q a b c k' (by omega) hv (by omega) hq ht hz
    have e2 := htx.symm.trans hl
    injection e2 with _ e2
    injection e2 with _ e2
    injection e2 with x3 _
theorem child_r {P D : PT} {n k : Nat} (hv : VT P D 0 n 0 k) {q a b c k' x a' b' c' k'' : Nat} (hq : q < n) (ht : tT P D n k q = (a, b, c, k')) (hx : x < n) (htx : tT P D n k x = (a', b', c', k'')) : c' = 2 + 2 * q ↔ (q + 1 < b ∧ x = tQ P D (q + 1) b (2 + 2 * q) (tR P D a b c k')) := by
  obtain ⟨s1, s2, s3, s4, s5⟩ := tT_spec hv hq ht
  obtain ⟨b1, b2, b3, b4, b5, b6, b7, b8⟩ := vt_all (by omega) s4
  rw [s5] at b7 b8
  constructor
  · intro e
    subst e
    rcases nd_up n 0 n 0 k x a' b' _ k'' (by omega) hv (by omega) hx htx with ⟨-, -, y, -⟩ | ⟨p, a2, b2', c2, k2, p1, p2, p3, p4, ⟨-, -, y, -⟩ | ⟨y1, y2, y3, y4⟩⟩
    · omega
    · omega
    · have : p = q := by omega
      subst this
      have e2 := p3.symm.trans ht
      injection e2 with z1 e2
      injection e2 with z2 e2
      subst z2
      have h1 := tT_spec hv hx htx
      have hz : p + 1 < b2' := by omega
      subst y1; subst y2
      have hl := nd_right n 0 n 0 k p a b' c k' (by omega) hv (by omega) hq ht hz
      have w := vt_all hz b8
      exact ⟨hz, nd_uniq n 0 n 0 k x _ (p + 1) b' _ _ (by omega) hv (by omega) hx (by omega) (by omega) _ _ htx hl⟩
  · rintro ⟨hz, rfl⟩
    have hl := nd_right n 0 n 0 k q a b c k' (by omega) hv (by omega) hq ht hz
    have e2 := htx.symm.trans hl
    injection e2 with _ e2
    injection e2 with _ e2
    injection e2 with x3 _
