/-! 48: trees: the tree of a rank, by operator -/
abbrev PT : Type := Nat → Nat → Nat → Bool
def rs (g : Nat → Nat) : Nat → Nat → Nat → Nat × Nat
  | 0, r, k => (r, k)
  | m + 1, r, k => if k < g r then (r, k) else rs g m (r + 1) (k - g r)
theorem rs_spec {f : Nat → Nat} {ok : Nat → Bool} : ∀ (m r k : Nat), k < tsum f ok r m → r ≤ (rs (fun x => if ok x then f x else 0) m r k).1 ∧ (rs (fun x => if ok x then f x else 0) m r k).1 < r + m ∧ ok (rs (fun x => if ok x then f x else 0) m r k).1 = true ∧ (rs (fun x => if ok x then f x else 0) m r k).2 < f (rs (fun x => if ok x then f x else 0) m r k).1 := by
  intro m
  induction m with
  | zero => intro r k h; rw [tsum] at h; omega
  | succ m ih =>
    intro r k h
    rw [tsum] at h
    rw [rs]
    by_cases hk : k < (if ok r then f r else 0)
    · rw [if_pos hk]
      refine ⟨Nat.le_refl _, by show r < r + (m + 1); omega, ?_, ?_⟩
      · show ok r = true
        cases ho : ok r with
        | true => rfl
        | false => rw [ho] at hk; simp at hk
      · show k < f r
        cases ho : ok r with
        | true => rw [ho] at hk; simpa using hk
        | false => rw [ho] at hk; simp at hk
    · rw [if_neg hk]
      obtain ⟨a, b, c, d⟩ := ih (r + 1) (k - (if ok r then f r else 0)) (by omega)
      exact ⟨by omega, by omega, c, d⟩
/-- what may stand below: 0 at the top, 1 + 2p left of p, 2 + 2p right of p -/
def okc (P : PT) (c x : Nat) : Bool := if c = 0 then true else P ((c - 1) % 2) ((c - 1) / 2) x
theorem okc_0 (P : PT) (x : Nat) : okc P 0 x = true := rfl
theorem okc_l (P : PT) (q x : Nat) : okc P (1 + 2 * q) x = P 0 q x := by unfold okc; rw [if_neg (by omega), show (1 + 2 * q - 1) % 2 = 0 by omega, show (1 + 2 * q - 1) / 2 = q by omega]
theorem okc_r (P : PT) (q x : Nat) : okc P (2 + 2 * q) x = P 1 q x := by unfold okc; rw [if_neg (by omega), show (2 + 2 * q - 1) % 2 = 1 by omega, show (2 + 2 * q - 1) / 2 = q by omega]
def tG (P D : PT) (lo hi c : Nat) (x : Nat) : Nat := if okc P c x then Cc P D lo hi x else 0
def tQ (P D : PT) (lo hi c k : Nat) : Nat := (rs (tG P D lo hi c) (hi - lo) lo k).1
def tK (P D : PT) (lo hi c k : Nat) : Nat := (rs (tG P D lo hi c) (hi - lo) lo k).2
def tS (P D : PT) (lo hi c k : Nat) : Nat := Sc P D (tQ P D lo hi c k + 1) hi (P 1 (tQ P D lo hi c k))
def tL (P D : PT) (lo hi c k : Nat) : Nat := tK P D lo hi c k / tS P D lo hi c k
def tR (P D : PT) (lo hi c k : Nat) : Nat := tK P D lo hi c k % tS P D lo hi c k
/-- a rank that a span has -/
def VT (P D : PT) (lo hi c k : Nat) : Prop := k < Sc P D lo hi (okc P c)
theorem vt_all {P D : PT} {lo hi c k : Nat} (h : lo < hi) (hk : VT P D lo hi c k) : lo ≤ tQ P D lo hi c k ∧ tQ P D lo hi c k < hi ∧ okc P c (tQ P D lo hi c k) = true ∧ D lo hi (tQ P D lo hi c k) = true ∧ 0 < tS P D lo hi c k ∧ tK P D lo hi c k < Cc P D lo hi (tQ P D lo hi c k) ∧ VT P D lo (tQ P D lo hi c k) (1 + 2 * tQ P D lo hi c k) (tL P D lo hi c k) ∧ VT P D (tQ P D lo hi c k + 1) hi (2 + 2 * tQ P D lo hi c k) (tR P D lo hi c k) := by
  have hk2 : k < tsum (Cc P D lo hi) (okc P c) lo (hi - lo) := by
    unfold VT Sc Sf at hk
    rw [if_pos h] at hk
    exact hk
  obtain ⟨a1, a2, a3, a4⟩ := rs_spec (f := Cc P D lo hi) (ok := okc P c) (hi - lo) lo k hk2
  have b1 : lo ≤ tQ P D lo hi c k := a1
  have b2 : tQ P D lo hi c k < hi := by have : tQ P D lo hi c k < lo + (hi - lo) := a2; omega
  have b3 : okc P c (tQ P D lo hi c k) = true := a3
  have b4 : tK P D lo hi c k < Cc P D lo hi (tQ P D lo hi c k) := a4
  have b5 := b4
  rw [Cc_eq b1 b2] at b5
  have hd : D lo hi (tQ P D lo hi c k) = true := by
    cases e : D lo hi (tQ P D lo hi c k) with
    | true => rfl
    | false => rw [e] at b5; simp at b5
  rw [hd] at b5
  simp only [if_true] at b5
  have hs : 0 < tS P D lo hi c k := by
    rcases Nat.eq_zero_or_pos (tS P D lo hi c k) with e | e
    · exfalso
      unfold tS at e
      rw [e, Nat.mul_zero] at b5
      omega
    · exact e
  refine ⟨b1, b2, b3, hd, hs, b4, ?_, ?_⟩
  · unfold VT tL
    rw [show okc P (1 + 2 * tQ P D lo hi c k) = P 0 (tQ P D lo hi c k) from funext (okc_l P _)]
    exact Nat.div_lt_of_lt_mul (by rw [Nat.mul_comm]; exact b5)
  · unfold VT tR
    rw [show okc P (2 + 2 * tQ P D lo hi c k) = P 1 (tQ P D lo hi c k) from funext (okc_r P _)]
    exact Nat.mod_lt _ hs
/-- the span, the context and the rank at which operator q is the root -/
def nd (P D : PT) : Nat → Nat → Nat → Nat → Nat → Nat → Nat × Nat × Nat × Nat
  | 0, lo, hi, c, k, _ => (lo, hi, c, k)
  | m + 1, lo, hi, c, k, q => if q = tQ P D lo hi c k then (lo, hi, c, k) else if q < tQ P D lo hi c k then nd P D m lo (tQ P D lo hi c k) (1 + 2 * tQ P D lo hi c k) (tL P D lo hi c k) q else nd P D m (tQ P D lo hi c k + 1) hi (2 + 2 * tQ P D lo hi c k) (tR P D lo hi c k) q
/-- the i-th operator in preorder -/
def pw (P D : PT) : Nat → Nat → Nat → Nat → Nat → Nat → Nat
  | 0, lo, _, _, _, _ => lo
  | m + 1, lo, hi, c, k, i => if i = 0 then tQ P D lo hi c k else if i - 1 < tQ P D lo hi c k - lo then pw P D m lo (tQ P D lo hi c k) (1 + 2 * tQ P D lo hi c k) (tL P D lo hi c k) (i - 1) else pw P D m (tQ P D lo hi c k + 1) hi (2 + 2 * tQ P D lo hi c k) (tR P D lo hi c k) (i - 1 - (tQ P D lo hi c k - lo))
theorem nd_spec {P D : PT} : ∀ (m lo hi c k q : Nat), hi - lo ≤ m → VT P D lo hi c k → lo ≤ q → q < hi → ∃ a b c' k', nd P D m lo hi c k q = (a, b, c', k') ∧ lo ≤ a ∧ a ≤ q ∧ q < b ∧ b ≤ hi ∧ VT P D a b c' k' ∧ tQ P D a b c' k' = q := by
  intro m
  induction m with
  | zero => intro lo hi c k q h1 h2 h3 h4; omega
  | succ m ih =>
    intro lo hi c k q h1 h2 h3 h4
    obtain ⟨b1, b2, b3, b4, b5, b6, b7, b8⟩ := vt_all (by omega) h2
    rw [nd]
    by_cases e : q = tQ P D lo hi c k
    · rw [if_pos e]
      exact ⟨lo, hi, c, k, rfl, Nat.le_refl _, h3, h4, Nat.le_refl _, h2, e.symm⟩
    · rw [if_neg e]
      by_cases e2 : q < tQ P D lo hi c k
      · rw [if_pos e2]
        obtain ⟨a, b, c', k', g1, g2, g3, g4, g5, g6⟩ := ih _ _ _ _ q (by omega) b7 h3 e2
        exact ⟨a, b, c', k', g1, g2, g3, g4, by omega, g6⟩
      · rw [if_neg e2]
        obtain ⟨a, b, c', k', g1, g2, g3, g4, g5, g6⟩ := ih _ _ _ _ q (by omega) b8 (by omega) h4
        exact ⟨a, b, c', k', g1, by omega, g3, g4, g5, g6⟩
theorem nd_top {P D : PT} {m lo hi c k : Nat} : nd P D (m + 1) lo hi c k (tQ P D lo hi c k) = (lo, hi, c, k) := by rw [nd, if_pos rfl]
/-- below operator q stand its children -/
theorem nd_left {P D : PT} : ∀ (m lo hi c k q a b c' k' : Nat), hi - lo ≤ m → VT P D lo hi c k → lo ≤ q → q < hi → nd P D m lo hi c k q = (a, b, c', k') → a < q → nd P D m lo hi c k (tQ P D a q (1 + 2 * q) (tL P D a b c' k')) = (a, q, 1 + 2 * q, tL P D a b c' k') := by
  intro m
  induction m with
  | zero => intro lo hi c k q a b c' k' h1 h2 h3 h4; omega
  | succ m ih =>
    intro lo hi c k q a b c' k' h1 h2 h3 h4 h5 h6
    obtain ⟨b1, b2, b3, b4, b5, b6, b7, b8⟩ := vt_all (by omega) h2
    rw [nd] at h5
    by_cases e : q = tQ P D lo hi c k
    · rw [if_pos e] at h5
      injection h5 with x1 h5
      injection h5 with x2 h5
      injection h5 with x3 x4
      subst x1; subst x2; subst x3; subst x4
      rw [← e] at b7
      have z := vt_all h6 b7
      rw [nd, if_neg (by omega), if_pos (by omega), ← e]
      cases m with
      | zero => omega
      | succ m => exact nd_top
    · rw [if_neg e] at h5
      by_cases e2 : q < tQ P D lo hi c k
      · rw [if_pos e2] at h5
        obtain ⟨a', b', c'', k'', g1, g2, g3, g4, g5, g6, g7⟩ := nd_spec (P := P) (D := D) m lo _ _ _ q (by omega) b7 h3 e2
        rw [h5] at g1
        injection g1 with x1 g1
        injection g1 with x2 g1
        injection g1 with x3 x4
        subst x1; subst x2; subst x3; subst x4
        have w := vt_all (by omega) g6
        rw [g7] at w
        have w2 := vt_all h6 w.2.2.2.2.2.2.1
        rw [nd, if_neg (by omega), if_pos (by omega)]
        exact ih _ _ _ _ q _ _ _ _ (by omega) b7 h3 e2 h5 h6
      · rw [if_neg e2] at h5
        obtain ⟨a', b', c'', k'', g1, g2, g3, g4, g5, g6, g7⟩ := nd_spec (P := P) (D := D) m _ hi _ _ q (by omega) b8 (by omega) h4
        rw [h5] at g1
        injection g1 with x1 g1
        injection g1 with x2 g1
        injection g1 with x3 x4
        subst x1; subst x2; subst x3; subst x4
        have w := vt_all (by omega) g6
        rw [g7] at w
        have w2 := vt_all h6 w.2.2.2.2.2.2.1
        rw [nd, if_neg (by omega), if_neg (by omega)]
        exact ih _ _ _ _ q _ _ _ _ (by omega) b8 (by omega) h4 h5 h6
theorem nd_right {P D : PT} : ∀ (m lo hi c k q a b c' k' : Nat), hi - lo ≤ m → VT P D lo hi c k → lo ≤ q → q < hi → nd P D m lo hi c k q = (a, b, c', k') → q + 1 < b → nd P D m lo hi c k (tQ P D (q + 1) b (2 + 2 * q) (tR P D a b c' k')) = (q + 1, b, 2 + 2 * q, tR P D a b c' k') := by
  intro m
  induction m with
  | zero => intro lo hi c k q a b c' k' h1 h2 h3 h4; omega
  | succ m ih =>
    intro lo hi c k q a b c' k' h1 h2 h3 h4 h5 h6
    obtain ⟨b1, b2, b3, b4, b5, b6, b7, b8⟩ := vt_all (by omega) h2
    rw [nd] at h5
    by_cases e : q = tQ P D lo hi c k
    · rw [if_pos e] at h5
      injection h5 with x1 h5
      injection h5 with x2 h5
      injection h5 with x3 x4
      subst x1; subst x2; subst x3; subst x4
      rw [← e] at b8
      have z := vt_all h6 b8
      rw [nd, if_neg (by omega), if_neg (by omega), ← e]
      cases m with
      | zero => omega
      | succ m => exact nd_top
    · rw [if_neg e] at h5
      by_cases e2 : q < tQ P D lo hi c k
      · rw [if_pos e2] at h5
        obtain ⟨a', b', c'', k'', g1, g2, g3, g4, g5, g6, g7⟩ := nd_spec (P := P) (D := D) m lo _ _ _ q (by omega) b7 h3 e2
        rw [h5] at g1
        injection g1 with x1 g1
        injection g1 with x2 g1
        injection g1 with x3 x4
        subst x1; subst x2; subst x3; subst x4
        have w := vt_all (by omega) g6
        rw [g7] at w
        have w2 := vt_all h6 w.2.2.2.2.2.2.2
        rw [nd, if_neg (by omega), if_pos (by omega)]
        exact ih _ _ _ _ q _ _ _ _ (by omega) b7 h3 e2 h5 h6
      · rw [if_neg e2] at h5
        obtain ⟨a', b', c'', k'', g1, g2, g3, g4, g5, g6, g7⟩ := nd_spec (P := P) (D := D) m _ hi _ _ q (by omega) b8 (by omega) h4
        rw [h5] at g1
        injection g1 with x1 g1
        injection g1 with x2 g1
        injection g1 with x3 x4
        subst x1; subst x2; subst x3; subst x4
        have w := vt_all (by omega) g6
        rw [g7] at w
        have w2 := vt_all h6 w.2.2.2.2.2.2.2
        rw [nd, if_neg (by omega), if_neg (by omega)]
        exact ih _ _ _ _ q _ _ _ _ (by omega) b8 (by omega) h4 h5 h6
/-- two operators with one span are one -/
theorem nd_uniq {P D : PT} : ∀ (m lo hi c k q q' a b x y : Nat), hi - lo ≤ m → VT P D lo hi c k → lo ≤ q → q < hi → lo ≤ q' → q' < hi → ∀ x' y', nd P D m lo hi c k q = (a, b, x, y) → nd P D m lo hi c k q' = (a, b, x', y') → q = q' := by
  intro m
  induction m with
  | zero => intro lo hi c k q q' a b x y h1 h2 h3 h4; omega
  | succ m ih =>
    intro lo hi c k q q' a b x y h1 h2 h3 h4 h5 h6 x' y' h7 h8
    obtain ⟨b1, b2, b3, b4, b5, b6, b7, b8⟩ := vt_all (by omega) h2
    have side : ∀ q a b x y, lo ≤ q → q < hi → nd P D (m + 1) lo hi c k q = (a, b, x, y) → (q = tQ P D lo hi c k ∧ a = lo ∧ b = hi) ∨ (q < tQ P D lo hi c k ∧ a < b ∧ b ≤ tQ P D lo hi c k ∧ nd P D m lo (tQ P D lo hi c k) (1 + 2 * tQ P D lo hi c k) (tL P D lo hi c k) q = (a, b, x, y)) ∨ (tQ P D lo hi c k < q ∧ a < b ∧ tQ P D lo hi c k < a ∧ nd P D m (tQ P D lo hi c k + 1) hi (2 + 2 * tQ P D lo hi c k) (tR P D lo hi c k) q = (a, b, x, y)) := by
      intro q a b x y i1 i2 i3
      rw [nd] at i3
      by_cases e : q = tQ P D lo hi c k
      · rw [if_pos e] at i3
        injection i3 with x1 i3
        injection i3 with x2 i3
        exact Or.inl ⟨e, x1.symm, x2.symm⟩
      · rw [if_neg e] at i3
        by_cases e2 : q < tQ P D lo hi c k
        · rw [if_pos e2] at i3
          obtain ⟨a', b', c'', k'', g1, g2, g3, g4, g5, g6, g7⟩ := nd_spec (P := P) (D := D) m lo _ _ _ q (by omega) b7 i1 e2
          rw [i3] at g1
          injection g1 with x1 g1
          injection g1 with x2 g1
          subst x1; subst x2
          exact Or.inr (Or.inl ⟨e2, by omega, g5, i3⟩)
        · rw [if_neg e2] at i3
          obtain ⟨a', b', c'', k'', g1, g2, g3, g4, g5, g6, g7⟩ := nd_spec (P := P) (D := D) m _ hi _ _ q (by omega) b8 (by omega) i2
          rw [i3] at g1
          injection g1 with x1 g1
          injection g1 with x2 g1
          subst x1; subst x2
          exact Or.inr (Or.inr ⟨by omega, by omega, by omega, i3⟩)
    rcases side q a b x y h3 h4 h7 with s1 | s1 | s1 <;> rcases side q' a b x' y' h5 h6 h8 with s2 | s2 | s2
    · omega
    · omega
    · omega
    · omega
    · exact ih _ _ _ _ q q' a b x y (by omega) b7 h3 s1.1 h5 s2.1 x' y' s1.2.2.2 s2.2.2.2
    · omega
    · omega
    · omega
    · exact ih _ _ _ _ q q' a b x y (by omega) b8 (by omega) h4 (by omega) h6 x' y' s1.2.2.2 s2.2.2.2
/-- above operator q, unless it is the top, stands its parent -/
theorem nd_up {P D : PT} : ∀ (m lo hi c k q a b c' k' : Nat), hi - lo ≤ m → VT P D lo hi c k → lo ≤ q → q < hi → nd P D m lo hi c k q = (a, b, c', k') → (a = lo ∧ b = hi ∧ c' = c ∧ k' = k) ∨ ∃ p a' b' c'' k'', lo ≤ p ∧ p < hi ∧ nd P D m lo hi c k p = (a', b', c'', k'') ∧ b - a < b' - a' ∧ ((a = a' ∧ b = p ∧ c' = 1 + 2 * p ∧ k' = tL P D a' b' c'' k'') ∨ (a = p + 1 ∧ b = b' ∧ c' = 2 + 2 * p ∧ k' = tR P D a' b' c'' k'')) := by
  intro m
  induction m with
  | zero => intro lo hi c k q a b c' k' h1 h2 h3 h4; omega
  | succ m ih =>
    intro lo hi c k q a b c' k' h1 h2 h3 h4 h5
    obtain ⟨b1, b2, b3, b4, b5, b6, b7, b8⟩ := vt_all (by omega) h2
    rw [nd] at h5
    by_cases e : q = tQ P D lo hi c k
    · rw [if_pos e] at h5
      injection h5 with x1 h5
      injection h5 with x2 h5
      injection h5 with x3 x4
      exact Or.inl ⟨x1.symm, x2.symm, x3.symm, x4.symm⟩
    · rw [if_neg e] at h5
      refine Or.inr ?_
      by_cases e2 : q < tQ P D lo hi c k
      · rw [if_pos e2] at h5
        rcases ih _ _ _ _ q a b c' k' (by omega) b7 h3 e2 h5 with ⟨x1, x2, x3, x4⟩ | ⟨p, a', b', c'', k'', p1, p2, p3, p4, p5⟩
        · exact ⟨tQ P D lo hi c k, lo, hi, c, k, b1, b2, nd_top, by omega, Or.inl ⟨x1, x2, x3, x4⟩⟩
        · exact ⟨p, a', b', c'', k'', p1, by omega, by rw [nd, if_neg (by omega), if_pos p2]; exact p3, p4, p5⟩
      · rw [if_neg e2] at h5
        rcases ih _ _ _ _ q a b c' k' (by omega) b8 (by omega) h4 h5 with ⟨x1, x2, x3, x4⟩ | ⟨p, a', b', c'', k'', p1, p2, p3, p4, p5⟩
        · exact ⟨tQ P D lo hi c k, lo, hi, c, k, b1, b2, nd_top, by omega, Or.inr ⟨x1, x2, x3, x4⟩⟩
        · exact ⟨p, a', b', c'', k'', by omega, p2, by rw [nd, if_neg (by omega), if_neg (by omega)]; exact p3, p4, p5⟩
