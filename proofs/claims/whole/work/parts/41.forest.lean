/-! 41: the class's forest -/
theorem bq_bt (w : Int32) (q : Nat) (hq : q < 32) : bq w q = bt w q := by
  have h0 : ∀ i, i < 32 → bt ((w >>> (nI q &&& 31)) &&& 1) i = (decide (i = 0) && bt w q) := by
    intro i hi
    rw [b_and, b_one i hi, b_sshr q hq w hi]
    by_cases h : i = 0
    · subst h; simp [hq]
    · simp [h]
  unfold bq
  cases hb : bt w q with
  | true =>
    refine decide_eq_true (b_ext (fun i hi => ?_))
    rw [h0 i hi, hb, b_one i hi, Bool.and_true]
  | false =>
    refine decide_eq_false (fun h => ?_)
    have h1 := h0 0 (by omega)
    rw [h, hb, b_one 0 (by omega)] at h1
    simp at h1
theorem bq_m1 (q : Nat) (hq : q < 32) : bq (-1) q = true := by rw [bq_bt _ _ hq, b_m1 q hq]
theorem bq_and (x y : Int32) (q : Nat) (hq : q < 32) : bq (x &&& y) q = (bq x q && bq y q) := by rw [bq_bt _ _ hq, bq_bt _ _ hq, bq_bt _ _ hq, b_and]
def PA (lf rt : Nat → Int32) : Nat → Nat → Nat → Bool := fun s p c => if s = 0 then bq (lf p) c else bq (rt p) c
def DA (ro : Nat → Int32) : Nat → Nat → Nat → Bool := fun lo hi r => bq (ro (lo * 11 + hi)) r
theorem sp_ne {a b lo hi : Nat} (hb : b < 11) (hh : hi < 11) (h : a ≠ lo ∨ b ≠ hi) : a * 11 + b ≠ lo * 11 + hi := by
  intro e
  have h1 : b = hi := by
    have h2 : (a * 11 + b) % 11 = (lo * 11 + hi) % 11 := by rw [e]
    rw [Nat.add_comm, Nat.add_mul_mod_self_right, Nat.add_comm (lo * 11), Nat.add_mul_mod_self_right, Nat.mod_eq_of_lt hb, Nat.mod_eq_of_lt hh] at h2
    exact h2
  omega
theorem ix_ne {a b q lo hi r : Nat} (hq : q < 10) (hr : r < 10) (hb : b < 11) (hh : hi < 11) (h : a ≠ lo ∨ b ≠ hi ∨ q ≠ r) : (a * 11 + b) * 10 + q ≠ (lo * 11 + hi) * 10 + r := by
  intro e
  generalize hx : a * 11 + b = x at e
  generalize hy : lo * 11 + hi = y at e
  have h1 : q = r := by omega
  have h2 : x = y := by omega
  exact sp_ne hb hh (by omega) (hx.trans (h2.trans hy.symm))
theorem m_isIn (F q : Nat) (w : Int32) : f_X2_isIn F (nI q) w = some (bI (bq w q)) := by
  unfold f_X2_isIn bq
  by_cases h : ((w >>> (nI q &&& 31)) &&& 1) = 1
  · rw [if_pos h, decide_eq_true h, bI_t]
  · rw [if_neg h, decide_eq_false h, bI_f]
theorem m_spanIndex (F lo hi : Nat) : f_X7_spanIndex F (nI lo) (nI hi) = some (nI (lo * 11 + hi)) := by
  unfold f_X7_spanIndex
  rw [k11, pk_mul, nI_add]
theorem m_treesOf_l (F hi base : Nat) (w : Int32) (cnt : Nat → Int32) (hhi : hi ≤ 10) (hb : base + hi ≤ 1210) : ∀ (n k : Nat) (v : Int32) (X : Int32 → Option Int32), k ≤ hi → hi - k < n →
    f_X2_treesOf_l23 F (nI hi) w (nI base) cnt n v (nI k) X = X (v + isum (fun q => cnt (base + q)) (bq w) k (hi - k)) := by
  intro n
  induction n with
  | zero => intro k v X h1 h2; omega
  | succ n ih =>
    intro k v X h1 h2
    rw [f_X2_treesOf_l23]
    by_cases h : hi ≤ k
    · have e : k = hi := by omega
      subst e
      rw [if_pos (nI_le h (by omega)), Nat.sub_self, isum, Int32.add_zero]
    · rw [if_neg (nI_ge (by omega) (by omega)), m_isIn, Option.bind_some, bI_ite, nI_add, gar_n (by omega) (by omega), nI_clamp (by omega), k1, nI_add, ih (k + 1) _ X (by omega) (by omega), ih (k + 1) _ X (by omega) (by omega), show hi - k = (hi - (k + 1)) + 1 by omega, isum]
      cases bq w k with
      | true => simp only [if_true]; rw [Int32.add_assoc]
      | false => simp only [Bool.false_eq_true, if_false]; rw [Int32.zero_add]
theorem m_treesOf {F lo hi : Nat} {w : Int32} {cnt : Nat → Int32} {P D : _} {ok : Nat → Bool} (hF : 10 < F) (hhi : hi ≤ 10) (hlo : lo ≤ hi) (ht : ∀ r, lo ≤ r → r < hi → cnt ((lo * 11 + hi) * 10 + r) = nI (Cc P D lo hi r)) (ho : ∀ r, lo ≤ r → r < hi → bq w r = ok r) : f_X2_treesOf F (nI lo) (nI hi) w cnt = some (nI (Sc P D lo hi ok)) := by
  unfold f_X2_treesOf
  by_cases h : lo < hi
  · rw [if_pos (nI_lt h (by omega)), m_spanIndex, Option.bind_some, k10, pk_mul, m_treesOf_l F hi ((lo * 11 + hi) * 10) w cnt hhi (by omega) F lo 0 _ hlo (by omega), Int32.zero_add]
    congr 1
    unfold Sc Sf
    rw [if_pos h]
    exact isum_nI _ _ (fun q h1 h2 => ⟨ho q h1 (by omega), fun _ => ht q h1 (by omega)⟩)
  · rw [if_neg (nI_nlt (by omega) (by omega))]
    unfold Sc Sf
    rw [if_neg h, k1]
theorem m_countSpan_l (F lo hi : Nat) (lf rt ro : Nat → Int32) (hF : 10 < F) (hhi : hi ≤ 10) : ∀ (n r : Nat) (cnt : Nat → Int32) (X : (Nat → Int32) → Option (Nat → Int32)), lo ≤ r → r ≤ hi → hi - r < n →
    (∀ a b q, lo ≤ a → b ≤ hi → a ≤ q → q < b → b - a < hi - lo → cnt ((a * 11 + b) * 10 + q) = nI (Cc (PA lf rt) (DA ro) a b q)) →
    ∃ cnt', f_X2_countSpan_l9 F (nI lo) (nI hi) (nI (lo * 11 + hi)) lf rt ro n (nI r) cnt X = X cnt' ∧ (∀ q, r ≤ q → q < hi → cnt' ((lo * 11 + hi) * 10 + q) = nI (Cc (PA lf rt) (DA ro) lo hi q)) ∧ (∀ j, (∀ q, r ≤ q → q < hi → j ≠ (lo * 11 + hi) * 10 + q) → cnt' j = cnt j) := by
  intro n
  induction n with
  | zero => intro r cnt X h1 h2 h3; omega
  | succ n ih =>
    intro r cnt X h1 h2 h3 ht
    rw [f_X2_countSpan_l9]
    by_cases h : hi ≤ r
    · rw [if_pos (nI_le h (by omega))]
      exact ⟨cnt, rfl, fun q q1 q2 => absurd q1 (by omega), fun j _ => rfl⟩
    · have hl : lo ≤ r := h1
      rw [if_neg (nI_ge (by omega) (by omega)), gar_n (by omega) (by omega), nI_clamp (by omega), m_isIn, Option.bind_some, bI_ite, k10, pk_mul, nI_add, gar_n (by omega) (by omega), nI_clamp (by omega), gar_n (by omega) (by omega), nI_clamp (by omega)]
      have step : ∀ x : Nat, x = Cc (PA lf rt) (DA ro) lo hi r → ∃ cnt', f_X2_countSpan_l9 F (nI lo) (nI hi) (nI (lo * 11 + hi)) lf rt ro n (nI r + 1) (upd cnt ((lo * 11 + hi) * 10 + r) (nI x)) X = X cnt' ∧ (∀ q, r ≤ q → q < hi → cnt' ((lo * 11 + hi) * 10 + q) = nI (Cc (PA lf rt) (DA ro) lo hi q)) ∧ (∀ j, (∀ q, r ≤ q → q < hi → j ≠ (lo * 11 + hi) * 10 + q) → cnt' j = cnt j) := by
        intro x hx
        rw [k1, nI_add]
        obtain ⟨cnt', e1, e2, e3⟩ := ih (r + 1) (upd cnt ((lo * 11 + hi) * 10 + r) (nI x)) X (by omega) (by omega) (by omega) (fun a b q q1 q2 q3 q4 q5 => by rw [pk_un (ix_ne (by omega) (by omega) (by omega) (by omega) (by omega))]; exact ht a b q q1 q2 q3 q4 q5)
        refine ⟨cnt', e1, fun q q1 q2 => ?_, fun j hj => ?_⟩
        · by_cases hq : q = r
          · subst hq
            rw [e3 _ (fun q' _ _ => by omega), pk_us, hx]
          · exact e2 q (by omega) q2
        · rw [e3 j (fun q q1 q2 => hj q (by omega) q2), pk_un (hj r (Nat.le_refl _) (by omega))]
      have hC := Cc_eq (P := PA lf rt) (D := DA ro) hl (show r < hi by omega)
      have hD : DA ro lo hi r = bq (ro (lo * 11 + hi)) r := rfl
      rw [hD] at hC
      cases hb : bq (ro (lo * 11 + hi)) r with
      | false =>
        simp only [Bool.false_eq_true, if_false]
        rw [hb] at hC
        simp only [Bool.false_eq_true, if_false] at hC
        rw [k0]
        exact step 0 hC.symm
      | true =>
        simp only [if_true]
        rw [hb] at hC
        simp only [if_true] at hC
        rw [m_treesOf (P := PA lf rt) (D := DA ro) (ok := PA lf rt 0 r) hF (by omega) hl (fun q q1 q2 => ht lo r q (Nat.le_refl _) (by omega) q1 q2 (by omega)) (fun _ _ _ => rfl), Option.bind_some, gar_n (by omega) (by omega), k1, nI_add,
          m_treesOf (P := PA lf rt) (D := DA ro) (ok := PA lf rt 1 r) hF (by omega) (by omega) (fun q q1 q2 => ht (r + 1) hi q (by omega) (Nat.le_refl _) q1 q2 (by omega)) (fun _ _ _ => rfl), Option.bind_some, pk_mul, gar_n (by omega) (by omega)]
        have := step _ hC.symm
        rw [k1, nI_add] at this
        exact this
theorem m_countSpan {F lo hi : Nat} {lf rt ro cnt : Nat → Int32} (hF : 10 < F) (hhi : hi ≤ 10) (hlo : lo ≤ hi) (ht : ∀ a b q, lo ≤ a → b ≤ hi → a ≤ q → q < b → b - a < hi - lo → cnt ((a * 11 + b) * 10 + q) = nI (Cc (PA lf rt) (DA ro) a b q)) :
    ∃ cnt', f_X2_countSpan F (nI lo) (nI hi) cnt lf rt ro = some cnt' ∧ (∀ q, lo ≤ q → q < hi → cnt' ((lo * 11 + hi) * 10 + q) = nI (Cc (PA lf rt) (DA ro) lo hi q)) ∧ (∀ j, (∀ q, lo ≤ q → q < hi → j ≠ (lo * 11 + hi) * 10 + q) → cnt' j = cnt j) := by
  unfold f_X2_countSpan
  rw [m_spanIndex, Option.bind_some]
  exact m_countSpan_l F lo hi lf rt ro hF hhi F lo cnt _ (Nat.le_refl _) hlo (by omega) ht
