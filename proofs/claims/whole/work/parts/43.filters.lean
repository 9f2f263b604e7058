/-! 43: filters: what one forbids; what the first k leave; the class's forest after k filters -/
/-- a filter's code -/
def flt (k a b s : Nat) : Int32 := nI (k + 16 * a + 256 * b + 4096 * s)
theorem flt_of : ∀ k, k < 5 → ∀ a, a < 9 → ∀ b, b < 9 → ∀ s, s < 2 → (((nI k ||| (nI a <<< (4 &&& 31))) ||| (nI b <<< (8 &&& 31))) ||| (nI s <<< (12 &&& 31))) = flt k a b s := by decide +kernel
theorem flt_kind : ∀ k, k < 5 → ∀ a, a < 9 → ∀ b, b < 9 → ∀ s, s < 2 → flt k a b s &&& 15 = nI k := by decide +kernel
theorem flt_sym : ∀ k, k < 5 → ∀ a, a < 9 → ∀ b, b < 9 → ∀ s, s < 2 → (flt k a b s >>> (4 &&& 31)) &&& 15 = nI a := by decide +kernel
theorem flt_child : ∀ k, k < 5 → ∀ a, a < 9 → ∀ b, b < 9 → ∀ s, s < 2 → (flt k a b s >>> (8 &&& 31)) &&& 15 = nI b := by decide +kernel
theorem flt_side : ∀ k, k < 5 → ∀ a, a < 9 → ∀ b, b < 9 → ∀ s, s < 2 → (flt k a b s >>> (12 &&& 31)) &&& 15 = nI s := by decide +kernel
/-- a filter: kind, symbol (parent's), child's symbol, side -/
abbrev FL : Type := Nat × Nat × Nat × Nat
def okF (f : FL) : Prop := f.1 < 5 ∧ f.2.1 < 9 ∧ f.2.2.1 < 9 ∧ f.2.2.2 < 2
def fcode (f : FL) : Int32 := flt f.1 f.2.1 f.2.2.1 f.2.2.2
theorem m_kind {F : Nat} {f : FL} (h : okF f) : f_X1_kind F (fcode f) = some (nI f.1) := by unfold f_X1_kind fcode; rw [flt_kind _ h.1 _ h.2.1 _ h.2.2.1 _ h.2.2.2]
theorem m_symbol {F : Nat} {f : FL} (h : okF f) : f_X1_symbol F (fcode f) = some (nI f.2.1) := by unfold f_X1_symbol fcode; rw [flt_sym _ h.1 _ h.2.1 _ h.2.2.1 _ h.2.2.2]
theorem m_child {F : Nat} {f : FL} (h : okF f) : f_X1_childSymbol F (fcode f) = some (nI f.2.2.1) := by unfold f_X1_childSymbol fcode; rw [flt_child _ h.1 _ h.2.1 _ h.2.2.1 _ h.2.2.2]
theorem m_right {F : Nat} {f : FL} (h : okF f) : f_X1_isRightSide F (fcode f) = some (nI f.2.2.2) := by
  unfold f_X1_isRightSide fcode
  rw [flt_side _ h.1 _ h.2.1 _ h.2.2.1 _ h.2.2.2]
  have h4 := h.2.2.2
  rcases (show f.2.2.2 = 0 ∨ f.2.2.2 = 1 by omega) with e | e <;> rw [e] <;> decide
/-- what an operator of an expression is: priorities and associativities by symbol, symbols by operator -/
def forb (pr as : Nat → Int32) (sy : Nat → Nat) (f : FL) (side p c : Nat) : Bool :=
  if f.1 = 0 then decide (pr (sy c) < pr (sy p))
  else if f.1 = 1 then decide (pr (sy c) = pr (sy p)) && !decide (as (sy p) = nI side)
  else if f.1 = 2 then decide (side = f.2.2.2) && (decide (sy p = f.2.1) && decide (sy c = f.2.2.1))
  else false
theorem not_le_lt {x y : Int32} : (if x ≤ y then (some 0 : Option Int32) else some 1) = some (bI (decide (y < x))) := by
  by_cases h : x ≤ y
  · rw [if_pos h, decide_eq_false (Int32.not_lt.mpr h), bI_f]
  · rw [if_neg h, decide_eq_true (Int32.not_le.mp h), bI_t]
theorem m_forbids {F p c side : Nat} {f : FL} {as pr : Nat → Int32} {sA : Nat → Int32} {sy : Nat → Nat} (h : okF f) (hp : p < 10) (hc : c < 10) (hs : side < 2) (sp : sA p = nI (sy p) ∧ sy p < 9) (sc : sA c = nI (sy c) ∧ sy c < 9) : f_X1_forbids F (fcode f) (nI p) (nI c) (nI side) as pr sA = some (bI (forb pr as sy f side p c)) := by
  unfold f_X1_forbids forb
  rw [gar_n hp (by omega), gar_n hc (by omega), nI_clamp (by omega), nI_clamp (by omega), sp.1, sc.1, gar_n sp.2 (by omega), gar_n sc.2 (by omega), nI_clamp (by omega), nI_clamp (by omega), m_kind h, Option.bind_some]
  have h1 := h.1
  rw [k0, k1, k2]
  by_cases e0 : f.1 = 0
  · rw [e0, if_pos rfl, if_pos rfl, ← k0, ← k1]
    exact not_le_lt
  · rw [if_neg (fun z => e0 ((nI_eq (by omega) (by omega)).mp z)), if_neg e0]
    by_cases e1 : f.1 = 1
    · rw [e1, if_pos rfl, if_pos rfl]
      have hb : ∀ z : Int32, z = nI side → f_X1_forbids_b87 F (nI (sy p)) (pr (sy p)) (pr (sy c)) z as = some (bI (decide (pr (sy c) = pr (sy p)) && !decide (as (sy p) = nI side))) := by
        intro z hz
        unfold f_X1_forbids_b87
        by_cases q : pr (sy c) = pr (sy p)
        · rw [if_pos q, gar_n sp.2 (by omega), nI_clamp (by omega), decide_eq_true q, Bool.true_and, hz]
          by_cases q2 : as (sy p) = nI side
          · rw [if_pos q2, decide_eq_true q2]; rfl
          · rw [if_neg q2, decide_eq_false q2]; rfl
        · rw [if_neg q, decide_eq_false q, Bool.false_and]; rfl
      rcases (show side = 0 ∨ side = 1 by omega) with e | e
      · rw [e, if_pos rfl, ← e]; exact hb _ (by rw [e])
      · rw [e, if_neg (show ¬ nI 1 = nI 0 by decide), ← e]; exact hb _ (by rw [e])
    · rw [if_neg (fun z => e1 ((nI_eq (by omega) (by omega)).mp z)), if_neg e1]
      by_cases e2 : f.1 = 2
      · rw [e2, if_pos rfl, if_pos rfl, m_right h, Option.bind_some]
        have h4 := h.2.2.2
        by_cases q : side = f.2.2.2
        · rw [if_pos (by rw [q]), decide_eq_true q, Bool.true_and, m_symbol h, Option.bind_some]
          have h2 := h.2.1
          by_cases q2 : sy p = f.2.1
          · rw [if_pos (by rw [q2]), decide_eq_true q2, Bool.true_and, m_child h, Option.bind_some]
            have h3 := h.2.2.1
            by_cases q3 : sy c = f.2.2.1
            · rw [if_pos (by rw [q3]), decide_eq_true q3]; rfl
            · rw [if_neg (fun z => q3 ((nI_eq (by omega) (by omega)).mp z)), decide_eq_false q3]; rfl
          · rw [if_neg (fun z => q2 ((nI_eq (by omega) (by omega)).mp z)), decide_eq_false q2, Bool.false_and]; rfl
        · rw [if_neg (fun z => q ((nI_eq (by omega) (by omega)).mp z)), decide_eq_false q, Bool.false_and]; rfl
      · rw [if_neg (fun z => e2 ((nI_eq (by omega) (by omega)).mp z)), if_neg e2]; rfl
theorem bq_clear (x : Int32) (c q : Nat) (hc : c < 32) (hq : q < 32) : bq (x &&& ((1 <<< (nI c &&& 31)) ^^^ (-1))) q = (bq x q && !decide (q = c)) := by
  rw [bq_and _ _ _ hq, bq_bt ((1 <<< (nI c &&& 31)) ^^^ (-1)) q hq, b_not _ hq, b_bit c hc hq]
theorem m_forbid_l13 (F n p : Nat) (f : FL) (as pr sA : Nat → Int32) (sy : Nat → Nat) (h : okF f) (hn : n ≤ 10) (hp : p < n) (hsy : ∀ i, i < n → sA i = nI (sy i) ∧ sy i < 9) : ∀ (k c : Nat) (lf rt : Nat → Int32) (X : (Nat → Int32) → (Nat → Int32) → Option ((Nat → Int32) × (Nat → Int32))), c ≤ n → n - c < k →
    ∃ lf' rt', f_X2_forbidChildren_l13 F (fcode f) (nI p) (nI n) as pr sA k (nI c) lf rt X = X lf' rt' ∧ (∀ q x, x < n → bq (lf' q) x = if q = p ∧ c ≤ x ∧ forb pr as sy f 0 p x = true then false else bq (lf q) x) ∧ (∀ q x, x < n → bq (rt' q) x = if q = p ∧ c ≤ x ∧ forb pr as sy f 1 p x = true then false else bq (rt q) x) := by
  intro k
  induction k with
  | zero => intro c lf rt X h1 h2; omega
  | succ k ih =>
    intro c lf rt X h1 h2
    rw [f_X2_forbidChildren_l13]
    by_cases hc : n ≤ c
    · rw [if_pos (nI_le hc (by omega))]
      exact ⟨lf, rt, rfl, fun q x hx => by rw [if_neg (by omega)], fun q x hx => by rw [if_neg (by omega)]⟩
    · rw [if_neg (nI_ge (by omega) (by omega))]
      have e0 := m_forbids (F := F) (as := as) (pr := pr) (side := 0) h (show p < 10 by omega) (show c < 10 by omega) (by omega) (hsy p hp) (hsy c (by omega))
      have e1 := m_forbids (F := F) (as := as) (pr := pr) (side := 1) h (show p < 10 by omega) (show c < 10 by omega) (by omega) (hsy p hp) (hsy c (by omega))
      rw [← k0] at e0
      rw [← k1] at e1
      rw [e0, Option.bind_some]
      have blk : ∀ lf0 : Nat → Int32, (∀ q x, x < n → bq (lf0 q) x = if q = p ∧ x = c ∧ forb pr as sy f 0 p x = true then false else bq (lf q) x) →
          ∃ lf' rt', f_X2_forbidChildren_b49 F (fcode f) (nI p) (nI c) lf0 rt as pr sA (fun v4 fo_leftChildren fo_rightChildren => f_X2_forbidChildren_l13 F (fcode f) (nI p) (nI n) as pr sA k v4 fo_leftChildren fo_rightChildren X) X = X lf' rt' ∧ (∀ q x, x < n → bq (lf' q) x = if q = p ∧ c ≤ x ∧ forb pr as sy f 0 p x = true then false else bq (lf q) x) ∧ (∀ q x, x < n → bq (rt' q) x = if q = p ∧ c ≤ x ∧ forb pr as sy f 1 p x = true then false else bq (rt q) x) := by
        intro lf0 hl0
        unfold f_X2_forbidChildren_b49
        rw [e1, Option.bind_some]
        have fin : ∀ rt0 : Nat → Int32, (∀ q x, x < n → bq (rt0 q) x = if q = p ∧ x = c ∧ forb pr as sy f 1 p x = true then false else bq (rt q) x) →
            ∃ lf' rt', f_X2_forbidChildren_l13 F (fcode f) (nI p) (nI n) as pr sA k (nI c + 1) lf0 rt0 X = X lf' rt' ∧ (∀ q x, x < n → bq (lf' q) x = if q = p ∧ c ≤ x ∧ forb pr as sy f 0 p x = true then false else bq (lf q) x) ∧ (∀ q x, x < n → bq (rt' q) x = if q = p ∧ c ≤ x ∧ forb pr as sy f 1 p x = true then false else bq (rt q) x) := by
          intro rt0 hr0
          rw [k1, nI_add]
          obtain ⟨lf', rt', g1, g2, g3⟩ := ih (c + 1) lf0 rt0 X (by omega) (by omega)
          refine ⟨lf', rt', g1, fun q x hx => ?_, fun q x hx => ?_⟩
          · rw [g2 q x hx, hl0 q x hx]
            by_cases z : q = p ∧ c ≤ x ∧ forb pr as sy f 0 p x = true
            · rw [if_pos z]
              by_cases z2 : x = c
              · rw [if_neg (by omega), if_pos ⟨z.1, z2, z.2.2⟩]
              · rw [if_pos ⟨z.1, by omega, z.2.2⟩]
            · rw [if_neg z, if_neg (fun y => z ⟨y.1, by omega, y.2.2⟩), if_neg (fun y => z ⟨y.1, by omega, y.2.2⟩)]
          · rw [g3 q x hx, hr0 q x hx]
            by_cases z : q = p ∧ c ≤ x ∧ forb pr as sy f 1 p x = true
            · rw [if_pos z]
              by_cases z2 : x = c
              · rw [if_neg (by omega), if_pos ⟨z.1, z2, z.2.2⟩]
              · rw [if_pos ⟨z.1, by omega, z.2.2⟩]
            · rw [if_neg z, if_neg (fun y => z ⟨y.1, by omega, y.2.2⟩), if_neg (fun y => z ⟨y.1, by omega, y.2.2⟩)]
        rw [bI_ite]
        cases hf : forb pr as sy f 1 p c with
        | false =>
          simp only [Bool.false_eq_true, if_false]
          exact fin rt (fun q x hx => by
            rw [if_neg]
            rintro ⟨-, rfl, z⟩
            rw [hf] at z
            cases z)
        | true =>
          simp only [if_true]
          rw [gar_n (by omega) (by omega), gar_n (by omega) (by omega), nI_clamp (by omega)]
          refine fin _ (fun q x hx => ?_)
          by_cases hq : q = p
          · subst hq
            rw [pk_us, bq_clear _ c x (by omega) (by omega)]
            by_cases hx2 : x = c
            · subst hx2
              rw [if_pos ⟨rfl, rfl, hf⟩]; simp
            · rw [if_neg (fun y => hx2 y.2.1), decide_eq_false hx2]; simp
          · rw [pk_un hq, if_neg (fun y => hq y.1)]
      rw [bI_ite]
      cases hf : forb pr as sy f 0 p c with
      | false =>
        simp only [Bool.false_eq_true, if_false]
        exact blk lf (fun q x hx => by
          rw [if_neg]
          rintro ⟨-, rfl, z⟩
          rw [hf] at z
          cases z)
      | true =>
        simp only [if_true]
        rw [gar_n (by omega) (by omega), gar_n (by omega) (by omega), nI_clamp (by omega)]
        refine blk _ (fun q x hx => ?_)
        by_cases hq : q = p
        · subst hq
          rw [pk_us, bq_clear _ c x (by omega) (by omega)]
          by_cases hx2 : x = c
          · subst hx2
            rw [if_pos ⟨rfl, rfl, hf⟩]; simp
          · rw [if_neg (fun y => hx2 y.2.1), decide_eq_false hx2]; simp
        · rw [pk_un hq, if_neg (fun y => hq y.1)]
theorem m_forbid_l2 (F n : Nat) (f : FL) (as pr sA : Nat → Int32) (sy : Nat → Nat) (hF : 12 < F) (h : okF f) (hn : n ≤ 10) (hsy : ∀ i, i < n → sA i = nI (sy i) ∧ sy i < 9) : ∀ (k p : Nat) (lf rt : Nat → Int32) (X : (Nat → Int32) → (Nat → Int32) → Option ((Nat → Int32) × (Nat → Int32))), p ≤ n → n - p < k →
    ∃ lf' rt', f_X2_forbidChildren_l2 F (fcode f) (nI n) as pr sA k (nI p) lf rt X = X lf' rt' ∧ (∀ q x, q < n → x < n → bq (lf' q) x = if p ≤ q ∧ forb pr as sy f 0 q x = true then false else bq (lf q) x) ∧ (∀ q x, q < n → x < n → bq (rt' q) x = if p ≤ q ∧ forb pr as sy f 1 q x = true then false else bq (rt q) x) := by
  intro k
  induction k with
  | zero => intro p lf rt X h1 h2; omega
  | succ k ih =>
    intro p lf rt X h1 h2
    rw [f_X2_forbidChildren_l2]
    by_cases hc : n ≤ p
    · rw [if_pos (nI_le hc (by omega))]
      exact ⟨lf, rt, rfl, fun q x hq hx => by rw [if_neg (by omega)], fun q x hq hx => by rw [if_neg (by omega)]⟩
    · rw [if_neg (nI_ge (by omega) (by omega)), k0]
      obtain ⟨lf1, rt1, e1, e2, e3⟩ := m_forbid_l13 F n p f as pr sA sy h hn (by omega) hsy F 0 lf rt (fun fo_leftChildren fo_rightChildren => f_X2_forbidChildren_l2 F (fcode f) (nI n) as pr sA k (nI p + 1) fo_leftChildren fo_rightChildren X) (by omega) (by omega)
      rw [e1, k1, nI_add]
      obtain ⟨lf', rt', g1, g2, g3⟩ := ih (p + 1) lf1 rt1 X (by omega) (by omega)
      refine ⟨lf', rt', g1, fun q x hq hx => ?_, fun q x hq hx => ?_⟩
      · rw [g2 q x hq hx, e2 q x hx]
        by_cases z : p ≤ q ∧ forb pr as sy f 0 q x = true
        · rw [if_pos z]
          by_cases z2 : q = p
          · rw [if_neg (by omega), if_pos ⟨z2, by omega, by rw [← z2]; exact z.2⟩]
          · rw [if_pos ⟨by omega, z.2⟩]
        · rw [if_neg z, if_neg (fun y => z ⟨by omega, y.2⟩), if_neg (fun y => z ⟨by omega, by rw [y.1]; exact y.2.2⟩)]
      · rw [g3 q x hq hx, e3 q x hx]
        by_cases z : p ≤ q ∧ forb pr as sy f 1 q x = true
        · rw [if_pos z]
          by_cases z2 : q = p
          · rw [if_neg (by omega), if_pos ⟨z2, by omega, by rw [← z2]; exact z.2⟩]
          · rw [if_pos ⟨by omega, z.2⟩]
        · rw [if_neg z, if_neg (fun y => z ⟨by omega, y.2⟩), if_neg (fun y => z ⟨by omega, by rw [y.1]; exact y.2.2⟩)]
theorem m_operators {F n : Nat} (hn : n ≤ 10) : f_X4_operators F (nI (n + 1)) = some (nI n) := by
  unfold f_X4_operators f_X4_hasExpression
  rw [if_neg (nI_nle (by omega) (by omega)), Option.bind_some, if_neg (by decide), nI_pred]
theorem m_with_l (F n a : Nat) (sA : Nat → Int32) (sy : Nat → Nat) (hn : n ≤ 10) (ha : a < 9) (hsy : ∀ i, i < n → sA i = nI (sy i) ∧ sy i < 9) : ∀ (k i : Nat) (w : Int32) (X : Int32 → Option Int32), i ≤ n → n - i < k →
    ∃ w', f_X4_operatorsWith_l4 F (nI a) (nI (n + 1)) sA k w (nI i) X = X w' ∧ (∀ q, q < n → bq w' q = if i ≤ q ∧ sy q = a then true else bq w q) := by
  intro k
  induction k with
  | zero => intro i w X h1 h2; omega
  | succ k ih =>
    intro i w X h1 h2
    rw [f_X4_operatorsWith_l4, m_operators hn, Option.bind_some]
    by_cases hc : n ≤ i
    · rw [if_pos (nI_le hc (by omega))]
      exact ⟨w, rfl, fun q hq => by rw [if_neg (by omega)]⟩
    · obtain ⟨s1, s2⟩ := hsy i (by omega)
      rw [if_neg (nI_ge (by omega) (by omega)), gar_n (by omega) (by omega), nI_clamp (by omega), s1]
      by_cases hs : sy i = a
      · rw [if_pos (by rw [hs])]
        obtain ⟨w', g1, g2⟩ := ih (i + 1) (w ||| (1 <<< (nI i &&& 31))) X (by omega) (by omega)
        rw [nI_succ i] at g1
        refine ⟨w', g1, fun q hq => ?_⟩
        rw [g2 q hq]
        have hb : bq (w ||| (1 <<< (nI i &&& 31))) q = (bq w q || decide (q = i)) := by
          rw [bq_bt _ _ (by omega), bq_bt w _ (by omega), b_or, b_bit i (by omega) (by omega)]
        rw [hb]
        by_cases z : i ≤ q ∧ sy q = a
        · rw [if_pos z]
          by_cases z2 : q = i
          · rw [if_neg (by omega), decide_eq_true z2, Bool.or_true]
          · rw [if_pos ⟨by omega, z.2⟩]
        · rw [if_neg z, if_neg (fun y => z ⟨by omega, y.2⟩), decide_eq_false (fun y => z ⟨by omega, by rw [y]; exact hs⟩), Bool.or_false]
      · rw [if_neg (fun z => hs ((nI_eq (by omega) (by omega)).mp z))]
        obtain ⟨w', g1, g2⟩ := ih (i + 1) w X (by omega) (by omega)
        rw [nI_succ i] at g1
        refine ⟨w', g1, fun q hq => ?_⟩
        rw [g2 q hq]
        by_cases z : i ≤ q ∧ sy q = a
        · rw [if_pos z, if_pos ⟨by
            rcases Nat.lt_or_ge i q with y | y
            · omega
            · exact absurd z.2 (by rw [show q = i by omega]; exact hs), z.2⟩]
        · rw [if_neg z, if_neg (fun y => z ⟨by omega, y.2⟩)]
theorem bq_0 (q : Nat) (hq : q < 32) : bq 0 q = false := by rw [bq_bt _ _ hq, b_0]
theorem m_with {F n a : Nat} {sA : Nat → Int32} {sy : Nat → Nat} (hF : 12 < F) (hn : n ≤ 10) (ha : a < 9) (hsy : ∀ i, i < n → sA i = nI (sy i) ∧ sy i < 9) : ∃ w, f_X4_operatorsWith F (nI a) (nI (n + 1)) sA = some w ∧ ∀ q, q < n → bq w q = decide (sy q = a) := by
  unfold f_X4_operatorsWith
  obtain ⟨w, g1, g2⟩ := m_with_l F n a sA sy hn ha hsy F 0 0 (fun v2 => (some (v2))) (by omega) (by omega)
  rw [← k0] at g1
  refine ⟨w, g1, fun q hq => ?_⟩
  rw [g2 q hq, bq_0 q (by omega)]
  by_cases z : sy q = a
  · rw [if_pos ⟨by omega, z⟩, decide_eq_true z]
  · rw [if_neg (fun y => z y.2), decide_eq_false z]
theorem bq_not (x : Int32) (q : Nat) (hq : q < 32) : bq (x ^^^ (-1)) q = !bq x q := by rw [bq_bt _ _ hq, bq_bt _ _ hq, b_not _ hq]
/-- pairs and roots that the first k filters leave -/
def sd (s : Nat) : Nat := if s = 0 then 0 else 1
def Pk (pr as : Nat → Int32) (sy : Nat → Nat) (fl : Nat → FL) : Nat → (Nat → Nat → Nat → Bool)
  | 0 => fun _ _ _ => true
  | k + 1 => fun s p c => Pk pr as sy fl k s p c && !forb pr as sy (fl k) (sd s) p c
def Dk (pr as : Nat → Int32) (sy : Nat → Nat) (fl : Nat → FL) (n : Nat) : Nat → (Nat → Nat → Nat → Bool)
  | 0 => fun _ _ _ => true
  | k + 1 => if (fl k).1 = 3 then keepN (Pk pr as sy fl k) (fun q => decide (sy q = (fl k).2.1)) (Dk pr as sy fl n k) n
    else if (fl k).1 = 4 then keepN (Pk pr as sy fl k) (fun q => !decide (sy q = (fl k).2.1)) (Dk pr as sy fl n k) n
    else Dk pr as sy fl n k
/-- the class's forest after k filters -/
def FS (pr as : Nat → Int32) (sy : Nat → Nat) (fl : Nat → FL) (n k : Nat) (lf rt ro : Nat → Int32) : Prop :=
  (∀ s p c, p < n → c < n → PA lf rt s p c = Pk pr as sy fl k s p c) ∧ (∀ lo hi r, lo ≤ r → r < hi → hi ≤ n → DA ro lo hi r = Dk pr as sy fl n k lo hi r)
theorem m_apply {F n k : Nat} {pr as sA : Nat → Int32} {sy : Nat → Nat} {fl : Nat → FL} {lf rt ro cnt : Nat → Int32} (hF : 12 < F) (hn : n ≤ 10) (hsy : ∀ i, i < n → sA i = nI (sy i) ∧ sy i < 9) (hf : okF (fl k)) (hS : FS pr as sy fl n k lf rt ro) :
    ∃ cnt' lf' rt' ro', f_X2_apply F (fcode (fl k)) cnt lf (nI n) rt ro as (nI (n + 1)) pr sA = some (cnt', lf', rt', ro') ∧ FS pr as sy fl n (k + 1) lf' rt' ro' := by
  obtain ⟨hP, hD⟩ := hS
  unfold f_X2_apply
  rw [m_kind hf, Option.bind_some, k3, k4]
  have h1 := hf.1
  by_cases e3 : (fl k).1 = 3
  · obtain ⟨w, w1, w2⟩ := m_with (F := F) (a := (fl k).2.1) hF hn hf.2.1 hsy
    obtain ⟨cnt', ro', g1, g2⟩ := m_keepRoots (F := F) (n := n) (w := w) (lf := lf) (rt := rt) (ro := ro) (cnt := cnt) hF hn
    rw [if_pos (by rw [e3]), m_symbol hf, Option.bind_some, w1, Option.bind_some, g1, Option.bind_some]
    refine ⟨cnt', lf, rt, ro', rfl, fun s p c hp hc => ?_, fun lo hi r a1 a2 a3 => ?_⟩
    · rw [hP s p c hp hc, Pk]
      have : forb pr as sy (fl k) (sd s) p c = false := by unfold forb; rw [e3]; rfl
      simp [this]
    · rw [g2 lo hi r a1 a2 a3, Dk, if_pos e3]
      exact keepN_congr (N := n) hP w2 hD n lo hi r a1 a2 a3
  · rw [if_neg (fun z => e3 ((nI_eq (by omega) (by omega)).mp z))]
    by_cases e4 : (fl k).1 = 4
    · obtain ⟨w, w1, w2⟩ := m_with (F := F) (a := (fl k).2.1) hF hn hf.2.1 hsy
      obtain ⟨cnt', ro', g1, g2⟩ := m_keepRoots (F := F) (n := n) (w := (w ^^^ (-1))) (lf := lf) (rt := rt) (ro := ro) (cnt := cnt) hF hn
      rw [if_pos (by rw [e4]), m_symbol hf, Option.bind_some, w1, Option.bind_some, g1, Option.bind_some]
      refine ⟨cnt', lf, rt, ro', rfl, fun s p c hp hc => ?_, fun lo hi r a1 a2 a3 => ?_⟩
      · rw [hP s p c hp hc, Pk]
        have : forb pr as sy (fl k) (sd s) p c = false := by unfold forb; rw [e4]; rfl
        simp [this]
      · rw [g2 lo hi r a1 a2 a3, Dk, if_neg e3, if_pos e4]
        exact keepN_congr (N := n) hP (fun q hq => by rw [bq_not _ _ (by omega), w2 q hq]) hD n lo hi r a1 a2 a3
    · rw [if_neg (fun z => e4 ((nI_eq (by omega) (by omega)).mp z))]
      unfold f_X2_forbidChildren
      obtain ⟨lf', rt', g1, g2, g3⟩ := m_forbid_l2 F n (fl k) as pr sA sy hF hf hn hsy F 0 lf rt (fun fo_leftChildren fo_rightChildren => (some (fo_leftChildren, fo_rightChildren))) (by omega) (by omega)
      rw [← k0] at g1
      rw [g1, Option.bind_some]
      refine ⟨cnt, lf', rt', ro, rfl, fun s p c hp hc => ?_, fun lo hi r a1 a2 a3 => ?_⟩
      · rw [Pk]
        simp only []
        rw [← hP s p c hp hc]
        unfold PA
        by_cases hs : s = 0
        · rw [if_pos hs, if_pos hs, g2 p c hp hc, show sd s = 0 by unfold sd; rw [if_pos hs]]
          cases forb pr as sy (fl k) 0 p c <;> simp
        · rw [if_neg hs, if_neg hs, g3 p c hp hc, show sd s = 1 by unfold sd; rw [if_neg hs]]
          cases forb pr as sy (fl k) 1 p c <;> simp
      · rw [hD lo hi r a1 a2 a3, Dk, if_neg e3, if_neg e4]
