/-! 42: the class's forest: all spans, PREFER and AVOID -/
def Proc (len low lo hi : Nat) : Prop := hi - lo < len ∨ (hi - lo = len ∧ lo < low)
def TabQ (cnt : Nat → Int32) (P : Nat → Nat → Nat → Bool) (D : Nat → Nat → Nat → Bool) (n : Nat) (ok : Nat → Nat → Prop) : Prop := ∀ lo hi r, lo ≤ r → r < hi → hi ≤ n → ok lo hi → cnt ((lo * 11 + hi) * 10 + r) = nI (Cc P D lo hi r)
theorem m_countTrees_l12 (F n len : Nat) (lf rt ro : Nat → Int32) (hF : 10 < F) (hn : n ≤ 10) (hl1 : 1 ≤ len) (hl2 : len ≤ n) : ∀ (k low : Nat) (cnt : Nat → Int32) (X : (Nat → Int32) → Option (Int32 × (Nat → Int32))), low + len ≤ n + 1 → n + 1 - (low + len) < k →
    TabQ cnt (PA lf rt) (DA ro) n (Proc len low) → ∃ cnt', f_X2_countTrees_l12 F (nI len) lf (nI n) rt ro k (nI low) cnt X = X cnt' ∧ TabQ cnt' (PA lf rt) (DA ro) n (Proc (len + 1) 0) := by
  intro k
  induction k with
  | zero => intro low cnt X h1 h2; omega
  | succ k ih =>
    intro low cnt X h1 h2 ht
    rw [f_X2_countTrees_l12, nI_add]
    by_cases h : n < low + len
    · rw [if_pos (nI_lt h (by omega))]
      refine ⟨cnt, rfl, fun lo hi r a1 a2 a3 a4 => ht lo hi r a1 a2 a3 ?_⟩
      rcases a4 with a4 | a4
      · by_cases q : hi - lo < len
        · exact Or.inl q
        · exact Or.inr ⟨by omega, by omega⟩
      · omega
    · rw [if_neg (nI_nlt (by omega) (by omega))]
      obtain ⟨cnt1, e1, e2, e3⟩ := m_countSpan (F := F) (lo := low) (hi := low + len) (lf := lf) (rt := rt) (ro := ro) (cnt := cnt) hF (by omega) (by omega) (fun a b q q1 q2 q3 q4 q5 => ht a b q q3 q4 (by omega) (Or.inl (by omega)))
      rw [e1, Option.bind_some, k1, nI_add]
      refine ih (low + 1) cnt1 X (by omega) (by omega) (fun lo hi r a1 a2 a3 a4 => ?_)
      by_cases q : lo = low ∧ hi = low + len
      · obtain ⟨rfl, rfl⟩ := q
        exact e2 r a1 a2
      · rw [e3 _ (fun q' _ _ => ix_ne (by omega) (by omega) (by omega) (by omega) (by omega))]
        refine ht lo hi r a1 a2 a3 ?_
        rcases a4 with a4 | a4
        · exact Or.inl a4
        · exact Or.inr ⟨a4.1, by omega⟩
theorem m_countTrees_l2 (F n : Nat) (lf rt ro : Nat → Int32) (hF : 12 < F) (hn : n ≤ 10) : ∀ (k len : Nat) (cnt : Nat → Int32) (X : (Nat → Int32) → Option (Int32 × (Nat → Int32))), 1 ≤ len → len ≤ n + 1 → n + 1 - len < k →
    TabQ cnt (PA lf rt) (DA ro) n (Proc len 0) → ∃ cnt', f_X2_countTrees_l2 F lf (nI n) rt ro k (nI len) cnt X = X cnt' ∧ TabQ cnt' (PA lf rt) (DA ro) n (fun _ _ => True) := by
  intro k
  induction k with
  | zero => intro len cnt X h1 h2 h3; omega
  | succ k ih =>
    intro len cnt X h1 h2 h3 ht
    rw [f_X2_countTrees_l2]
    by_cases h : n < len
    · rw [if_pos (nI_lt h (by omega))]
      exact ⟨cnt, rfl, fun lo hi r a1 a2 a3 _ => ht lo hi r a1 a2 a3 (Or.inl (by omega))⟩
    · rw [if_neg (nI_nlt (by omega) (by omega)), k0]
      obtain ⟨cnt1, e1, e2⟩ := m_countTrees_l12 F n len lf rt ro (by omega) hn h1 (by omega) F 0 cnt (fun fo_counts => f_X2_countTrees_l2 F lf (nI n) rt ro k (nI len + 1) fo_counts X) (by omega) (by omega) ht
      rw [e1, k1, nI_add]
      exact ih (len + 1) cnt1 X (by omega) (by omega) (by omega) e2
theorem Sc_all {P D : _} {n : Nat} (hn : n ≤ 10) : Sc P D 0 n (bq (-1)) = Sc P D 0 n (fun _ => true) := Sc_congr (fun _ _ _ _ _ => rfl) (fun _ _ _ _ _ _ _ => rfl) (fun q _ h => bq_m1 q (by omega))
theorem m_countTrees {F n : Nat} {lf rt ro cnt : Nat → Int32} (hF : 12 < F) (hn : n ≤ 10) : ∃ cnt', f_X2_countTrees F cnt lf (nI n) rt ro = some (nI (Sc (PA lf rt) (DA ro) 0 n (fun _ => true)), cnt') ∧ TabQ cnt' (PA lf rt) (DA ro) n (fun _ _ => True) := by
  unfold f_X2_countTrees
  obtain ⟨cnt1, e1, e2⟩ := m_countTrees_l2 F n lf rt ro hF hn F 1 cnt (fun fo_counts => ((f_X2_treesOf F 0 (nI n) (-1) fo_counts).bind fun o49 => (some (o49, fo_counts)))) (by omega) (by omega) (by omega) (fun lo hi r a1 a2 a3 a4 => by rcases a4 with a4 | a4 <;> omega)
  refine ⟨cnt1, ?_, e2⟩
  rw [← k1] at e1
  rw [e1]
  have := m_treesOf (F := F) (lo := 0) (hi := n) (w := -1) (cnt := cnt1) (P := PA lf rt) (D := DA ro) (ok := fun _ => true) (by omega) hn (by omega) (fun r r1 r2 => e2 0 n r r1 r2 (Nat.le_refl _) trivial) (fun r _ h => bq_m1 r (by omega))
  rw [k0, this, Option.bind_some]
/-- how many trees a span can have -/
def cat : Nat → Nat
  | 0 => 1 | 1 => 1 | 2 => 2 | 3 => 5 | 4 => 14 | 5 => 42 | 6 => 132 | 7 => 429 | 8 => 1430 | 9 => 4862 | 10 => 16796 | _ => 0
theorem tsum_shift (g : Nat → Nat) : ∀ (m lo k : Nat), tsum (fun r => g (r - lo)) (fun _ => true) (lo + k) m = tsum g (fun _ => true) k m := by
  intro m
  induction m with
  | zero => intro lo k; rfl
  | succ m ih =>
    intro lo k
    rw [tsum, tsum, show lo + k + 1 = lo + (k + 1) by omega, ih lo (k + 1), show lo + k - lo = k by omega]
theorem cat_sum : ∀ m, m < 11 → 0 < m → tsum (fun i => cat i * cat (m - 1 - i)) (fun _ => true) 0 m = cat m := by decide
theorem Sc_cat (P : Nat → Nat → Nat → Bool) (D : Nat → Nat → Nat → Bool) : ∀ (m lo hi : Nat) (ok : Nat → Bool), hi - lo ≤ m → hi - lo ≤ 10 → lo ≤ hi → Sc P D lo hi ok ≤ cat (hi - lo) := by
  intro m
  induction m with
  | zero =>
    intro lo hi ok h1 h2 h3
    unfold Sc Sf
    rw [if_neg (by omega), show hi - lo = 0 by omega]
    exact Nat.le_refl _
  | succ m ih =>
    intro lo hi ok h1 h2 h3
    by_cases h : lo < hi
    · have e : Sc P D lo hi ok = tsum (Cc P D lo hi) ok lo (hi - lo) := by unfold Sc Sf; rw [if_pos h]
      rw [e, ← cat_sum (hi - lo) (by omega) (by omega), ← tsum_shift (fun i => cat i * cat (hi - lo - 1 - i)) (hi - lo) lo 0]
      refine tsum_le _ _ (fun q q1 q2 => ⟨fun _ => rfl, ?_⟩)
      rw [Cc_eq q1 (by omega)]
      cases D lo hi q with
      | false => simp
      | true =>
        simp only [if_true]
        refine Nat.mul_le_mul (ih lo q _ (by omega) (by omega) q1) ?_
        have := ih (q + 1) hi (P 1 q) (by omega) (by omega) (by omega)
        rw [show hi - lo - 1 - (q - lo) = hi - (q + 1) by omega]
        exact this
    · unfold Sc Sf
      rw [if_neg h, show hi - lo = 0 by omega]
      exact Nat.le_refl _
theorem cat_le : ∀ m, m < 11 → cat m ≤ 16796 := by decide
theorem Sc_le {P D : _} {lo hi : Nat} {ok : Nat → Bool} (h : hi ≤ 10) (hl : lo ≤ hi) : Sc P D lo hi ok ≤ 16796 := Nat.le_trans (Sc_cat P D 10 lo hi ok (by omega) (by omega) hl) (cat_le _ (by omega))
theorem Cc_le {P D : _} {lo hi r : Nat} (h : hi ≤ 10) (h1 : lo ≤ r) (h2 : r < hi) : Cc P D lo hi r ≤ 16796 := by
  have h3 := Sc_le (P := P) (D := D) (lo := lo) (hi := hi) (ok := fun q => decide (q = r)) h (by omega)
  have h4 : Cc P D lo hi r ≤ Sc P D lo hi (fun q => decide (q = r)) := by
    unfold Sc Sf
    rw [if_pos (by omega), show hi - lo = (r - lo) + (1 + (hi - r - 1)) by omega, tsum_split, tsum_split, show lo + (r - lo) = r by omega]
    simp only [tsum, decide_true, if_true]
    omega
  omega
/-- PREFER and AVOID: the discards of spans up to a length -/
def keepN (P : Nat → Nat → Nat → Bool) (K : Nat → Bool) (D : Nat → Nat → Nat → Bool) : Nat → (Nat → Nat → Nat → Bool)
  | 0 => D
  | len + 1 => fun lo hi r => if hi - lo = len + 1 then D lo hi r && (K r || decide (Sc P (keepN P K D len) lo hi K = 0)) else keepN P K D len lo hi r
theorem keepN_long {P K D : _} : ∀ (m lo hi r : Nat), m < hi - lo → keepN P K D m lo hi r = D lo hi r := by
  intro m
  induction m with
  | zero => intro lo hi r _; rfl
  | succ m ih =>
    intro lo hi r h
    rw [keepN]
    simp only []
    rw [if_neg (by omega), ih lo hi r (by omega)]
theorem keepN_congr {P P' : Nat → Nat → Nat → Bool} {K K' : Nat → Bool} {D D' : Nat → Nat → Nat → Bool} {N : Nat} (hP : ∀ s p c, p < N → c < N → P s p c = P' s p c) (hK : ∀ q, q < N → K q = K' q) (hD : ∀ lo hi r, lo ≤ r → r < hi → hi ≤ N → D lo hi r = D' lo hi r) : ∀ (m lo hi r : Nat), lo ≤ r → r < hi → hi ≤ N → keepN P K D m lo hi r = keepN P' K' D' m lo hi r := by
  intro m
  induction m with
  | zero => intro lo hi r h1 h2 h3; exact hD lo hi r h1 h2 h3
  | succ m ih =>
    intro lo hi r h1 h2 h3
    rw [keepN, keepN]
    simp only []
    rw [hD lo hi r h1 h2 h3, hK r (by omega), ih lo hi r h1 h2 h3, Sc_congr (P' := P') (D' := keepN P' K' D' m) (ok' := K') (fun s p c p1 p2 => hP s p c (by omega) (by omega)) (fun a b q _ b2 q1 q2 => ih a b q q1 q2 (by omega)) (fun q _ q2 => hK q (by omega))]
theorem m_keepRoots_l12 (F n len : Nat) (w : Int32) (lf rt : Nat → Int32) (D0 : Nat → Nat → Nat → Bool) (hF : 10 < F) (hn : n ≤ 10) (hl1 : 1 ≤ len) (hl2 : len ≤ n) : ∀ (k low : Nat) (cnt ro : Nat → Int32) (X : (Nat → Int32) → (Nat → Int32) → Option ((Nat → Int32) × (Nat → Int32))), low + len ≤ n + 1 → n + 1 - (low + len) < k →
    (∀ lo hi r, lo ≤ r → r < hi → hi ≤ n → DA ro lo hi r = if hi - lo = len ∧ lo < low then keepN (PA lf rt) (bq w) D0 len lo hi r else keepN (PA lf rt) (bq w) D0 (len - 1) lo hi r) →
    TabQ cnt (PA lf rt) (keepN (PA lf rt) (bq w) D0 len) n (Proc len low) →
    ∃ cnt' ro', f_X2_keepRoots_l12 F w (nI len) lf (nI n) rt k (nI low) cnt ro X = X cnt' ro' ∧ (∀ lo hi r, lo ≤ r → r < hi → hi ≤ n → DA ro' lo hi r = keepN (PA lf rt) (bq w) D0 len lo hi r) ∧ TabQ cnt' (PA lf rt) (keepN (PA lf rt) (bq w) D0 len) n (Proc (len + 1) 0) := by
  intro k
  induction k with
  | zero => intro low cnt ro X h1 h2; omega
  | succ k ih =>
    intro low cnt ro X h1 h2 hD ht
    obtain ⟨ln, rfl⟩ : ∃ ln, len = ln + 1 := ⟨len - 1, by omega⟩
    rw [show ln + 1 - 1 = ln by omega] at hD
    have kS : ∀ lo hi r, keepN (PA lf rt) (bq w) D0 (ln + 1) lo hi r = if hi - lo = ln + 1 then D0 lo hi r && (bq w r || decide (Sc (PA lf rt) (keepN (PA lf rt) (bq w) D0 ln) lo hi (bq w) = 0)) else keepN (PA lf rt) (bq w) D0 ln lo hi r := fun _ _ _ => rfl
    rw [f_X2_keepRoots_l12, nI_add]
    by_cases h : n < low + (ln + 1)
    · rw [if_pos (nI_lt h (by omega))]
      refine ⟨cnt, ro, rfl, fun lo hi r a1 a2 a3 => ?_, fun lo hi r a1 a2 a3 a4 => ht lo hi r a1 a2 a3 ?_⟩
      · rw [hD lo hi r a1 a2 a3]
        by_cases q : hi - lo = ln + 1
        · rw [if_pos ⟨q, by omega⟩]
        · rw [if_neg (fun z => q z.1), kS, if_neg q]
      · rcases a4 with a4 | a4
        · by_cases q : hi - lo < ln + 1
          · exact Or.inl q
          · exact Or.inr ⟨by omega, by omega⟩
        · omega
    · rw [if_neg (nI_nlt (by omega) (by omega))]
      -- inside the span: as after the shorter spans
      have hin : ∀ a b q, low ≤ a → b ≤ low + (ln + 1) → a ≤ q → q < b → DA ro a b q = keepN (PA lf rt) (bq w) D0 ln a b q := by
        intro a b q q1 q2 q3 q4
        rw [hD a b q q3 q4 (by omega), if_neg (by omega)]
      have hsh : ∀ a b q, low ≤ a → b ≤ low + (ln + 1) → a ≤ q → q < b → b - a < ln + 1 → Cc (PA lf rt) (DA ro) a b q = Cc (PA lf rt) (keepN (PA lf rt) (bq w) D0 (ln + 1)) a b q := by
        intro a b q q1 q2 q3 q4 q5
        refine Cc_congr (fun _ _ _ _ _ => rfl) (fun a' b' q' r1 r2 r3 r4 => ?_) q3 q4
        rw [hin a' b' q' (by omega) (by omega) r3 r4, kS, if_neg (by omega)]
      obtain ⟨cnt1, e1, e2, e3⟩ := m_countSpan (F := F) (lo := low) (hi := low + (ln + 1)) (lf := lf) (rt := rt) (ro := ro) (cnt := cnt) hF (by omega) (by omega) (fun a b q q1 q2 q3 q4 q5 => by
        rw [ht a b q q3 q4 (by omega) (Or.inl (by omega)), hsh a b q q1 q2 q3 q4 (by omega)])
      rw [e1, Option.bind_some, m_treesOf (P := PA lf rt) (D := DA ro) (ok := bq w) hF (by omega) (by omega) (fun r r1 r2 => e2 r r1 r2) (fun _ _ _ => rfl), Option.bind_some]
      have hSc : Sc (PA lf rt) (DA ro) low (low + (ln + 1)) (bq w) = Sc (PA lf rt) (keepN (PA lf rt) (bq w) D0 ln) low (low + (ln + 1)) (bq w) := Sc_congr (fun _ _ _ _ _ => rfl) (fun a b q q1 q2 q3 q4 => hin a b q q1 q2 q3 q4) (fun _ _ _ => rfl)
      have hle := Sc_le (P := PA lf rt) (D := keepN (PA lf rt) (bq w) D0 ln) (lo := low) (hi := low + (ln + 1)) (ok := bq w) (by omega) (by omega)
      rw [hSc]
      by_cases hz : Sc (PA lf rt) (keepN (PA lf rt) (bq w) D0 ln) low (low + (ln + 1)) (bq w) = 0
      · have hsame : ∀ r, keepN (PA lf rt) (bq w) D0 (ln + 1) low (low + (ln + 1)) r = keepN (PA lf rt) (bq w) D0 ln low (low + (ln + 1)) r := by
          intro r
          rw [kS, if_pos (by omega), hz, keepN_long ln _ _ _ (by omega)]
          simp
        rw [hz, if_pos (show nI 0 ≤ (0 : Int32) by decide), k1, nI_add]
        refine ih (low + 1) cnt1 ro X (by omega) (by omega) (fun lo hi r a1 a2 a3 => ?_) (fun lo hi r a1 a2 a3 a4 => ?_)
        · rw [show ln + 1 - 1 = ln by omega, hD lo hi r a1 a2 a3]
          by_cases q : hi - lo = ln + 1 ∧ lo < low
          · rw [if_pos q, if_pos ⟨q.1, by omega⟩]
          · rw [if_neg q]
            by_cases q2 : hi - lo = ln + 1 ∧ lo < low + 1
            · rw [if_pos q2, show lo = low by omega, show hi = low + (ln + 1) by omega, hsame]
            · rw [if_neg q2]
        · by_cases q : lo = low ∧ hi = low + (ln + 1)
          · obtain ⟨rfl, rfl⟩ := q
            rw [e2 r a1 a2]
            congr 1
            refine Cc_congr (fun _ _ _ _ _ => rfl) (fun a b q' r1 r2 r3 r4 => ?_) a1 a2
            rw [hin a b q' r1 r2 r3 r4]
            by_cases q3 : b - a = ln + 1
            · rw [show a = lo by omega, show b = lo + (ln + 1) by omega, hsame]
            · rw [kS, if_neg q3]
          · rw [e3 _ (fun q' _ _ => ix_ne (by omega) (by omega) (by omega) (by omega) (by omega))]
            refine ht lo hi r a1 a2 a3 ?_
            rcases a4 with a4 | a4
            · exact Or.inl a4
            · exact Or.inr ⟨a4.1, by omega⟩
      · have hnew : ∀ r, keepN (PA lf rt) (bq w) D0 (ln + 1) low (low + (ln + 1)) r = (keepN (PA lf rt) (bq w) D0 ln low (low + (ln + 1)) r && bq w r) := by
          intro r
          rw [kS, if_pos (by omega), decide_eq_false hz, Bool.or_false, keepN_long ln _ _ _ (by omega)]
        rw [if_neg (show ¬ nI _ ≤ (0 : Int32) from nI_nle (by omega) (by omega)), m_spanIndex, Option.bind_some, gar_n (by omega) (by omega), gar_n (by omega) (by omega), nI_clamp (by omega)]
        have hro : ∀ lo hi r, lo ≤ r → r < hi → hi ≤ n → DA (upd ro (low * 11 + (low + (ln + 1))) (ro (low * 11 + (low + (ln + 1))) &&& w)) lo hi r = if lo = low ∧ hi = low + (ln + 1) then (DA ro lo hi r && bq w r) else DA ro lo hi r := by
          intro lo hi r a1 a2 a3
          unfold DA
          by_cases q : lo = low ∧ hi = low + (ln + 1)
          · obtain ⟨rfl, rfl⟩ := q
            rw [if_pos ⟨rfl, rfl⟩, pk_us, bq_and _ _ _ (by omega)]
          · rw [if_neg q, pk_un (sp_ne (by omega) (by omega) (by omega))]
        have hin2 : ∀ a b q, low ≤ a → b ≤ low + (ln + 1) → a ≤ q → q < b → DA (upd ro (low * 11 + (low + (ln + 1))) (ro (low * 11 + (low + (ln + 1))) &&& w)) a b q = keepN (PA lf rt) (bq w) D0 (ln + 1) a b q := by
          intro a b q q1 q2 q3 q4
          rw [hro a b q q3 q4 (by omega)]
          by_cases z : a = low ∧ b = low + (ln + 1)
          · obtain ⟨rfl, rfl⟩ := z
            rw [if_pos ⟨rfl, rfl⟩, hnew, hin a _ q (Nat.le_refl _) (Nat.le_refl _) q3 q4]
          · rw [if_neg z, hin a b q q1 q2 q3 q4, kS, if_neg (by omega)]
        obtain ⟨cnt2, g1, g2, g3⟩ := m_countSpan (F := F) (lo := low) (hi := low + (ln + 1)) (lf := lf) (rt := rt) (ro := upd ro (low * 11 + (low + (ln + 1))) (ro (low * 11 + (low + (ln + 1))) &&& w)) (cnt := cnt1) hF (by omega) (by omega) (fun a b q q1 q2 q3 q4 q5 => by
          rw [e3 _ (fun q' _ _ => ix_ne (by omega) (by omega) (by omega) (by omega) (by omega)), ht a b q q3 q4 (by omega) (Or.inl (by omega))]
          congr 1
          exact Cc_congr (fun _ _ _ _ _ => rfl) (fun a' b' q' r1 r2 r3 r4 => (hin2 a' b' q' (by omega) (by omega) r3 r4).symm) q3 q4)
        rw [g1, Option.bind_some, k1, nI_add]
        refine ih (low + 1) cnt2 _ X (by omega) (by omega) (fun lo hi r a1 a2 a3 => ?_) (fun lo hi r a1 a2 a3 a4 => ?_)
        · rw [show ln + 1 - 1 = ln by omega, hro lo hi r a1 a2 a3, hD lo hi r a1 a2 a3]
          by_cases q : lo = low ∧ hi = low + (ln + 1)
          · obtain ⟨rfl, rfl⟩ := q
            rw [if_pos ⟨rfl, rfl⟩, if_neg (by omega), if_pos ⟨by omega, by omega⟩, hnew]
          · rw [if_neg q]
            by_cases q2 : hi - lo = ln + 1 ∧ lo < low
            · rw [if_pos q2, if_pos ⟨q2.1, by omega⟩]
            · rw [if_neg q2, if_neg (by omega)]
        · by_cases q : lo = low ∧ hi = low + (ln + 1)
          · obtain ⟨rfl, rfl⟩ := q
            rw [g2 r a1 a2]
            congr 1
            exact Cc_congr (fun _ _ _ _ _ => rfl) (fun a b q' r1 r2 r3 r4 => hin2 a b q' r1 r2 r3 r4) a1 a2
          · rw [g3 _ (fun q' _ _ => ix_ne (by omega) (by omega) (by omega) (by omega) (by omega)), e3 _ (fun q' _ _ => ix_ne (by omega) (by omega) (by omega) (by omega) (by omega))]
            refine ht lo hi r a1 a2 a3 ?_
            rcases a4 with a4 | a4
            · exact Or.inl a4
            · exact Or.inr ⟨a4.1, by omega⟩
theorem m_keepRoots_l2 (F n : Nat) (w : Int32) (lf rt : Nat → Int32) (D0 : Nat → Nat → Nat → Bool) (hF : 12 < F) (hn : n ≤ 10) : ∀ (k len : Nat) (cnt ro : Nat → Int32) (X : (Nat → Int32) → (Nat → Int32) → Option ((Nat → Int32) × (Nat → Int32))), len ≤ n → n - len < k →
    (∀ lo hi r, lo ≤ r → r < hi → hi ≤ n → DA ro lo hi r = keepN (PA lf rt) (bq w) D0 len lo hi r) →
    TabQ cnt (PA lf rt) (keepN (PA lf rt) (bq w) D0 len) n (Proc (len + 1) 0) →
    ∃ cnt' ro', f_X2_keepRoots_l2 F w lf (nI n) rt k (nI (len + 1)) cnt ro X = X cnt' ro' ∧ (∀ lo hi r, lo ≤ r → r < hi → hi ≤ n → DA ro' lo hi r = keepN (PA lf rt) (bq w) D0 n lo hi r) := by
  intro k
  induction k with
  | zero => intro len cnt ro X h1 h2; omega
  | succ k ih =>
    intro len cnt ro X h1 h2 hD ht
    rw [f_X2_keepRoots_l2]
    by_cases h : n < len + 1
    · rw [if_pos (nI_lt h (by omega))]
      exact ⟨cnt, ro, rfl, fun lo hi r a1 a2 a3 => by rw [hD lo hi r a1 a2 a3, show len = n by omega]⟩
    · rw [if_neg (nI_nlt (by omega) (by omega)), k0]
      obtain ⟨cnt1, ro1, e1, e2, e3⟩ := m_keepRoots_l12 F n (len + 1) w lf rt D0 (by omega) hn (by omega) (by omega) F 0 cnt ro (fun fo_counts fo_roots => f_X2_keepRoots_l2 F w lf (nI n) rt k (nI (len + 1) + 1) fo_counts fo_roots X) (by omega) (by omega)
        (fun lo hi r a1 a2 a3 => by rw [if_neg (by omega), show len + 1 - 1 = len by omega]; exact hD lo hi r a1 a2 a3)
        (fun lo hi r a1 a2 a3 a4 => by
          have a5 : hi - lo < len + 1 := by rcases a4 with a4 | a4 <;> omega
          rw [ht lo hi r a1 a2 a3 (Or.inl a5)]
          congr 1
          refine Cc_congr (fun _ _ _ _ _ => rfl) (fun a b q q1 q2 q3 q4 => ?_) a1 a2
          show _ = if b - a = len + 1 then _ else _
          rw [if_neg (by omega)])
      rw [e1, k1, nI_add]
      exact ih (len + 1) cnt1 ro1 X (by omega) (by omega) e2 e3
theorem m_keepRoots {F n : Nat} {w : Int32} {lf rt ro cnt : Nat → Int32} (hF : 12 < F) (hn : n ≤ 10) : ∃ cnt' ro', f_X2_keepRoots F w cnt lf (nI n) rt ro = some (cnt', ro') ∧ (∀ lo hi r, lo ≤ r → r < hi → hi ≤ n → DA ro' lo hi r = keepN (PA lf rt) (bq w) (DA ro) n lo hi r) := by
  unfold f_X2_keepRoots
  obtain ⟨cnt1, ro1, e1, e2⟩ := m_keepRoots_l2 F n w lf rt (DA ro) hF hn F 0 cnt ro (fun fo_counts fo_roots => (some (fo_counts, fo_roots))) (by omega) (by omega) (fun _ _ _ _ _ _ => rfl) (fun lo hi r a1 a2 a3 a4 => by rcases a4 with a4 | a4 <;> omega)
  exact ⟨cnt1, ro1, by rw [← k1] at e1; exact e1, e2⟩
