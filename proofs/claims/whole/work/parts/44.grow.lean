/-! 44: the class grows its forest; counts -/
theorem m_fill_l (F n : Nat) (v : Int32) (hn : n < 2 ^ 31) : ∀ (k i : Nat) (av : Nat → Int32) (X : (Nat → Int32) → Option (Nat → Int32)), i ≤ n → n - i < k →
    ∃ av', f_J7_fill_53178_l5 F n v (Int32.ofNat n) k (nI i) av X = X av' ∧ (∀ j, i ≤ j → j < n → av' j = v) ∧ (∀ j, ¬ (i ≤ j ∧ j < n) → av' j = av j) := by
  intro k
  induction k with
  | zero => intro i av X h1 h2; omega
  | succ k ih =>
    intro i av X h1 h2
    rw [f_J7_fill_53178_l5]
    by_cases h : n ≤ i
    · rw [if_pos (show Int32.ofNat n ≤ nI i from nI_le h (by omega))]
      exact ⟨av, rfl, fun j a b => by omega, fun _ _ => rfl⟩
    · rw [if_neg (show ¬ Int32.ofNat n ≤ nI i from nI_ge (by omega) (by omega)), gar_n (by omega) (by omega), nI_clamp (by omega), k1, nI_add]
      obtain ⟨av', g1, g2, g3⟩ := ih (i + 1) (upd av i v) X (by omega) (by omega)
      refine ⟨av', g1, fun j a b => ?_, fun j a => ?_⟩
      · by_cases e : j = i
        · rw [g3 j (by omega), e, pk_us]
        · exact g2 j (by omega) b
      · rw [g3 j (by omega), pk_un (by omega)]
theorem m_fill {F n : Nat} {v : Int32} {av : Nat → Int32} (hn : n < 2 ^ 31) (hF : n < F) : ∃ av', f_J7_fill_53178 F n v av = some av' ∧ (∀ j, j < n → av' j = v) ∧ (∀ j, n ≤ j → av' j = av j) := by
  unfold f_J7_fill_53178
  obtain ⟨av', g1, g2, g3⟩ := m_fill_l F n v hn F 0 av (fun av => (some (av))) (by omega) (by omega)
  rw [← k0] at g1
  exact ⟨av', g1, fun j h => g2 j (by omega) h, fun j h => g3 j (by omega)⟩
theorem m_grow_l (F n K : Nat) (pr as sA st : Nat → Int32) (sy : Nat → Nat) (fl : Nat → FL) (hF : 12 < F) (hn : n ≤ 10) (hK : K ≤ 6) (hsy : ∀ i, i < n → sA i = nI (sy i) ∧ sy i < 9) (hfl : ∀ i, i < K → st i = fcode (fl i) ∧ okF (fl i)) : ∀ (m k : Nat) (cnt lf rt ro : Nat → Int32) (X : (Nat → Int32) → (Nat → Int32) → (Nat → Int32) → (Nat → Int32) → Option (Int32 × (Nat → Int32) × (Nat → Int32) × Int32 × (Nat → Int32) × (Nat → Int32))), k ≤ K → K - k < m → FS pr as sy fl n k lf rt ro →
    ∃ cnt' lf' rt' ro', f_X7_growForest_l16 F (nI K) (nI n) as (nI (n + 1)) pr sA st m (nI k) cnt lf rt ro X = X cnt' lf' rt' ro' ∧ FS pr as sy fl n K lf' rt' ro' := by
  intro m
  induction m with
  | zero => intro k cnt lf rt ro X h1 h2; omega
  | succ m ih =>
    intro k cnt lf rt ro X h1 h2 hS
    rw [f_X7_growForest_l16]
    by_cases h : K ≤ k
    · rw [if_pos (nI_le h (by omega))]
      exact ⟨cnt, lf, rt, ro, rfl, by rw [show K = k by omega]; exact hS⟩
    · obtain ⟨f1, f2⟩ := hfl k (by omega)
      obtain ⟨cnt1, lf1, rt1, ro1, g1, g2⟩ := m_apply (F := F) (cnt := cnt) hF hn hsy f2 hS
      rw [if_neg (nI_ge (by omega) (by omega)), gar_n (by omega) (by omega), nI_clamp (by omega), f1, g1, Option.bind_some, k1, nI_add]
      exact ih (k + 1) cnt1 lf1 rt1 ro1 X (by omega) (by omega) g2
/-- how many trees the first k filters leave -/
def nTrees (pr as : Nat → Int32) (sy : Nat → Nat) (fl : Nat → FL) (n k : Nat) : Nat := Sc (Pk pr as sy fl k) (Dk pr as sy fl n k) 0 n (fun _ => true)
theorem nTrees_le {pr as sy fl n k} (hn : n ≤ 10) : nTrees pr as sy fl n k ≤ 16796 := Sc_le hn (by omega)
theorem FS_Cc {pr as sy fl n k lf rt ro lo hi r} (hS : FS pr as sy fl n k lf rt ro) (h1 : lo ≤ r) (h2 : r < hi) (h3 : hi ≤ n) : Cc (PA lf rt) (DA ro) lo hi r = Cc (Pk pr as sy fl k) (Dk pr as sy fl n k) lo hi r :=
  Cc_congr (fun s p c hp hc => hS.1 s p c (by omega) (by omega)) (fun a b q _ b2 q1 q2 => hS.2 a b q q1 q2 (by omega)) h1 h2
theorem FS_Sc {pr as sy fl n k lf rt ro lo hi ok} (hS : FS pr as sy fl n k lf rt ro) (h3 : hi ≤ n) : Sc (PA lf rt) (DA ro) lo hi ok = Sc (Pk pr as sy fl k) (Dk pr as sy fl n k) lo hi ok :=
  Sc_congr (fun s p c hp hc => hS.1 s p c (by omega) (by omega)) (fun a b q _ b2 q1 q2 => hS.2 a b q q1 q2 (by omega)) (fun _ _ _ => rfl)
theorem FS_0 {pr as sy fl n lf rt ro} (h1 : ∀ j, j < 10 → lf j = -1) (h2 : ∀ j, j < 10 → rt j = -1) (h3 : ∀ j, j < 121 → ro j = -1) (hn : n ≤ 10) : FS pr as sy fl n 0 lf rt ro := by
  refine ⟨fun s p c hp hc => ?_, fun lo hi r a1 a2 a3 => ?_⟩
  · unfold PA Pk
    by_cases hs : s = 0
    · rw [if_pos hs, h1 p (by omega), bq_m1 c (by omega)]
    · rw [if_neg hs, h2 p (by omega), bq_m1 c (by omega)]
  · unfold DA Dk
    rw [h3 _ (by omega), bq_m1 r (by omega)]
theorem m_reset {F : Nat} {x : Int32} {lf rt ro : Nat → Int32} {ops : Int32} (hF : 121 < F) : ∃ lf' rt' ro', f_X2_reset F x lf ops rt ro = some (lf', x, rt', ro') ∧ (∀ j, j < 10 → lf' j = -1) ∧ (∀ j, j < 10 → rt' j = -1) ∧ (∀ j, j < 121 → ro' j = -1) := by
  unfold f_X2_reset
  obtain ⟨a, a1, a2, -⟩ := m_fill (F := F) (n := 121) (v := -1) (av := ro) (by omega) hF
  obtain ⟨b, b1, b2, -⟩ := m_fill (F := F) (n := 10) (v := -1) (av := lf) (by omega) (by omega)
  obtain ⟨c, c1, c2, -⟩ := m_fill (F := F) (n := 10) (v := -1) (av := rt) (by omega) (by omega)
  rw [a1, Option.bind_some, b1, Option.bind_some, c1, Option.bind_some]
  exact ⟨b, c, a, rfl, b2, c2, a2⟩
theorem m_grow {F n K : Nat} {pr as sA st : Nat → Int32} {sy : Nat → Nat} {fl : Nat → FL} {cnt lf rt ro : Nat → Int32} {ops : Int32} (hF : 121 < F) (hn : n ≤ 10) (hK : K ≤ 6) (hsy : ∀ i, i < n → sA i = nI (sy i) ∧ sy i < 9) (hfl : ∀ i, i < K → st i = fcode (fl i) ∧ okF (fl i)) :
    ∃ cnt' lf' rt' ro', f_X7_growForest F (nI K) cnt lf ops rt ro as (nI (n + 1)) pr sA st = some (nI (nTrees pr as sy fl n K), cnt', lf', nI n, rt', ro') ∧ FS pr as sy fl n K lf' rt' ro' ∧ TabQ cnt' (Pk pr as sy fl K) (Dk pr as sy fl n K) n (fun _ _ => True) := by
  unfold f_X7_growForest
  rw [m_operators hn, Option.bind_some]
  obtain ⟨lf0, rt0, ro0, r1, r2, r3, r4⟩ := m_reset (F := F) (x := nI n) (lf := lf) (rt := rt) (ro := ro) (ops := ops) hF
  rw [r1, Option.bind_some]
  obtain ⟨cnt1, lf1, rt1, ro1, g1, g2⟩ := m_grow_l F n K pr as sA st sy fl (by omega) hn hK hsy hfl F 0 cnt lf0 rt0 ro0 (fun fo_counts fo_leftChildren fo_rightChildren fo_roots => ((f_X2_countTrees F fo_counts fo_leftChildren (nI n) fo_rightChildren fo_roots).bind fun o51 => (some ((o51.1), (o51.2), fo_leftChildren, (nI n), fo_rightChildren, fo_roots)))) (by omega) (by omega) (FS_0 r2 r3 r4 hn)
  rw [← k0] at g1
  obtain ⟨cnt2, c1, c2⟩ := m_countTrees (F := F) (n := n) (lf := lf1) (rt := rt1) (ro := ro1) (cnt := cnt1) (by omega) hn
  rw [c1, Option.bind_some] at g1
  refine ⟨cnt2, lf1, rt1, ro1, ?_, g2, fun lo hi r a1 a2 a3 _ => ?_⟩
  · rw [g1, FS_Sc g2 (Nat.le_refl n)]
    rfl
  · rw [c2 lo hi r a1 a2 a3 trivial, FS_Cc g2 a1 a2 a3]
/-! arguments: any int is a number in range, or out of it -/
theorem i_cases (x : Int32) (N : Nat) (hN : N + 1 < 2 ^ 31) : (x < 0 ∨ nI N < x) ∨ ∃ j, j ≤ N ∧ x = nI j := by
  rcases pk_ix x (n := N + 1) hN with h | h | ⟨j, h1, h2⟩
  · exact Or.inl (Or.inl h)
  · refine Or.inl (Or.inr (Int32.lt_iff_toInt_lt.mpr ?_))
    have h1 := Int32.le_iff_toInt_le.mp h
    rw [nI_toInt (by omega)] at h1
    rw [nI_toInt (by omega)]
    omega
  · exact Or.inr ⟨j, by omega, h2⟩
