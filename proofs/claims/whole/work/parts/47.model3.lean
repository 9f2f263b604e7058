/-! 47: the reference counts all spans, with or without a filter that discards; builds -/
theorem NowF.mono {now fl K k} (h : NowF now fl K) (hk : k ≤ K) : NowF now fl k := fun i hi => h i (by omega)
theorem nI_ne_m4 {k : Nat} (h : k < 2 ^ 31) : ¬ nI k = (-4 : Int32) := by
  intro e
  have h1 := nI_pos' h
  rw [e] at h1
  exact absurd h1 (by decide)
theorem e11 (low len : Nat) : ((11 : Int32) * nI low) + (nI (low + len)) = nI (low * 11 + (low + len)) := eSp low (low + len)
theorem m_cs_l13n {F K n len : Nat} {fl : Nat → FL} {pr as sA mp ma now di : Nat → Int32} {sy : Nat → Nat} (hF : 12 < F) (hK : K ≤ 6) (hN : NowF now fl K) (hE : ExM pr as sy n sA mp ma) (hn : n ≤ 10) (hl1 : 1 ≤ len) (hl2 : len ≤ n) : ∀ (m low : Nat) (tr : Nat → Int32) (X : (Nat → Int32) → (Nat → Int32) → Option ((Nat → Int32) × (Nat → Int32))), low + len ≤ n + 1 → n + 1 - (low + len) < m →
    TabQ tr (Pk pr as sy fl K) (DM di) n (Proc len low) → ∃ tr', f_X8_countSpans_l13 F (nI K) (-4) (nI len) ma now (nI n) mp sA m (nI low) di tr X = X di tr' ∧ TabQ tr' (Pk pr as sy fl K) (DM di) n (Proc (len + 1) 0) := by
  intro m
  induction m with
  | zero => intro low tr X h1 h2; omega
  | succ m ih =>
    intro low tr X h1 h2 ht
    rw [f_X8_countSpans_l13, nI_add, e11]
    by_cases h : n < low + len
    · rw [if_pos (nI_lt h (by omega))]
      refine ⟨tr, rfl, fun lo hi r a1 a2 a3 a4 => ht lo hi r a1 a2 a3 ?_⟩
      rcases a4 with a4 | a4
      · by_cases q : hi - lo < len
        · exact Or.inl q
        · exact Or.inr ⟨by omega, by omega⟩
      · omega
    · rw [if_neg (nI_nlt (by omega) (by omega))]
      obtain ⟨tr1, e1, e2, e3⟩ := m_cs_l44 (F := F) (z := -4) (v3 := nI len) (di := di) hF hK hN hE hn (show low ≤ low + len by omega) (by omega) F low tr (fun md_trees => (if (-4 : Int32) = (-4) then (f_X8_countSpans_l13 F (nI K) (-4) (nI len) ma now (nI n) mp sA m (nI low + 1) di md_trees X) else ((f_X8_discard F (-4) (nI low) (nI (low + len)) di now sA md_trees).bind fun o140 => (f_X8_countSpans_l13 F (nI K) (-4) (nI len) ma now (nI n) mp sA m (nI low + 1) (o140.1) (o140.2) X)))) (Nat.le_refl _) (by omega) (by omega)
        (fun a b q q1 q2 q3 q4 q5 => ht a b q q3 q4 (by omega) (Or.inl (by omega)))
      rw [e1, if_pos rfl, k1, nI_add]
      refine ih (low + 1) tr1 X (by omega) (by omega) (fun lo hi r a1 a2 a3 a4 => ?_)
      by_cases q : lo = low ∧ hi = low + len
      · obtain ⟨rfl, rfl⟩ := q
        exact e2 r a1 a2
      · rw [e3 _ (fun q' _ _ => ix_ne (by omega) (by omega) (by omega) (by omega) (by omega))]
        refine ht lo hi r a1 a2 a3 ?_
        rcases a4 with a4 | a4
        · exact Or.inl a4
        · exact Or.inr ⟨a4.1, by omega⟩
theorem m_cs_l2n {F K n : Nat} {fl : Nat → FL} {pr as sA mp ma now di : Nat → Int32} {sy : Nat → Nat} (hF : 12 < F) (hK : K ≤ 6) (hN : NowF now fl K) (hE : ExM pr as sy n sA mp ma) (hn : n ≤ 10) : ∀ (m len : Nat) (tr : Nat → Int32) (X : (Nat → Int32) → (Nat → Int32) → Option ((Nat → Int32) × (Nat → Int32))), 1 ≤ len → len ≤ n + 1 → n + 1 - len < m →
    TabQ tr (Pk pr as sy fl K) (DM di) n (Proc len 0) → ∃ tr', f_X8_countSpans_l2 F (nI K) (-4) ma now (nI n) mp sA m (nI len) di tr X = X di tr' ∧ TabQ tr' (Pk pr as sy fl K) (DM di) n (fun _ _ => True) := by
  intro m
  induction m with
  | zero => intro len tr X h1 h2 h3; omega
  | succ m ih =>
    intro len tr X h1 h2 h3 ht
    rw [f_X8_countSpans_l2]
    by_cases h : n < len
    · rw [if_pos (nI_lt h (by omega))]
      exact ⟨tr, rfl, fun lo hi r a1 a2 a3 _ => ht lo hi r a1 a2 a3 (Or.inl (by omega))⟩
    · rw [if_neg (nI_nlt (by omega) (by omega)), k0]
      obtain ⟨tr1, e1, e2⟩ := m_cs_l13n (F := F) (di := di) hF hK hN hE hn h1 (show len ≤ n by omega) F 0 tr (fun md_discarded md_trees => (f_X8_countSpans_l2 F (nI K) (-4) ma now (nI n) mp sA m (nI len + 1) md_discarded md_trees X)) (by omega) (by omega) ht
      rw [e1, k1, nI_add]
      exact ih (len + 1) tr1 X (by omega) (by omega) (by omega) e2
theorem m_cs_l13d {F N k n len : Nat} {fl : Nat → FL} {pr as sA mp ma now : Nat → Int32} {sy : Nat → Nat} {D0 : Nat → Nat → Nat → Bool} (hF : 12 < F) (hK : N ≤ 6) (hk : k < N) (hN : NowF now fl N) (hE : ExM pr as sy n sA mp ma) (hn : n ≤ 10) (hk3 : (fl k).1 = 3 ∨ (fl k).1 = 4) (hl1 : 1 ≤ len) (hl2 : len ≤ n) : ∀ (m low : Nat) (di tr : Nat → Int32) (X : (Nat → Int32) → (Nat → Int32) → Option ((Nat → Int32) × (Nat → Int32))), low + len ≤ n + 1 → n + 1 - (low + len) < m →
    (∀ lo hi r, lo ≤ r → r < hi → hi ≤ n → DM di lo hi r = if hi - lo = len ∧ lo < low then keepN (Pk pr as sy fl k) (Kf sy (fl k)) D0 len lo hi r else keepN (Pk pr as sy fl k) (Kf sy (fl k)) D0 (len - 1) lo hi r) →
    TabQ tr (Pk pr as sy fl k) (keepN (Pk pr as sy fl k) (Kf sy (fl k)) D0 len) n (Proc len low) →
    ∃ di' tr', f_X8_countSpans_l13 F (nI k) (nI k) (nI len) ma now (nI n) mp sA m (nI low) di tr X = X di' tr' ∧ (∀ lo hi r, lo ≤ r → r < hi → hi ≤ n → DM di' lo hi r = keepN (Pk pr as sy fl k) (Kf sy (fl k)) D0 len lo hi r) ∧ TabQ tr' (Pk pr as sy fl k) (keepN (Pk pr as sy fl k) (Kf sy (fl k)) D0 len) n (Proc (len + 1) 0) := by
  obtain ⟨ln, rfl⟩ : ∃ ln, len = ln + 1 := ⟨len - 1, by omega⟩
  generalize hP : Pk pr as sy fl k = P
  generalize hQ : Kf sy (fl k) = Q
  intro m
  induction m with
  | zero => intro low di tr X h1 h2; omega
  | succ m ih =>
    intro low di tr X h1 h2 hD ht
    rw [show ln + 1 - 1 = ln by omega] at hD
    have kS : ∀ lo hi r, keepN P Q D0 (ln + 1) lo hi r = if hi - lo = ln + 1 then D0 lo hi r && (Q r || decide (Sc P (keepN P Q D0 ln) lo hi Q = 0)) else keepN P Q D0 ln lo hi r := fun _ _ _ => rfl
    rw [f_X8_countSpans_l13, nI_add, e11]
    by_cases h : n < low + (ln + 1)
    · rw [if_pos (nI_lt h (by omega))]
      refine ⟨di, tr, rfl, fun lo hi r a1 a2 a3 => ?_, fun lo hi r a1 a2 a3 a4 => ht lo hi r a1 a2 a3 ?_⟩
      · rw [hD lo hi r a1 a2 a3]
        by_cases q : hi - lo = ln + 1
        · rw [if_pos ⟨q, by omega⟩]
        · rw [if_neg (fun z => q z.1), kS, if_neg q]
      · rcases a4 with a4 | a4
        · by_cases q : hi - lo < ln + 1
          · exact Or.inl q
          · exact Or.inr ⟨by omega, by omega⟩
        · omega
    · rw [if_neg (nI_nlt (by omega) (by omega))]
      have hin : ∀ a b q, low ≤ a → b ≤ low + (ln + 1) → a ≤ q → q < b → DM di a b q = keepN P Q D0 ln a b q := by
        intro a b q q1 q2 q3 q4
        rw [hD a b q q3 q4 (by omega), if_neg (by omega)]
      have hsh : ∀ a b q, low ≤ a → b ≤ low + (ln + 1) → a ≤ q → q < b → b - a < ln + 1 → Cc P (DM di) a b q = Cc P (keepN P Q D0 (ln + 1)) a b q := by
        intro a b q q1 q2 q3 q4 q5
        refine Cc_congr (fun _ _ _ _ _ => rfl) (fun a' b' q' r1 r2 r3 r4 => ?_) q3 q4
        rw [hin a' b' q' (by omega) (by omega) r3 r4, kS, if_neg (by omega)]
      obtain ⟨tr1, e1, e2, e3⟩ := m_cs_l44 (F := F) (K := k) (z := nI k) (v3 := nI (ln + 1)) (di := di) hF (by omega) (hN.mono (by omega)) hE hn (show low ≤ low + (ln + 1) by omega) (by omega) F low tr (fun md_trees => (if (nI k) = (-4) then (f_X8_countSpans_l13 F (nI k) (nI k) (nI (ln + 1)) ma now (nI n) mp sA m (nI low + 1) di md_trees X) else ((f_X8_discard F (nI k) (nI low) (nI (low + (ln + 1))) di now sA md_trees).bind fun o140 => (f_X8_countSpans_l13 F (nI k) (nI k) (nI (ln + 1)) ma now (nI n) mp sA m (nI low + 1) (o140.1) (o140.2) X)))) (Nat.le_refl _) (by omega) (by omega)
        (fun a b q q1 q2 q3 q4 q5 => by rw [hP, ht a b q q3 q4 (by omega) (Or.inl (by omega)), hsh a b q q1 q2 q3 q4 (by omega)])
      rw [hP] at e2
      obtain ⟨di2, tr2, g1, g2, g3, g4, g5⟩ := m_discard (F := F) (P := P) (D := DM di) (di := di) hF hK hk hN hE hn (show low < low + (ln + 1) by omega) (by omega) hk3 e2
      rw [hQ] at g2 g4
      rw [e1, if_neg (nI_ne_m4 (by omega)), g1, Option.bind_some, k1, nI_add]
      have hSc : Sc P (DM di) low (low + (ln + 1)) Q = Sc P (keepN P Q D0 ln) low (low + (ln + 1)) Q := Sc_congr (fun _ _ _ _ _ => rfl) (fun a b q q1 q2 q3 q4 => hin a b q q1 q2 q3 q4) (fun _ _ _ => rfl)
      rw [hSc] at g2 g4
      -- the discards behind
      have hdi : ∀ lo hi r, lo ≤ r → r < hi → hi ≤ n → DM di2 lo hi r = if lo = low ∧ hi = low + (ln + 1) then keepN P Q D0 (ln + 1) lo hi r else DM di lo hi r := by
        intro lo hi r a1 a2 a3
        by_cases q : lo = low ∧ hi = low + (ln + 1)
        · obtain ⟨rfl, rfl⟩ := q
          have hd := hin lo (lo + (ln + 1)) r (Nat.le_refl _) (Nat.le_refl _) a1 a2
          rw [keepN_long ln _ _ _ (by omega)] at hd
          rw [if_pos ⟨rfl, rfl⟩, kS, if_pos (by omega), ← hd]
          unfold DM
          rw [g2 r (by omega) a1 a2, Bool.not_or, Bool.not_not]
        · rw [if_neg q]
          unfold DM
          rw [g3 _ (sp_ne (by omega) (by omega) (by omega))]
      have hin2 : ∀ a b q, low ≤ a → b ≤ low + (ln + 1) → a ≤ q → q < b → DM di2 a b q = keepN P Q D0 (ln + 1) a b q := by
        intro a b q q1 q2 q3 q4
        rw [hdi a b q q3 q4 (by omega)]
        by_cases z : a = low ∧ b = low + (ln + 1)
        · rw [if_pos z]
        · rw [if_neg z, hin a b q q1 q2 q3 q4, kS, if_neg (by omega)]
      refine ih (low + 1) di2 tr2 X (by omega) (by omega) (fun lo hi r a1 a2 a3 => ?_) (fun lo hi r a1 a2 a3 a4 => ?_)
      · rw [show ln + 1 - 1 = ln by omega, hdi lo hi r a1 a2 a3]
        by_cases q : lo = low ∧ hi = low + (ln + 1)
        · rw [if_pos q, if_pos ⟨by omega, by omega⟩]
        · rw [if_neg q, hD lo hi r a1 a2 a3]
          by_cases q2 : hi - lo = ln + 1 ∧ lo < low
          · rw [if_pos q2, if_pos ⟨q2.1, by omega⟩]
          · rw [if_neg q2, if_neg (by omega)]
      · by_cases q : lo = low ∧ hi = low + (ln + 1)
        · obtain ⟨rfl, rfl⟩ := q
          rw [g4 r a1 a2, Cc_eq (D := keepN P Q D0 (ln + 1)) a1 a2, kS, if_pos (show lo + (ln + 1) - lo = ln + 1 by omega)]
          have hd := hin lo (lo + (ln + 1)) r (Nat.le_refl _) (Nat.le_refl _) a1 a2
          rw [keepN_long ln _ _ _ (by omega)] at hd
          cases hc : (Q r || decide (Sc P (keepN P Q D0 ln) lo (lo + (ln + 1)) Q = 0)) with
          | false => simp only [Bool.false_eq_true, if_false, Bool.and_false]; exact k0
          | true =>
            simp only [if_true, Bool.and_true]
            rw [Cc_eq (D := DM di) a1 a2, hd]
            have s1 : ∀ ok, Sc P (DM di) lo r ok = Sc P (keepN P Q D0 (ln + 1)) lo r ok := fun ok => Sc_congr (fun _ _ _ _ _ => rfl) (fun a b q q1 q2 q3 q4 => by rw [hin a b q q1 (by omega) q3 q4, kS, if_neg (by omega)]) (fun _ _ _ => rfl)
            have s2 : ∀ ok, Sc P (DM di) (r + 1) (lo + (ln + 1)) ok = Sc P (keepN P Q D0 (ln + 1)) (r + 1) (lo + (ln + 1)) ok := fun ok => Sc_congr (fun _ _ _ _ _ => rfl) (fun a b q q1 q2 q3 q4 => by rw [hin a b q (by omega) q2 q3 q4, kS, if_neg (by omega)]) (fun _ _ _ => rfl)
            rw [s1, s2]
        · rw [g5 _ (fun q' _ _ => ix_ne (by omega) (by omega) (by omega) (by omega) (by omega)), e3 _ (fun q' _ _ => ix_ne (by omega) (by omega) (by omega) (by omega) (by omega))]
          refine ht lo hi r a1 a2 a3 ?_
          rcases a4 with a4 | a4
          · exact Or.inl a4
          · exact Or.inr ⟨a4.1, by omega⟩
theorem m_cs_l2d {F N k n : Nat} {fl : Nat → FL} {pr as sA mp ma now : Nat → Int32} {sy : Nat → Nat} {D0 : Nat → Nat → Nat → Bool} (hF : 12 < F) (hK : N ≤ 6) (hk : k < N) (hN : NowF now fl N) (hE : ExM pr as sy n sA mp ma) (hn : n ≤ 10) (hk3 : (fl k).1 = 3 ∨ (fl k).1 = 4) : ∀ (m len : Nat) (di tr : Nat → Int32) (X : (Nat → Int32) → (Nat → Int32) → Option ((Nat → Int32) × (Nat → Int32))), len ≤ n → n - len < m →
    (∀ lo hi r, lo ≤ r → r < hi → hi ≤ n → DM di lo hi r = keepN (Pk pr as sy fl k) (Kf sy (fl k)) D0 len lo hi r) →
    TabQ tr (Pk pr as sy fl k) (keepN (Pk pr as sy fl k) (Kf sy (fl k)) D0 len) n (Proc (len + 1) 0) →
    ∃ di' tr', f_X8_countSpans_l2 F (nI k) (nI k) ma now (nI n) mp sA m (nI (len + 1)) di tr X = X di' tr' ∧ (∀ lo hi r, lo ≤ r → r < hi → hi ≤ n → DM di' lo hi r = keepN (Pk pr as sy fl k) (Kf sy (fl k)) D0 n lo hi r) := by
  intro m
  induction m with
  | zero => intro len di tr X h1 h2; omega
  | succ m ih =>
    intro len di tr X h1 h2 hD ht
    rw [f_X8_countSpans_l2]
    by_cases h : n < len + 1
    · rw [if_pos (nI_lt h (by omega))]
      exact ⟨di, tr, rfl, fun lo hi r a1 a2 a3 => by rw [hD lo hi r a1 a2 a3, show len = n by omega]⟩
    · rw [if_neg (nI_nlt (by omega) (by omega)), k0]
      obtain ⟨di1, tr1, e1, e2, e3⟩ := m_cs_l13d (F := F) (D0 := D0) hF hK hk hN hE hn hk3 (show 1 ≤ len + 1 by omega) (show len + 1 ≤ n by omega) F 0 di tr (fun md_discarded md_trees => (f_X8_countSpans_l2 F (nI k) (nI k) ma now (nI n) mp sA m (nI (len + 1) + 1) md_discarded md_trees X)) (by omega) (by omega)
        (fun lo hi r a1 a2 a3 => by rw [if_neg (by omega), show len + 1 - 1 = len by omega]; exact hD lo hi r a1 a2 a3)
        (fun lo hi r a1 a2 a3 a4 => by
          have a5 : hi - lo < len + 1 := by rcases a4 with a4 | a4 <;> omega
          rw [ht lo hi r a1 a2 a3 (Or.inl a5)]
          congr 1
          refine Cc_congr (fun _ _ _ _ _ => rfl) (fun a b q q1 q2 q3 q4 => ?_) a1 a2
          show _ = if b - a = len + 1 then _ else _
          rw [if_neg (by omega)])
      rw [e1, k1, nI_add]
      exact ih (len + 1) di1 tr1 X (by omega) (by omega) e2 e3
/-- the reference's discards after k filters -/
def DS (pr as : Nat → Int32) (sy : Nat → Nat) (fl : Nat → FL) (n k : Nat) (di : Nat → Int32) : Prop := ∀ lo hi r, lo ≤ r → r < hi → hi ≤ n → DM di lo hi r = Dk pr as sy fl n k lo hi r
theorem Dk_3 {pr as sy fl n k} (h : (fl k).1 = 3 ∨ (fl k).1 = 4) : Dk pr as sy fl n (k + 1) = keepN (Pk pr as sy fl k) (Kf sy (fl k)) (Dk pr as sy fl n k) n := by
  rw [Dk]
  rcases h with h | h
  · rw [if_pos h]
    congr 1
    funext q
    unfold Kf
    rw [if_pos h]
  · rw [if_neg (by omega), if_pos h]
    congr 1
    funext q
    unfold Kf
    rw [if_neg (by omega)]
theorem m_bld_l23 {F N n : Nat} {fl : Nat → FL} {pr as sA mp ma now : Nat → Int32} {sy : Nat → Nat} (hF : 12 < F) (hK : N ≤ 6) (hN : NowF now fl N) (hE : ExM pr as sy n sA mp ma) (hn : n ≤ 10) (K : Nat) (hKN : K ≤ N) : ∀ (m k : Nat) (di tr : Nat → Int32) (X : (Nat → Int32) → (Nat → Int32) → Option ((Nat → Int32) × (Nat → Int32))), k ≤ K → K - k < m → DS pr as sy fl n k di →
    ∃ di' tr', f_X8_build_l23 F (nI K) ma now (nI n) mp sA m (nI k) di tr X = X di' tr' ∧ DS pr as sy fl n K di' := by
  intro m
  induction m with
  | zero => intro k di tr X h1 h2; omega
  | succ m ih =>
    intro k di tr X h1 h2 hD
    rw [f_X8_build_l23]
    by_cases h : K ≤ k
    · rw [if_pos (nI_le h (by omega))]
      exact ⟨di, tr, rfl, by rw [show K = k by omega]; exact hD⟩
    · obtain ⟨⟨o1, -, -, -⟩, n1, -, -, -⟩ := hN k (by omega)
      rw [if_neg (nI_ge (by omega) (by omega)), e14, gar_n (by omega) (by omega), nI_clamp (by omega), n1, k3]
      by_cases h3 : (fl k).1 < 3
      · rw [if_pos (nI_lt h3 (by omega)), k1, nI_add]
        refine ih (k + 1) di tr X (by omega) (by omega) (fun lo hi r a1 a2 a3 => ?_)
        rw [hD lo hi r a1 a2 a3, Dk, if_neg (by omega), if_neg (by omega)]
      · rw [if_neg (nI_nlt (by omega) (by omega))]
        unfold f_X8_countSpans
        obtain ⟨di1, tr1, e1, e2⟩ := m_cs_l2d (F := F) (D0 := Dk pr as sy fl n k) hF hK (show k < N by omega) hN hE hn (by omega) F 0 di tr (fun md_discarded md_trees => (some (md_discarded, md_trees))) (by omega) (by omega) hD (fun lo hi r a1 a2 a3 a4 => by rcases a4 with a4 | a4 <;> omega)
        rw [← k1] at e1
        rw [e1, Option.bind_some, k1, nI_add]
        refine ih (k + 1) di1 tr1 X (by omega) (by omega) (fun lo hi r a1 a2 a3 => ?_)
        rw [e2 lo hi r a1 a2 a3, Dk_3 (by omega)]
theorem m_bld_l2 {F : Nat} {z : Int32} : ∀ (m i : Nat) (di : Nat → Int32) (X : (Nat → Int32) → Option ((Nat → Int32) × (Nat → Int32))), i ≤ 121 → 121 - i < m →
    ∃ di', f_X8_build_l2 F z m (nI i) di X = X di' ∧ (∀ j, i ≤ j → j < 121 → di' j = 0) := by
  intro m
  induction m with
  | zero => intro i di X h1 h2; omega
  | succ m ih =>
    intro i di X h1 h2
    rw [f_X8_build_l2, k121]
    by_cases h : 121 ≤ i
    · rw [if_pos (nI_le h (by omega))]
      exact ⟨di, rfl, fun j a b => by omega⟩
    · have keep : ∀ (m i : Nat) (di : Nat → Int32) (X : (Nat → Int32) → Option ((Nat → Int32) × (Nat → Int32))), i ≤ 121 → 121 - i < m → ∃ di', f_X8_build_l2 F z m (nI i) di X = X di' ∧ (∀ j, i ≤ j → j < 121 → di' j = 0) ∧ (∀ j, j < i → di' j = di j) := by
        intro m
        induction m with
        | zero => intro i di X h1 h2; omega
        | succ m ih2 =>
          intro i di X h1 h2
          rw [f_X8_build_l2, k121]
          by_cases h : 121 ≤ i
          · rw [if_pos (nI_le h (by omega))]
            exact ⟨di, rfl, fun j a b => by omega, fun _ _ => rfl⟩
          · rw [if_neg (nI_ge (by omega) (by omega)), gar_n (by omega) (by omega), nI_clamp (by omega), k1, nI_add]
            obtain ⟨di', g1, g2, g3⟩ := ih2 (i + 1) (upd di i 0) X (by omega) (by omega)
            refine ⟨di', g1, fun j a b => ?_, fun j a => ?_⟩
            · by_cases e : j = i
              · rw [g3 j (by omega), e, pk_us]
              · exact g2 j (by omega) b
            · rw [g3 j (by omega), pk_un (by omega)]
      rw [if_neg (nI_ge (by omega) (by omega)), gar_n (by omega) (by omega), nI_clamp (by omega), k1, nI_add]
      obtain ⟨di', g1, g2, g3⟩ := keep m (i + 1) (upd di i 0) X (by omega) (by omega)
      refine ⟨di', g1, fun j a b => ?_⟩
      by_cases e : j = i
      · rw [g3 j (by omega), e, pk_us]
      · exact g2 j (by omega) b
theorem m_build {F N K n : Nat} {fl : Nat → FL} {pr as sA mp ma now di tr : Nat → Int32} {sy : Nat → Nat} (hF : 121 < F) (hK : N ≤ 6) (hKN : K ≤ N) (hN : NowF now fl N) (hE : ExM pr as sy n sA mp ma) (hn : n ≤ 10) :
    ∃ di' tr', f_X8_build F (nI K) ma di now (nI n) mp sA tr = some (di', tr') ∧ DS pr as sy fl n K di' ∧ TabQ tr' (Pk pr as sy fl K) (Dk pr as sy fl n K) n (fun _ _ => True) := by
  unfold f_X8_build
  obtain ⟨di0, a1, a2⟩ := m_bld_l2 (F := F) (z := nI K) F 0 di (fun md_discarded => (f_X8_build_l23 F (nI K) ma now (nI n) mp sA F 0 md_discarded tr (fun md_discarded md_trees => ((f_X8_countSpans F (nI K) (-4) ma md_discarded now (nI n) mp sA md_trees).bind fun o58 => (some ((o58.1), (o58.2))))))) (by omega) (by omega)
  rw [← k0] at a1
  rw [a1]
  obtain ⟨di1, tr1, b1, b2⟩ := m_bld_l23 (F := F) (by omega) hK hN hE hn K hKN F 0 di0 tr (fun md_discarded md_trees => ((f_X8_countSpans F (nI K) (-4) ma md_discarded now (nI n) mp sA md_trees).bind fun o58 => (some ((o58.1), (o58.2))))) (by omega) (by omega)
    (fun lo hi r h1 h2 h3 => by unfold DM Dk; rw [a2 _ (by omega) (by omega), bq_0 _ (by omega)]; rfl)
  rw [← k0] at b1
  rw [b1]
  unfold f_X8_countSpans
  obtain ⟨tr2, c1, c2⟩ := m_cs_l2n (F := F) (di := di1) (by omega) (show K ≤ 6 by omega) (hN.mono hKN) hE hn F 1 tr1 (fun md_discarded md_trees => (some (md_discarded, md_trees))) (by omega) (by omega) (by omega) (fun lo hi r a1 a2 a3 a4 => by rcases a4 with a4 | a4 <;> omega)
  rw [← k1] at c1
  rw [c1, Option.bind_some]
  refine ⟨di1, tr2, rfl, b2, fun lo hi r h1 h2 h3 _ => ?_⟩
  rw [c2 lo hi r h1 h2 h3 trivial]
  congr 1
  exact Cc_congr (fun _ _ _ _ _ => rfl) (fun a b q q1 q2 q3 q4 => b2 a b q q3 q4 (by omega)) h1 h2
theorem m_all_l {F n : Nat} {tr : Nat → Int32} (hn : n ≤ 10) : ∀ (m r : Nat) (v : Int32) (X : Int32 → Option Int32), r ≤ n → n - r < m → f_X8_all_l15 F (nI n) tr m v (nI r) X = X (v + isum (fun q => tr (n * 10 + q)) (fun _ => true) r (n - r)) := by
  intro m
  induction m with
  | zero => intro r v X h1 h2; omega
  | succ m ih =>
    intro r v X h1 h2
    rw [f_X8_all_l15]
    by_cases h : n ≤ r
    · rw [if_pos (nI_le h (by omega)), show n - r = 0 by omega, isum, Int32.add_zero]
    · rw [if_neg (nI_ge (by omega) (by omega)), eIx, gar_n (by omega) (by omega), nI_clamp (by omega), k1, nI_add, ih (r + 1) _ X (by omega) (by omega), show n - r = (n - (r + 1)) + 1 by omega, isum]
      simp only [if_true]
      rw [Int32.add_assoc]
theorem m_treesBy {F N K n : Nat} {fl : Nat → FL} {pr as sA mp ma now di tr : Nat → Int32} {sy : Nat → Nat} (hF : 121 < F) (hK : N ≤ 6) (hKN : K ≤ N) (hN : NowF now fl N) (hE : ExM pr as sy n sA mp ma) (hn : n ≤ 10) :
    ∃ di' tr', f_X8_treesBy F (nI K) ma di now (nI n) mp sA tr = some (nI (nTrees pr as sy fl n K), di', tr') ∧ DS pr as sy fl n K di' ∧ TabQ tr' (Pk pr as sy fl K) (Dk pr as sy fl n K) n (fun _ _ => True) := by
  unfold f_X8_treesBy
  obtain ⟨di1, tr1, a1, a2, a3⟩ := m_build (F := F) (di := di) (tr := tr) hF hK hKN hN hE hn
  rw [a1, Option.bind_some]
  refine ⟨di1, tr1, ?_, a2, a3⟩
  have e : ∀ v, f_X8_all_b12 F v (nI n) tr1 = some (v + isum (fun q => tr1 (n * 10 + q)) (fun _ => true) 0 n) := by
    intro v
    unfold f_X8_all_b12
    rw [show f_X8_all_l15 F (nI n) tr1 F v 0 (fun v1 => some v1) = f_X8_all_l15 F (nI n) tr1 F v (nI 0) (fun v1 => some v1) by rw [k0], m_all_l hn F 0 v _ (by omega) (by omega), Nat.sub_zero]
  unfold f_X8_all
  unfold nTrees Sc Sf
  by_cases h : n = 0
  · subst h
    rw [if_pos (show nI 0 = 0 from nI_0), e, Option.bind_some, if_neg (by omega), isum, Int32.add_zero, k1]
  · rw [if_neg (show ¬ nI n = 0 from fun z => h ((nI_eq (by omega) (by omega)).mp (z.trans k0))), e, Option.bind_some, if_pos (by omega), Int32.zero_add, Nat.sub_zero]
    rw [isum_nI n 0 (g := Cc (Pk pr as sy fl K) (Dk pr as sy fl n K) 0 n) (ok' := fun _ => true) (fun q h1 h2 => ⟨rfl, fun _ => by
      have := a3 0 n q h1 (by omega) (Nat.le_refl _) trivial
      rw [Nat.zero_mul, Nat.zero_add] at this
      exact this⟩)]
