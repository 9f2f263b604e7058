/-! 45: the reference's forest -/
theorem gar_p {α : Type} {i : Int32} {a n : Nat} {x : Option α} (e : i = nI a) (h : a < n) (hn : n < 2 ^ 31) : gar i n x = x := by rw [e]; exact gar_n h hn
theorem ix_p {i : Int32} {a : Nat} (e : i = nI a) (h : a < 2 ^ 31) : Int32.toNatClampNeg i = a := by rw [e]; exact nI_clamp h
theorem e14 (k : Nat) : (1 : Int32) + (4 * nI k) = nI (1 + 4 * k) := by rw [k1, k4, pk_mul, nI_add]
theorem eSp (lo hi : Nat) : ((11 : Int32) * nI lo) + nI hi = nI (lo * 11 + hi) := by rw [k11, pk_mul, nI_add, Nat.mul_comm]
theorem eIx (s r : Nat) : ((10 : Int32) * nI s) + nI r = nI (s * 10 + r) := by rw [k10, pk_mul, nI_add, Nat.mul_comm]
/-- the filters in the reference's row -/
def NowF (now : Nat → Int32) (fl : Nat → FL) (K : Nat) : Prop := ∀ i, i < K → okF (fl i) ∧ now (1 + 4 * i) = nI (fl i).1 ∧ now (1 + 4 * i + 1) = nI (fl i).2.1 ∧ now (1 + 4 * i + 2) = nI (fl i).2.2.1 ∧ now (1 + 4 * i + 3) = nI (fl i).2.2.2
/-- the expression in the reference: symbols, and what is told of those that stand in it -/
def ExM (pr as : Nat → Int32) (sy : Nat → Nat) (n : Nat) (sA mp ma : Nat → Int32) : Prop := ∀ i, i < n → sA i = nI (sy i) ∧ sy i < 9 ∧ mp (sy i) = pr (sy i) ∧ ma (sy i) = as (sy i) ∧ ∃ z, z < 3 ∧ as (sy i) = nI z
theorem m_forbBy {F K n p c side k : Nat} {fl : Nat → FL} {pr as sA mp ma now : Nat → Int32} {sy : Nat → Nat} (hK : K ≤ 6) (hk : k < K) (hN : NowF now fl K) (hE : ExM pr as sy n sA mp ma) (hn : n ≤ 10) (hp : p < n) (hc : c < n) (hs : side < 2) : f_X8_isForbiddenBy F (nI k) (nI p) (nI c) (nI side) ma now mp sA = some (bI (forb pr as sy (fl k) side p c)) := by
  obtain ⟨⟨o1, o2, o3, o4⟩, n1, n2, n3, n4⟩ := hN k hk
  obtain ⟨p1, p2, p3, p4, zp, p5, p6⟩ := hE p hp
  obtain ⟨c1, c2, c3, c4, -⟩ := hE c hc
  unfold f_X8_isForbiddenBy forb
  rw [e14, gar_n (by omega) (by omega), gar_n (by omega) (by omega), gar_n (by omega) (by omega), nI_clamp (by omega), nI_clamp (by omega), nI_clamp (by omega), n1, p1, c1, gar_n p2 (by omega), gar_n c2 (by omega), nI_clamp (by omega), nI_clamp (by omega), p3, c3]
  rw [gar_n p2 (by omega), gar_n p2 (by omega), p4]
  by_cases e0 : (fl k).1 = 0
  · rw [e0, if_pos (show nI 0 = 0 from nI_0), if_pos rfl]
    exact not_le_lt
  · rw [if_neg (show ¬ nI (fl k).1 = 0 from fun z => e0 ((nI_eq (by omega) (by omega)).mp (z.trans k0))), if_neg e0]
    by_cases e1 : (fl k).1 = 1
    · rw [e1, if_pos (show nI 1 = 1 from k1.symm), if_pos rfl]
      by_cases q : pr (sy c) = pr (sy p)
      · rw [if_pos q.symm, decide_eq_true q, Bool.true_and, p6]
        simp only [gar_n p2 (by omega : (9 : Nat) < 2 ^ 31), gar_n c2 (by omega : (9 : Nat) < 2 ^ 31)]
        have hz : zp = 0 ∨ zp = 1 ∨ zp = 2 := by omega
        rcases (show side = 0 ∨ side = 1 by omega) with e | e <;> subst e <;> rcases hz with e | e | e <;> subst e <;> rfl
      · rw [if_neg (fun z => q z.symm), decide_eq_false q, Bool.false_and, gar_n c2 (by omega)]; rfl
    · rw [if_neg (show ¬ nI (fl k).1 = 1 from fun z => e1 ((nI_eq (by omega) (by omega)).mp (z.trans k1))), if_neg e1]
      by_cases e2 : (fl k).1 = 2
      · rw [e2, if_pos (show nI 2 = 2 from k2.symm), if_pos rfl, k1, nI_add, k2, nI_add, k3, nI_add, gar_n (by omega) (by omega), gar_n (by omega) (by omega), gar_n (by omega) (by omega), nI_clamp (by omega), nI_clamp (by omega), nI_clamp (by omega), n2, n3, n4]
        by_cases q2 : sy p = (fl k).2.1
        · rw [if_pos (by rw [q2]), decide_eq_true q2, Bool.true_and]
          by_cases q3 : sy c = (fl k).2.2.1
          · rw [if_pos (by rw [q3]), decide_eq_true q3, Bool.and_true]
            by_cases q : side = (fl k).2.2.2
            · rw [if_pos (by rw [q]), decide_eq_true q]; rfl
            · rw [if_neg (fun z => q ((nI_eq (by omega) (by omega)).mp z).symm), decide_eq_false q]; rfl
          · rw [if_neg (fun z => q3 ((nI_eq (by omega) (by omega)).mp z).symm), decide_eq_false q3, Bool.and_false]; rfl
        · rw [if_neg (fun z => q2 ((nI_eq (by omega) (by omega)).mp z).symm), decide_eq_false q2, Bool.false_and, Bool.and_false]; rfl
      · rw [if_neg (show ¬ nI (fl k).1 = 2 from fun z => e2 ((nI_eq (by omega) (by omega)).mp (z.trans k2))), if_neg e2]; rfl
/-- one of the filters j .. j + m - 1 forbids -/
def anyF (g : Nat → Bool) : Nat → Nat → Bool
  | _, 0 => false
  | j, m + 1 => g j || anyF g (j + 1) m
theorem anyF_back (g : Nat → Bool) : ∀ (m j : Nat), anyF g j (m + 1) = (anyF g j m || g (j + m)) := by
  intro m
  induction m with
  | zero => intro j; simp [anyF]
  | succ m ih =>
    intro j
    rw [anyF, ih (j + 1), show anyF g j (m + 1) = (g j || anyF g (j + 1) m) from rfl, Bool.or_assoc, show j + 1 + m = j + (m + 1) by omega]
theorem Pk_any (pr as : Nat → Int32) (sy : Nat → Nat) (fl : Nat → FL) (s p c : Nat) : ∀ K, Pk pr as sy fl K s p c = !anyF (fun k => forb pr as sy (fl k) (sd s) p c) 0 K := by
  intro K
  induction K with
  | zero => rfl
  | succ K ih =>
    rw [anyF_back, Pk]
    simp only []
    rw [ih, Bool.not_or, Nat.zero_add]
theorem m_forb_l {F K n p c side : Nat} {fl : Nat → FL} {pr as sA mp ma now : Nat → Int32} {sy : Nat → Nat} (hK : K ≤ 6) (hN : NowF now fl K) (hE : ExM pr as sy n sA mp ma) (hn : n ≤ 10) (hp : p < n) (hc : c < n) (hs : side < 2) : ∀ (m k : Nat) (b : Bool) (X : Int32 → Option Int32), k ≤ K → K - k < m → f_X8_isForbidden_l6 F (nI K) (nI p) (nI c) (nI side) ma now mp sA m (bI b) (nI k) X = X (bI (b || anyF (fun k => forb pr as sy (fl k) side p c) k (K - k))) := by
  intro m
  induction m with
  | zero => intro k b X h1 h2; omega
  | succ m ih =>
    intro k b X h1 h2
    rw [f_X8_isForbidden_l6]
    by_cases h : K ≤ k
    · rw [if_pos (nI_le h (by omega)), show K - k = 0 by omega, anyF, Bool.or_false]
    · rw [if_neg (nI_ge (by omega) (by omega)), bI_ite]
      cases b with
      | true => simp only [if_true]; rw [Bool.true_or]
      | false =>
        simp only [Bool.false_eq_true, if_false]
        rw [m_forbBy hK (by omega) hN hE hn hp hc hs, Option.bind_some, k1, nI_add, ih (k + 1) _ X (by omega) (by omega), show K - k = (K - (k + 1)) + 1 by omega, anyF, Bool.false_or]
theorem m_isForbidden {F K n p c side : Nat} {fl : Nat → FL} {pr as sA mp ma now : Nat → Int32} {sy : Nat → Nat} (hF : 12 < F) (hK : K ≤ 6) (hN : NowF now fl K) (hE : ExM pr as sy n sA mp ma) (hn : n ≤ 10) (hp : p < n) (hc : c < n) (hs : side < 2) : f_X8_isForbidden F (nI K) (nI p) (nI c) (nI side) ma now mp sA = some (bI (!Pk pr as sy fl K side p c)) := by
  unfold f_X8_isForbidden
  have := m_forb_l (F := F) hK hN hE hn hp hc hs F 0 false (fun v5 => (gbo v5 (some (v5)))) (by omega) (by omega)
  rw [bI_f, ← k0] at this
  rw [this, gbo_b, Bool.false_or, Nat.sub_zero, Pk_any, Bool.not_not]
  have hsd : sd side = side := by unfold sd; rcases (show side = 0 ∨ side = 1 by omega) with e | e <;> subst e <;> rfl
  rw [hsd]
theorem m_below_l {F K n lo hi p side : Nat} {fl : Nat → FL} {pr as sA mp ma now tr : Nat → Int32} {sy : Nat → Nat} (hF : 12 < F) (hK : K ≤ 6) (hN : NowF now fl K) (hE : ExM pr as sy n sA mp ma) (hn : n ≤ 10) (hp : p < n) (hs : side < 2) (hlo : lo ≤ hi) (hhi : hi ≤ n) : ∀ (m q : Nat) (v : Int32) (X : Int32 → Option Int32), q ≤ hi → hi - q < m →
    f_X8_below_l15 F (nI K) (nI lo) (nI hi) (nI p) (nI side) ma now mp sA tr m v (nI q) X = X (v + isum (fun q => tr ((lo * 11 + hi) * 10 + q)) (Pk pr as sy fl K side p) q (hi - q)) := by
  intro m
  induction m with
  | zero => intro q v X h1 h2; omega
  | succ m ih =>
    intro q v X h1 h2
    rw [f_X8_below_l15]
    by_cases h : hi ≤ q
    · rw [if_pos (nI_le h (by omega)), show hi - q = 0 by omega, isum, Int32.add_zero]
    · rw [if_neg (nI_ge (by omega) (by omega)), m_isForbidden hF hK hN hE hn hp (show q < n by omega) hs, Option.bind_some, bI_ite, eSp, eIx, gar_n (by omega) (by omega), nI_clamp (by omega), k1, nI_add, ih (q + 1) _ X (by omega) (by omega), ih (q + 1) _ X (by omega) (by omega), show hi - q = (hi - (q + 1)) + 1 by omega, isum]
      cases Pk pr as sy fl K side p q with
      | true => simp only [Bool.not_true, Bool.false_eq_true, if_false, if_true]; rw [Int32.add_assoc]
      | false => simp only [Bool.not_false, Bool.false_eq_true, if_false, if_true]; rw [Int32.add_zero, Int32.zero_add]
theorem m_below {F K n lo hi p side : Nat} {fl : Nat → FL} {pr as sA mp ma now tr : Nat → Int32} {sy : Nat → Nat} {D : Nat → Nat → Nat → Bool} (hF : 12 < F) (hK : K ≤ 6) (hN : NowF now fl K) (hE : ExM pr as sy n sA mp ma) (hn : n ≤ 10) (hp : p < n) (hs : side < 2) (hlo : lo ≤ hi) (hhi : hi ≤ n)
    (ht : ∀ r, lo ≤ r → r < hi → tr ((lo * 11 + hi) * 10 + r) = nI (Cc (Pk pr as sy fl K) D lo hi r)) : f_X8_below F (nI K) (nI lo) (nI hi) (nI p) (nI side) ma now mp sA tr = some (nI (Sc (Pk pr as sy fl K) D lo hi (Pk pr as sy fl K side p))) := by
  unfold f_X8_below f_X8_below_b10
  have e := fun v => m_below_l (F := F) (tr := tr) hF hK hN hE hn hp hs hlo hhi F lo v (fun v6 => (some (v6))) hlo (by omega)
  by_cases h : lo = hi
  · rw [if_pos (by rw [h]), e, show hi - lo = 0 by omega, isum, Int32.add_zero]
    unfold Sc Sf
    rw [if_neg (by omega), k1]
  · rw [if_neg (fun z => h ((nI_eq (by omega) (by omega)).mp z)), e, Int32.zero_add]
    congr 1
    unfold Sc Sf
    rw [if_pos (by omega)]
    exact isum_nI _ _ (fun q h1 h2 => ⟨rfl, fun _ => ht q h1 (by omega)⟩)
/-- the reference's discards -/
def DM (di : Nat → Int32) : Nat → Nat → Nat → Bool := fun lo hi r => !bq (di (lo * 11 + hi)) r
theorem m_has (F q : Nat) (w : Int32) : f_X8_has F w (nI q) = some (bI (bq w q)) := by
  unfold f_X8_has bq
  by_cases h : ((w >>> (nI q &&& 31)) &&& 1) = 1
  · rw [if_pos h, decide_eq_true h, bI_t]
  · rw [if_neg h, decide_eq_false h, bI_f]
theorem m_cs_l44 {F K n lo hi : Nat} {z : Int32} {v3 : Int32} {fl : Nat → FL} {pr as sA mp ma now di : Nat → Int32} {sy : Nat → Nat} (hF : 12 < F) (hK : K ≤ 6) (hN : NowF now fl K) (hE : ExM pr as sy n sA mp ma) (hn : n ≤ 10) (hlo : lo ≤ hi) (hhi : hi ≤ n) : ∀ (m r : Nat) (tr : Nat → Int32) (X : (Nat → Int32) → Option ((Nat → Int32) × (Nat → Int32))), lo ≤ r → r ≤ hi → hi - r < m →
    (∀ a b q, lo ≤ a → b ≤ hi → a ≤ q → q < b → b - a < hi - lo → tr ((a * 11 + b) * 10 + q) = nI (Cc (Pk pr as sy fl K) (DM di) a b q)) →
    ∃ tr', f_X8_countSpans_l44 F (nI K) z v3 (nI lo) (nI hi) (nI (lo * 11 + hi)) ma di now mp sA m (nI r) tr X = X tr' ∧ (∀ q, r ≤ q → q < hi → tr' ((lo * 11 + hi) * 10 + q) = nI (Cc (Pk pr as sy fl K) (DM di) lo hi q)) ∧ (∀ j, (∀ q, r ≤ q → q < hi → j ≠ (lo * 11 + hi) * 10 + q) → tr' j = tr j) := by
  intro m
  induction m with
  | zero => intro r tr X h1 h2 h3; omega
  | succ m ih =>
    intro r tr X h1 h2 h3 ht
    rw [f_X8_countSpans_l44]
    by_cases h : hi ≤ r
    · rw [if_pos (nI_le h (by omega))]
      exact ⟨tr, rfl, fun q q1 q2 => absurd q1 (by omega), fun j _ => rfl⟩
    · rw [if_neg (nI_ge (by omega) (by omega)), gar_n (by omega) (by omega), nI_clamp (by omega), m_has, Option.bind_some, bI_ite]
      have step : ∀ x : Nat, x = Cc (Pk pr as sy fl K) (DM di) lo hi r → ∃ tr', f_X8_countSpans_l44 F (nI K) z v3 (nI lo) (nI hi) (nI (lo * 11 + hi)) ma di now mp sA m (nI r + 1) (upd tr ((lo * 11 + hi) * 10 + r) (nI x)) X = X tr' ∧ (∀ q, r ≤ q → q < hi → tr' ((lo * 11 + hi) * 10 + q) = nI (Cc (Pk pr as sy fl K) (DM di) lo hi q)) ∧ (∀ j, (∀ q, r ≤ q → q < hi → j ≠ (lo * 11 + hi) * 10 + q) → tr' j = tr j) := by
        intro x hx
        rw [k1, nI_add]
        obtain ⟨tr', e1, e2, e3⟩ := ih (r + 1) (upd tr ((lo * 11 + hi) * 10 + r) (nI x)) X (by omega) (by omega) (by omega) (fun a b q q1 q2 q3 q4 q5 => by rw [pk_un (ix_ne (by omega) (by omega) (by omega) (by omega) (by omega))]; exact ht a b q q1 q2 q3 q4 q5)
        refine ⟨tr', e1, fun q q1 q2 => ?_, fun j hj => ?_⟩
        · by_cases hq : q = r
          · subst hq
            rw [e3 _ (fun q' _ _ => by omega), pk_us, hx]
          · exact e2 q (by omega) q2
        · rw [e3 j (fun q q1 q2 => hj q (by omega) q2), pk_un (hj r (Nat.le_refl _) (by omega))]
      have hC := Cc_eq (P := Pk pr as sy fl K) (D := DM di) h1 (show r < hi by omega)
      have hD : DM di lo hi r = !bq (di (lo * 11 + hi)) r := rfl
      rw [hD] at hC
      unfold f_X8_countSpans_b71
      cases hb : bq (di (lo * 11 + hi)) r with
      | true =>
        simp only [if_true]
        rw [hb] at hC
        simp only [Bool.not_true, Bool.false_eq_true, if_false] at hC
        rw [eIx, gar_n (by omega) (by omega), nI_clamp (by omega), show (0 : Int32) = nI 0 from k0]
        exact step 0 hC.symm
      | false =>
        simp only [Bool.false_eq_true, if_false]
        rw [hb] at hC
        simp only [Bool.not_false, if_true] at hC
        have b0 := m_below (F := F) (side := 0) (tr := tr) (D := DM di) hF hK hN hE hn (show r < n by omega) (by omega) h1 (show r ≤ n by omega) (fun q q1 q2 => ht lo r q (Nat.le_refl _) (by omega) q1 q2 (by omega))
        have b1 := m_below (F := F) (side := 1) (tr := tr) (D := DM di) hF hK hN hE hn (show r < n by omega) (by omega) (show r + 1 ≤ hi by omega) hhi (fun q q1 q2 => ht (r + 1) hi q (by omega) (Nat.le_refl _) q1 q2 (by omega))
        rw [← k0] at b0
        rw [← k1, ← nI_add, ← k1] at b1
        rw [if_neg (show ¬ (1 : Int32) = 0 by decide), b0, Option.bind_some, b1, Option.bind_some, pk_mul, eIx, gar_n (by omega) (by omega), nI_clamp (by omega)]
        exact step _ hC.symm
