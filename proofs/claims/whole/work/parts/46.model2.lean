/-! 46: the reference discards and builds -/
theorem m_b60 {F sp r c : Nat} {v2 v3 v4 v6 v7 : Int32} {same h8 h9 : Bool} {tr : Nat → Int32} {K : Int32 → Int32 → Int32 → Int32 → Int32 → Option ((Nat → Int32) × (Nat → Int32))} {X : Int32 → Int32 → Int32 → Int32 → Option ((Nat → Int32) × (Nat → Int32))} (hi : sp * 10 + r < 1210) (ht : tr (sp * 10 + r) = nI c) (hc : c ≤ 16796) :
    f_X8_discard_b60 F v2 v3 v4 (nI sp) v6 v7 (bI h8) (bI h9) (nI r) (bI same) tr K X = K (v6 ||| (if same then (1 <<< (nI r &&& 31)) else (0 : Int32))) (v7 ||| (if same then (0 : Int32) else (1 <<< (nI r &&& 31)))) (bI (h8 || (same && decide (0 < c)))) (bI (h9 || (!same && decide (0 < c)))) (nI r + 1) := by
  unfold f_X8_discard_b60
  rw [eIx, gar_n hi (by omega), nI_clamp (by omega), ht]
  by_cases h : c = 0
  · subst h
    rw [if_pos (show nI 0 ≤ (0 : Int32) by decide)]
    unfold f_X8_discard_b83 f_X8_discard_b100 f_X8_discard_b118 f_X8_discard_b136 f_X8_discard_b140 f_X8_discard_b141
    cases same <;> cases h8 <;> cases h9 <;> simp [bI]
  · rw [if_neg (nI_nle (by omega) (by omega)), decide_eq_true (show 0 < c by omega)]
    unfold f_X8_discard_b83 f_X8_discard_b100 f_X8_discard_b118 f_X8_discard_b136 f_X8_discard_b140 f_X8_discard_b141
    cases same <;> cases h8 <;> cases h9 <;> simp [bI]
theorem bq_or (x y : Int32) (q : Nat) (hq : q < 32) : bq (x ||| y) q = (bq x q || bq y q) := by rw [bq_bt _ _ hq, bq_bt _ _ hq, bq_bt _ _ hq, b_or]
theorem bq_one (r q : Nat) (hr : r < 32) (hq : q < 32) : bq (1 <<< (nI r &&& 31)) q = decide (q = r) := by rw [bq_bt _ _ hq, b_bit r hr hq]
theorem m_dis_l30 {F n lo hi its a : Nat} {now sA tr : Nat → Int32} {sy C : Nat → Nat} (hn : n ≤ 10) (hhi : hi ≤ n) (hlo : lo ≤ hi) (hits : its + 1 < 51) (ha : a < 9) (hnow : now (its + 1) = nI a) (hsy : ∀ i, i < n → sA i = nI (sy i) ∧ sy i < 9) (ht : ∀ r, lo ≤ r → r < hi → tr ((lo * 11 + hi) * 10 + r) = nI (C r) ∧ C r ≤ 16796) : ∀ (m r : Nat) (v6 v7 : Int32) (h8 h9 : Bool) (X : Int32 → Int32 → Int32 → Int32 → Option ((Nat → Int32) × (Nat → Int32))), lo ≤ r → r ≤ hi → hi - r < m →
    ∃ w6 w7, f_X8_discard_l30 F (nI lo) (nI hi) (nI its) (nI (lo * 11 + hi)) now sA tr m v6 v7 (bI h8) (bI h9) (nI r) X = X w6 w7 (bI (h8 || anyF (fun q => decide (sy q = a) && decide (0 < C q)) r (hi - r))) (bI (h9 || anyF (fun q => !decide (sy q = a) && decide (0 < C q)) r (hi - r))) ∧
      (∀ q, q < n → bq w6 q = if r ≤ q ∧ q < hi ∧ sy q = a then true else bq v6 q) ∧ (∀ q, q < n → bq w7 q = if r ≤ q ∧ q < hi ∧ ¬ sy q = a then true else bq v7 q) := by
  intro m
  induction m with
  | zero => intro r v6 v7 h8 h9 X h1 h2 h3; omega
  | succ m ih =>
    intro r v6 v7 h8 h9 X h1 h2 h3
    rw [f_X8_discard_l30]
    by_cases h : hi ≤ r
    · rw [if_pos (nI_le h (by omega)), show hi - r = 0 by omega]
      refine ⟨v6, v7, ?_, fun q hq => by rw [if_neg (by omega)], fun q hq => by rw [if_neg (by omega)]⟩
      simp only [anyF, Bool.or_false]
    · obtain ⟨s1, s2⟩ := hsy r (by omega)
      obtain ⟨t1, t2⟩ := ht r h1 (by omega)
      rw [if_neg (nI_ge (by omega) (by omega)), gar_n (by omega) (by omega), nI_clamp (by omega), gar_p (show nI its + 1 = nI (its + 1) by rw [k1, nI_add]) (by omega) (by omega), ix_p (show nI its + 1 = nI (its + 1) by rw [k1, nI_add]) (by omega), s1, hnow]
      have blk : ∀ same : Bool, same = decide (sy r = a) → ∃ w6 w7, f_X8_discard_b60 F (nI lo) (nI hi) (nI its) (nI (lo * 11 + hi)) v6 v7 (bI h8) (bI h9) (nI r) (bI same) tr (fun v6 v7 v8 v9 v10 => f_X8_discard_l30 F (nI lo) (nI hi) (nI its) (nI (lo * 11 + hi)) now sA tr m v6 v7 v8 v9 v10 X) X = X w6 w7 (bI (h8 || anyF (fun q => decide (sy q = a) && decide (0 < C q)) r (hi - r))) (bI (h9 || anyF (fun q => !decide (sy q = a) && decide (0 < C q)) r (hi - r))) ∧
          (∀ q, q < n → bq w6 q = if r ≤ q ∧ q < hi ∧ sy q = a then true else bq v6 q) ∧ (∀ q, q < n → bq w7 q = if r ≤ q ∧ q < hi ∧ ¬ sy q = a then true else bq v7 q) := by
        intro same hs
        rw [m_b60 (by omega) t1 t2, k1, nI_add]
        obtain ⟨w6, w7, g1, g2, g3⟩ := ih (r + 1) (v6 ||| (if same then (nI 1 <<< (nI r &&& 31)) else (0 : Int32))) (v7 ||| (if same then (0 : Int32) else (nI 1 <<< (nI r &&& 31)))) (h8 || (same && decide (0 < C r))) (h9 || (!same && decide (0 < C r))) X (by omega) (by omega) (by omega)
        have hb6 : ∀ q, q < n → bq (if same then (nI 1 <<< (nI r &&& 31)) else (0 : Int32)) q = (same && decide (q = r)) := by
          intro q hq
          cases same with
          | true => rw [if_pos rfl, ← k1, bq_one _ _ (by omega) (by omega), Bool.true_and]
          | false => rw [if_neg (by simp), bq_0 _ (by omega), Bool.false_and]
        have hb7 : ∀ q, q < n → bq (if same then (0 : Int32) else (nI 1 <<< (nI r &&& 31))) q = (!same && decide (q = r)) := by
          intro q hq
          cases same with
          | true => rw [if_pos rfl, bq_0 _ (by omega), Bool.not_true, Bool.false_and]
          | false => rw [if_neg (by simp), ← k1, bq_one _ _ (by omega) (by omega), Bool.not_false, Bool.true_and]
        refine ⟨w6, w7, ?_, fun q hq => ?_, fun q hq => ?_⟩
        · rw [g1, show hi - r = (hi - (r + 1)) + 1 by omega, anyF, anyF, hs, Bool.or_assoc, Bool.or_assoc]
        · rw [g2 q hq, bq_or _ _ _ (by omega), hb6 q hq, hs]
          by_cases z : q = r
          · rw [if_neg (show ¬ (r + 1 ≤ q ∧ q < hi ∧ sy q = a) by omega), decide_eq_true z, Bool.and_true]
            by_cases y : sy r = a
            · rw [if_pos (show r ≤ q ∧ q < hi ∧ sy q = a from ⟨by omega, by omega, by rw [z]; exact y⟩), decide_eq_true y, Bool.or_true]
            · rw [if_neg (show ¬ (r ≤ q ∧ q < hi ∧ sy q = a) from fun x => y (by rw [← z]; exact x.2.2)), decide_eq_false y, Bool.or_false]
          · rw [decide_eq_false z, Bool.and_false, Bool.or_false]
            by_cases y : r ≤ q ∧ q < hi ∧ sy q = a
            · rw [if_pos y, if_pos (show r + 1 ≤ q ∧ q < hi ∧ sy q = a from ⟨by omega, y.2⟩)]
            · rw [if_neg y, if_neg (show ¬ (r + 1 ≤ q ∧ q < hi ∧ sy q = a) from fun x => y ⟨by omega, x.2⟩)]
        · rw [g3 q hq, bq_or _ _ _ (by omega), hb7 q hq, hs]
          by_cases z : q = r
          · rw [if_neg (show ¬ (r + 1 ≤ q ∧ q < hi ∧ ¬ sy q = a) by omega), decide_eq_true z, Bool.and_true]
            by_cases y : sy r = a
            · rw [if_neg (show ¬ (r ≤ q ∧ q < hi ∧ ¬ sy q = a) from fun x => x.2.2 (by rw [z]; exact y)), decide_eq_true y, Bool.not_true, Bool.or_false]
            · rw [if_pos (show r ≤ q ∧ q < hi ∧ ¬ sy q = a from ⟨by omega, by omega, by rw [z]; exact y⟩), decide_eq_false y, Bool.not_false, Bool.or_true]
          · rw [decide_eq_false z, Bool.and_false, Bool.or_false]
            by_cases y : r ≤ q ∧ q < hi ∧ ¬ sy q = a
            · rw [if_pos y, if_pos (show r + 1 ≤ q ∧ q < hi ∧ ¬ sy q = a from ⟨by omega, y.2⟩)]
            · rw [if_neg y, if_neg (show ¬ (r + 1 ≤ q ∧ q < hi ∧ ¬ sy q = a) from fun x => y ⟨by omega, x.2⟩)]
      by_cases y : sy r = a
      · rw [if_pos (by rw [y])]
        exact blk true (decide_eq_true y).symm
      · rw [if_neg (fun z => y ((nI_eq (by omega) (by omega)).mp z))]
        exact blk false (decide_eq_false y).symm
theorem m_dis_l224 {F n lo hi : Nat} {w : Int32} (hn : n ≤ 10) (hhi : hi ≤ n) (hlo : lo ≤ hi) : ∀ (m r : Nat) (tr : Nat → Int32) (X : (Nat → Int32) → Option ((Nat → Int32) × (Nat → Int32))), lo ≤ r → r ≤ hi → hi - r < m →
    ∃ tr', f_X8_discard_l224 F (nI hi) (nI (lo * 11 + hi)) w m (nI r) tr X = X tr' ∧ (∀ q, r ≤ q → q < hi → tr' ((lo * 11 + hi) * 10 + q) = if bq w q then 0 else tr ((lo * 11 + hi) * 10 + q)) ∧ (∀ j, (∀ q, r ≤ q → q < hi → j ≠ (lo * 11 + hi) * 10 + q) → tr' j = tr j) := by
  intro m
  induction m with
  | zero => intro r tr X h1 h2 h3; omega
  | succ m ih =>
    intro r tr X h1 h2 h3
    rw [f_X8_discard_l224]
    by_cases h : hi ≤ r
    · rw [if_pos (nI_le h (by omega))]
      exact ⟨tr, rfl, fun q q1 q2 => absurd q1 (by omega), fun j _ => rfl⟩
    · rw [if_neg (nI_ge (by omega) (by omega)), m_has, Option.bind_some, bI_ite, eIx]
      simp only [gar_n (show (lo * 11 + hi) * 10 + r < 1210 by omega) (show (1210 : Nat) < 2 ^ 31 by omega), nI_clamp (show (lo * 11 + hi) * 10 + r < 2 ^ 31 by omega)]
      rw [k1, nI_add]
      have step : ∀ x : Int32, x = (if bq w r then 0 else tr ((lo * 11 + hi) * 10 + r)) → ∃ tr', f_X8_discard_l224 F (nI hi) (nI (lo * 11 + hi)) w m (nI (r + 1)) (upd tr ((lo * 11 + hi) * 10 + r) x) X = X tr' ∧ (∀ q, r ≤ q → q < hi → tr' ((lo * 11 + hi) * 10 + q) = if bq w q then 0 else tr ((lo * 11 + hi) * 10 + q)) ∧ (∀ j, (∀ q, r ≤ q → q < hi → j ≠ (lo * 11 + hi) * 10 + q) → tr' j = tr j) := by
        intro x hx
        obtain ⟨tr', e1, e2, e3⟩ := ih (r + 1) (upd tr ((lo * 11 + hi) * 10 + r) x) X (by omega) (by omega) (by omega)
        refine ⟨tr', e1, fun q q1 q2 => ?_, fun j hj => ?_⟩
        · by_cases hq : q = r
          · subst hq
            rw [e3 _ (fun q' _ _ => by omega), pk_us, hx]
          · rw [e2 q (by omega) q2, pk_un (by omega)]
        · rw [e3 j (fun q q1 q2 => hj q (by omega) q2), pk_un (hj r (Nat.le_refl _) (by omega))]
      cases hb : bq w r with
      | true => simp only [if_true]; exact step 0 (by simp [hb])
      | false => simp only [Bool.false_eq_true, if_false]; exact step (tr ((lo * 11 + hi) * 10 + r)) (by simp [hb])
theorem anyF_pos (g : Nat → Bool) : ∀ (m j : Nat), anyF g j m = true ↔ ∃ q, j ≤ q ∧ q < j + m ∧ g q = true := by
  intro m
  induction m with
  | zero => intro j; simp only [anyF]; constructor
            · intro h; cases h
            · rintro ⟨q, h1, h2, -⟩; omega
  | succ m ih =>
    intro j
    rw [anyF, Bool.or_eq_true, ih (j + 1)]
    constructor
    · rintro (h | ⟨q, h1, h2, h3⟩)
      · exact ⟨j, by omega, by omega, h⟩
      · exact ⟨q, by omega, by omega, h3⟩
    · rintro ⟨q, h1, h2, h3⟩
      by_cases e : q = j
      · subst e; exact Or.inl h3
      · exact Or.inr ⟨q, by omega, by omega, h3⟩
/-- what the filter discards from a span -/
theorem anyF_Sc {P D : _} {lo hi : Nat} {K : Nat → Bool} (hl : lo < hi) : anyF (fun q => K q && decide (0 < Cc P D lo hi q)) lo (hi - lo) = !decide (Sc P D lo hi K = 0) := by
  have e : Sc P D lo hi K = tsum (Cc P D lo hi) K lo (hi - lo) := by unfold Sc Sf; rw [if_pos hl]
  by_cases h : Sc P D lo hi K = 0
  · rw [decide_eq_true h, Bool.not_true]
    cases ha : anyF (fun q => K q && decide (0 < Cc P D lo hi q)) lo (hi - lo) with
    | false => rfl
    | true =>
      obtain ⟨q, h1, h2, h3⟩ := (anyF_pos _ _ _).mp ha
      rw [Bool.and_eq_true, decide_eq_true_eq] at h3
      have := (tsum_pos (f := Cc P D lo hi) (ok := K) (hi - lo) lo).mpr ⟨q, h1, h2, h3⟩
      omega
  · rw [decide_eq_false h, Bool.not_false]
    obtain ⟨q, h1, h2, h3, h4⟩ := (tsum_pos (f := Cc P D lo hi) (ok := K) (hi - lo) lo).mp (by omega)
    exact (anyF_pos _ _ _).mpr ⟨q, h1, h2, by rw [Bool.and_eq_true, decide_eq_true_eq]; exact ⟨h3, h4⟩⟩
/-- the symbols that a PREFER or AVOID filter keeps -/
def Kf (sy : Nat → Nat) (f : FL) : Nat → Bool := fun q => if f.1 = 3 then decide (sy q = f.2.1) else !decide (sy q = f.2.1)
theorem m_discard {F K k n lo hi : Nat} {fl : Nat → FL} {pr as : Nat → Int32} {sA mp ma now di tr : Nat → Int32} {sy : Nat → Nat} {P : Nat → Nat → Nat → Bool} {D : Nat → Nat → Nat → Bool} (hF : 12 < F) (hK : K ≤ 6) (hk : k < K) (hN : NowF now fl K) (hE : ExM pr as sy n sA mp ma) (hn : n ≤ 10) (hlo : lo < hi) (hhi : hi ≤ n) (hk3 : (fl k).1 = 3 ∨ (fl k).1 = 4)
    (ht : ∀ r, lo ≤ r → r < hi → tr ((lo * 11 + hi) * 10 + r) = nI (Cc P D lo hi r)) :
    ∃ di' tr', f_X8_discard F (nI k) (nI lo) (nI hi) di now sA tr = some (di', tr') ∧
      (∀ q, q < n → lo ≤ q → q < hi → bq (di' (lo * 11 + hi)) q = (bq (di (lo * 11 + hi)) q || !(Kf sy (fl k) q || decide (Sc P D lo hi (Kf sy (fl k)) = 0)))) ∧ (∀ j, j ≠ lo * 11 + hi → di' j = di j) ∧
      (∀ q, lo ≤ q → q < hi → tr' ((lo * 11 + hi) * 10 + q) = if Kf sy (fl k) q || decide (Sc P D lo hi (Kf sy (fl k)) = 0) then nI (Cc P D lo hi q) else 0) ∧ (∀ j, (∀ q, lo ≤ q → q < hi → j ≠ (lo * 11 + hi) * 10 + q) → tr' j = tr j) := by
  obtain ⟨⟨o1, o2, o3, o4⟩, n1, n2, -, -⟩ := hN k hk
  unfold f_X8_discard
  rw [e14, eSp]
  obtain ⟨w6, w7, g1, g2, g3⟩ := m_dis_l30 (F := F) (its := 1 + 4 * k) (a := (fl k).2.1) (now := now) (sA := sA) (tr := tr) (sy := sy) (C := Cc P D lo hi) hn hhi (Nat.le_of_lt hlo) (by omega) o2 n2 (fun i hi => ⟨(hE i hi).1, (hE i hi).2.1⟩) (fun r r1 r2 => ⟨ht r r1 r2, Cc_le (by omega) r1 r2⟩) F lo 0 0 false false
    (fun v6 v7 v8 v9 => (gar (nI (1 + 4 * k)) 51 (if (now (Int32.toNatClampNeg (nI (1 + 4 * k)))) = 3 then (if v8 = 0 then (f_X8_discard_b207 F (nI lo) (nI hi) (nI (lo * 11 + hi)) 0 di tr) else (f_X8_discard_b207 F (nI lo) (nI hi) (nI (lo * 11 + hi)) v7 di tr)) else (if v9 = 0 then (f_X8_discard_b207 F (nI lo) (nI hi) (nI (lo * 11 + hi)) 0 di tr) else (f_X8_discard_b207 F (nI lo) (nI hi) (nI (lo * 11 + hi)) v6 di tr))))) (Nat.le_refl _) (Nat.le_of_lt hlo) (by omega)
  rw [bI_f] at g1
  rw [g1, gar_n (by omega) (by omega), nI_clamp (by omega), n1, bI_ite, bI_ite, Bool.false_or, Bool.false_or]
  -- the row written
  have fin : ∀ w : Int32, (∀ q, q < n → lo ≤ q → q < hi → bq w q = !(Kf sy (fl k) q || decide (Sc P D lo hi (Kf sy (fl k)) = 0))) → ∃ di' tr', f_X8_discard_b207 F (nI lo) (nI hi) (nI (lo * 11 + hi)) w di tr = some (di', tr') ∧
      (∀ q, q < n → lo ≤ q → q < hi → bq (di' (lo * 11 + hi)) q = (bq (di (lo * 11 + hi)) q || !(Kf sy (fl k) q || decide (Sc P D lo hi (Kf sy (fl k)) = 0)))) ∧ (∀ j, j ≠ lo * 11 + hi → di' j = di j) ∧
      (∀ q, lo ≤ q → q < hi → tr' ((lo * 11 + hi) * 10 + q) = if Kf sy (fl k) q || decide (Sc P D lo hi (Kf sy (fl k)) = 0) then nI (Cc P D lo hi q) else 0) ∧ (∀ j, (∀ q, lo ≤ q → q < hi → j ≠ (lo * 11 + hi) * 10 + q) → tr' j = tr j) := by
    intro w hw
    unfold f_X8_discard_b207
    rw [gar_n (by omega) (by omega), gar_n (by omega) (by omega), nI_clamp (by omega)]
    obtain ⟨tr', e1, e2, e3⟩ := m_dis_l224 (F := F) (w := w) hn hhi (Nat.le_of_lt hlo) F lo tr (fun md_trees => (some ((upd di (lo * 11 + hi) ((di (lo * 11 + hi)) ||| w)), md_trees))) (Nat.le_refl _) (Nat.le_of_lt hlo) (by omega)
    refine ⟨_, tr', e1, fun q hq q1 q2 => ?_, fun j hj => pk_un hj, fun q q1 q2 => ?_, e3⟩
    · rw [pk_us, bq_or _ _ _ (by omega), hw q hq q1 q2]
    · rw [e2 q q1 q2, hw q (by omega) q1 q2, ht q q1 q2]
      cases Kf sy (fl k) q || decide (Sc P D lo hi (Kf sy (fl k)) = 0) <;> simp
  have zer : ∀ q, q < n → bq 0 q = false := fun q hq => bq_0 q (by omega)
  rcases hk3 with hk3 | hk3
  · rw [hk3, if_pos (show nI 3 = 3 by decide)]
    have hKf : Kf sy (fl k) = fun q => decide (sy q = (fl k).2.1) := by funext q; unfold Kf; rw [if_pos hk3]
    have ha := anyF_Sc (P := P) (D := D) (K := fun q => decide (sy q = (fl k).2.1)) hlo
    rw [ha]
    cases hz : decide (Sc P D lo hi (fun q => decide (sy q = (fl k).2.1)) = 0) with
    | true =>
      simp only [Bool.not_true, Bool.false_eq_true, if_false]
      exact fin 0 (fun q hq q1 q2 => by rw [zer q hq, hKf, hz]; simp)
    | false =>
      simp only [Bool.not_false, if_true]
      refine fin w7 (fun q hq q1 q2 => ?_)
      rw [g3 q hq, zer q hq, hKf, hz]
      by_cases y : sy q = (fl k).2.1
      · rw [if_neg (fun x => x.2.2 y)]; simp [y]
      · rw [if_pos ⟨q1, q2, y⟩]; simp [y]
  · rw [hk3, if_neg (show ¬ nI 4 = 3 by decide)]
    have hKf : Kf sy (fl k) = fun q => !decide (sy q = (fl k).2.1) := by funext q; unfold Kf; rw [if_neg (by omega)]
    have ha := anyF_Sc (P := P) (D := D) (K := fun q => !decide (sy q = (fl k).2.1)) hlo
    rw [ha]
    cases hz : decide (Sc P D lo hi (fun q => !decide (sy q = (fl k).2.1)) = 0) with
    | true =>
      simp only [Bool.not_true, Bool.false_eq_true, if_false]
      exact fin 0 (fun q hq q1 q2 => by rw [zer q hq, hKf, hz]; simp)
    | false =>
      simp only [Bool.not_false, if_true]
      refine fin w6 (fun q hq q1 q2 => ?_)
      rw [g2 q hq, zer q hq, hKf, hz]
      by_cases y : sy q = (fl k).2.1
      · rw [if_pos ⟨q1, q2, y⟩]; simp [y]
      · rw [if_neg (fun x => y x.2.2)]; simp [y]
