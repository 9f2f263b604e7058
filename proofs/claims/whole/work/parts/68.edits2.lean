/-! 68: the five insertions; removal, swap, kind, variables -/
theorem q_addPriority {F h : Nat} {e0F : Ar} {e0p : Int32} {e0V : Ar} {e1F : Ar} {e1p : Int32} {e1V : Ar} {e2F : Ar} {e2p : Int32} {e2V : Ar} {e3F : Ar} {e3p : Int32} {e3V : Ar} {stF av now hist : Ar} {pl : Int32} (hF : 154 < F) (hh : h ≤ 4) (hS : SX pl stF av now) (hX : HX h e0F e0p e0V e1F e1p e1V e2F e2p e2V e3F e3p e3V hist) (p : Int32) :
    ∃ (a : Int32) (a0F : Ar) (a0p : Int32) (a0V : Ar) (a1F : Ar) (a1p : Int32) (a1V : Ar) (a2F : Ar) (a2p : Int32) (a2V : Ar) (a3F : Ar) (a3p : Int32) (a3V : Ar) (k : Nat) (st' : Ar) (pl' : Int32) (hist' now' : Ar), f_X7_addPriorityFilter F p e0F e0p e0V e1F e1p e1V e2F e2p e2V e3F e3p e3V (nI h) stF pl av = some (a, a0F, a0p, a0V, a1F, a1p, a1V, a2F, a2p, a2V, a3F, a3p, a3V, nI k, st', pl') ∧ f_X8_addPriorityFilter F p (nI h) hist now = some (a, nI k, hist', now') ∧ k ≤ 4 ∧ SX pl' st' av now' ∧ HX k a0F a0p a0V a1F a1p a1V a2F a2p a2V a3F a3p a3V hist' := by
  obtain ⟨a, a0F, a0p, a0V, a1F, a1p, a1V, a2F, a2p, a2V, a3F, a3p, a3V, k, st', pl', hist', now', c1, c2, c3⟩ := q_insert (f := (0, 0, 0, 0)) hF hh hS hX ⟨by decide, by decide, by decide, by decide⟩ p
  have e := m_of (F := F) (k := 0) (a := 0) (b := 0) (by omega) (by omega) (by omega) 0
  rw [if_pos rfl] at e
  rw [show nI 0 = 0 by decide] at e
  unfold f_X7_addPriorityFilter f_X8_addPriorityFilter
  rw [e, Option.bind_some, c1, Option.bind_some]
  simp only [] at c2
  rw [show nI 0 = 0 by decide] at c2
  rw [c2, Option.bind_some]
  exact ⟨_, _, _, _, _, _, _, _, _, _, _, _, _, _, _, _, _, _, rfl, rfl, c3⟩
theorem q_addAssociativity {F h : Nat} {e0F : Ar} {e0p : Int32} {e0V : Ar} {e1F : Ar} {e1p : Int32} {e1V : Ar} {e2F : Ar} {e2p : Int32} {e2V : Ar} {e3F : Ar} {e3p : Int32} {e3V : Ar} {stF av now hist : Ar} {pl : Int32} (hF : 154 < F) (hh : h ≤ 4) (hS : SX pl stF av now) (hX : HX h e0F e0p e0V e1F e1p e1V e2F e2p e2V e3F e3p e3V hist) (p : Int32) :
    ∃ (a : Int32) (a0F : Ar) (a0p : Int32) (a0V : Ar) (a1F : Ar) (a1p : Int32) (a1V : Ar) (a2F : Ar) (a2p : Int32) (a2V : Ar) (a3F : Ar) (a3p : Int32) (a3V : Ar) (k : Nat) (st' : Ar) (pl' : Int32) (hist' now' : Ar), f_X7_addAssociativityFilter F p e0F e0p e0V e1F e1p e1V e2F e2p e2V e3F e3p e3V (nI h) stF pl av = some (a, a0F, a0p, a0V, a1F, a1p, a1V, a2F, a2p, a2V, a3F, a3p, a3V, nI k, st', pl') ∧ f_X8_addAssociativityFilter F p (nI h) hist now = some (a, nI k, hist', now') ∧ k ≤ 4 ∧ SX pl' st' av now' ∧ HX k a0F a0p a0V a1F a1p a1V a2F a2p a2V a3F a3p a3V hist' := by
  obtain ⟨a, a0F, a0p, a0V, a1F, a1p, a1V, a2F, a2p, a2V, a3F, a3p, a3V, k, st', pl', hist', now', c1, c2, c3⟩ := q_insert (f := (1, 0, 0, 0)) hF hh hS hX ⟨by decide, by decide, by decide, by decide⟩ p
  have e := m_of (F := F) (k := 1) (a := 0) (b := 0) (by omega) (by omega) (by omega) 0
  rw [if_pos rfl] at e
  rw [show (nI 1) = 1 by decide, show nI 0 = 0 by decide] at e
  unfold f_X7_addAssociativityFilter f_X8_addAssociativityFilter
  rw [e, Option.bind_some, c1, Option.bind_some]
  simp only [] at c2
  rw [show (nI 1) = 1 by decide, show nI 0 = 0 by decide] at c2
  rw [c2, Option.bind_some]
  exact ⟨_, _, _, _, _, _, _, _, _, _, _, _, _, _, _, _, _, _, rfl, rfl, c3⟩
theorem m_addBad {F : Nat} {now hist : Ar} {me : Int32} (p a2 a3 a4 a5 : Int32) (h : sB a3 = false ∨ sB a4 = false) : f_X8_add F p a2 a3 a4 a5 me hist now = some (-1, me, hist, now) := by
  unfold f_X8_add
  rw [g051]
  unfold f_X8_in
  have fin : ∀ z : Int32, (∀ Z : Option (Int32 × Int32 × Ar × Ar), (if z = 0 then some ((-1 : Int32), me, hist, now) else (f_X8_isSymbol F a3).bind fun o15 => if o15 = 0 then some (-1, me, hist, now) else (f_X8_isSymbol F a4).bind fun o23 => if o23 = 0 then some (-1, me, hist, now) else Z) = some (-1, me, hist, now)) := by
    intro z Z
    by_cases hz : z = 0
    · rw [if_pos hz]
    · rw [if_neg hz, m_symM, Option.bind_some, m_symM, Option.bind_some]
      rcases h with h | h
      · rw [h, bI_f, if_pos rfl]
      · rw [h, bI_f, if_pos rfl]
        split <;> rfl
  by_cases c1 : p < 0
  · rw [if_pos c1, Option.bind_some]; exact fin _ _
  · rw [if_neg c1]
    by_cases c2 : now (Int32.toNatClampNeg 0) < p
    · rw [if_pos c2, Option.bind_some]; exact fin _ _
    · rw [if_neg c2, Option.bind_some]; exact fin _ _
theorem q_addPrefer {F h : Nat} {e0F : Ar} {e0p : Int32} {e0V : Ar} {e1F : Ar} {e1p : Int32} {e1V : Ar} {e2F : Ar} {e2p : Int32} {e2V : Ar} {e3F : Ar} {e3p : Int32} {e3V : Ar} {stF av now hist : Ar} {pl : Int32} (hF : 154 < F) (hh : h ≤ 4) (hS : SX pl stF av now) (hX : HX h e0F e0p e0V e1F e1p e1V e2F e2p e2V e3F e3p e3V hist) (p p2 : Int32) :
    ∃ (a : Int32) (a0F : Ar) (a0p : Int32) (a0V : Ar) (a1F : Ar) (a1p : Int32) (a1V : Ar) (a2F : Ar) (a2p : Int32) (a2V : Ar) (a3F : Ar) (a3p : Int32) (a3V : Ar) (k : Nat) (st' : Ar) (pl' : Int32) (hist' now' : Ar), f_X7_addPreferFilter F p p2 e0F e0p e0V e1F e1p e1V e2F e2p e2V e3F e3p e3V (nI h) stF pl av = some (a, a0F, a0p, a0V, a1F, a1p, a1V, a2F, a2p, a2V, a3F, a3p, a3V, nI k, st', pl') ∧ f_X8_addPreferFilter F p p2 (nI h) hist now = some (a, nI k, hist', now') ∧ k ≤ 4 ∧ SX pl' st' av now' ∧ HX k a0F a0p a0V a1F a1p a1V a2F a2p a2V a3F a3p a3V hist' := by
  unfold f_X7_addPreferFilter f_X8_addPreferFilter
  rw [m_symC, Option.bind_some, bI_ite]
  cases hb : sB p2 with
  | false =>
    rw [m_addBad _ _ _ _ _ (Or.inl hb), Option.bind_some]
    simp only [Bool.false_eq_true, if_false]
    exact ⟨_, _, _, _, _, _, _, _, _, _, _, _, _, h, _, _, _, _, rfl, rfl, hh, hS, hX⟩
  | true =>
    obtain ⟨j, hj, rfl⟩ := sB_t hb
    obtain ⟨a, a0F, a0p, a0V, a1F, a1p, a1V, a2F, a2p, a2V, a3F, a3p, a3V, k, st', pl', hist', now', c1, c2, c3⟩ := q_insert (f := (3, j, 0, 0)) hF hh hS hX ⟨show 3 < 5 by omega, hj, show 0 < 9 by omega, show 0 < 2 by omega⟩ p
    have e := m_of (F := F) (k := 3) (a := j) (b := 0) (by omega) hj (by omega) 0
    rw [if_pos rfl, show (nI 3) = 3 by decide, show nI 0 = 0 by decide] at e
    simp only [if_true]
    rw [e, Option.bind_some, c1, Option.bind_some]
    simp only [] at c2
    rw [show (nI 3) = 3 by decide, show nI 0 = 0 by decide] at c2
    rw [c2, Option.bind_some]
    exact ⟨_, _, _, _, _, _, _, _, _, _, _, _, _, _, _, _, _, _, rfl, rfl, c3⟩
theorem q_addAvoid {F h : Nat} {e0F : Ar} {e0p : Int32} {e0V : Ar} {e1F : Ar} {e1p : Int32} {e1V : Ar} {e2F : Ar} {e2p : Int32} {e2V : Ar} {e3F : Ar} {e3p : Int32} {e3V : Ar} {stF av now hist : Ar} {pl : Int32} (hF : 154 < F) (hh : h ≤ 4) (hS : SX pl stF av now) (hX : HX h e0F e0p e0V e1F e1p e1V e2F e2p e2V e3F e3p e3V hist) (p p2 : Int32) :
    ∃ (a : Int32) (a0F : Ar) (a0p : Int32) (a0V : Ar) (a1F : Ar) (a1p : Int32) (a1V : Ar) (a2F : Ar) (a2p : Int32) (a2V : Ar) (a3F : Ar) (a3p : Int32) (a3V : Ar) (k : Nat) (st' : Ar) (pl' : Int32) (hist' now' : Ar), f_X7_addAvoidFilter F p p2 e0F e0p e0V e1F e1p e1V e2F e2p e2V e3F e3p e3V (nI h) stF pl av = some (a, a0F, a0p, a0V, a1F, a1p, a1V, a2F, a2p, a2V, a3F, a3p, a3V, nI k, st', pl') ∧ f_X8_addAvoidFilter F p p2 (nI h) hist now = some (a, nI k, hist', now') ∧ k ≤ 4 ∧ SX pl' st' av now' ∧ HX k a0F a0p a0V a1F a1p a1V a2F a2p a2V a3F a3p a3V hist' := by
  unfold f_X7_addAvoidFilter f_X8_addAvoidFilter
  rw [m_symC, Option.bind_some, bI_ite]
  cases hb : sB p2 with
  | false =>
    rw [m_addBad _ _ _ _ _ (Or.inl hb), Option.bind_some]
    simp only [Bool.false_eq_true, if_false]
    exact ⟨_, _, _, _, _, _, _, _, _, _, _, _, _, h, _, _, _, _, rfl, rfl, hh, hS, hX⟩
  | true =>
    obtain ⟨j, hj, rfl⟩ := sB_t hb
    obtain ⟨a, a0F, a0p, a0V, a1F, a1p, a1V, a2F, a2p, a2V, a3F, a3p, a3V, k, st', pl', hist', now', c1, c2, c3⟩ := q_insert (f := (4, j, 0, 0)) hF hh hS hX ⟨show 4 < 5 by omega, hj, show 0 < 9 by omega, show 0 < 2 by omega⟩ p
    have e := m_of (F := F) (k := 4) (a := j) (b := 0) (by omega) hj (by omega) 0
    rw [if_pos rfl, show (nI 4) = 4 by decide, show nI 0 = 0 by decide] at e
    simp only [if_true]
    rw [e, Option.bind_some, c1, Option.bind_some]
    simp only [] at c2
    rw [show (nI 4) = 4 by decide, show nI 0 = 0 by decide] at c2
    rw [c2, Option.bind_some]
    exact ⟨_, _, _, _, _, _, _, _, _, _, _, _, _, _, _, _, _, _, rfl, rfl, c3⟩
theorem q_addReject {F h : Nat} {e0F : Ar} {e0p : Int32} {e0V : Ar} {e1F : Ar} {e1p : Int32} {e1V : Ar} {e2F : Ar} {e2p : Int32} {e2V : Ar} {e3F : Ar} {e3p : Int32} {e3V : Ar} {stF av now hist : Ar} {pl : Int32} (hF : 154 < F) (hh : h ≤ 4) (hS : SX pl stF av now) (hX : HX h e0F e0p e0V e1F e1p e1V e2F e2p e2V e3F e3p e3V hist) (p p2 p3 p4 : Int32) :
    ∃ (a : Int32) (a0F : Ar) (a0p : Int32) (a0V : Ar) (a1F : Ar) (a1p : Int32) (a1V : Ar) (a2F : Ar) (a2p : Int32) (a2V : Ar) (a3F : Ar) (a3p : Int32) (a3V : Ar) (k : Nat) (st' : Ar) (pl' : Int32) (hist' now' : Ar), f_X7_addRejectFilter F p p2 p3 p4 e0F e0p e0V e1F e1p e1V e2F e2p e2V e3F e3p e3V (nI h) stF pl av = some (a, a0F, a0p, a0V, a1F, a1p, a1V, a2F, a2p, a2V, a3F, a3p, a3V, nI k, st', pl') ∧ f_X8_addRejectFilter F p p2 p3 p4 (nI h) hist now = some (a, nI k, hist', now') ∧ k ≤ 4 ∧ SX pl' st' av now' ∧ HX k a0F a0p a0V a1F a1p a1V a2F a2p a2V a3F a3p a3V hist' := by
  have eM : f_X8_addRejectFilter F p p2 p3 p4 (nI h) hist now = f_X8_addRejectFilter_b15 F p 2 p2 p3 (nI (if p4 = 0 then 0 else 1)) (nI h) hist now := by
    unfold f_X8_addRejectFilter
    by_cases z : p4 = 0
    · rw [if_pos z, if_pos z]; rfl
    · rw [if_neg z, if_neg z]; rfl
  rw [eM]
  unfold f_X7_addRejectFilter f_X8_addRejectFilter_b15
  rw [m_symC, Option.bind_some, bI_ite]
  cases hb : sB p2 with
  | false =>
    rw [m_addBad _ _ _ _ _ (Or.inl hb), Option.bind_some]
    simp only [Bool.false_eq_true, if_false]
    exact ⟨_, _, _, _, _, _, _, _, _, _, _, _, _, h, _, _, _, _, rfl, rfl, hh, hS, hX⟩
  | true =>
    simp only [if_true]
    rw [m_symC, Option.bind_some, bI_ite]
    cases hb3 : sB p3 with
    | false =>
      rw [m_addBad _ _ _ _ _ (Or.inr hb3), Option.bind_some]
      simp only [Bool.false_eq_true, if_false]
      exact ⟨_, _, _, _, _, _, _, _, _, _, _, _, _, h, _, _, _, _, rfl, rfl, hh, hS, hX⟩
    | true =>
      obtain ⟨j, hj, rfl⟩ := sB_t hb
      obtain ⟨i, hi, rfl⟩ := sB_t hb3
      obtain ⟨a, a0F, a0p, a0V, a1F, a1p, a1V, a2F, a2p, a2V, a3F, a3p, a3V, k, st', pl', hist', now', c1, c2, c3⟩ := q_insert (f := (2, j, i, if p4 = 0 then 0 else 1)) hF hh hS hX ⟨show 2 < 5 by omega, hj, hi, by show (if p4 = 0 then 0 else 1) < 2; split <;> omega⟩ p
      have e := m_of (F := F) (k := 2) (a := j) (b := i) (by omega) hj hi p4
      rw [show (nI 2) = 2 by decide] at e
      simp only [if_true]
      rw [e, Option.bind_some, c1, Option.bind_some]
      simp only [] at c2
      rw [show (nI 2) = 2 by decide] at c2
      rw [c2, Option.bind_some]
      exact ⟨_, _, _, _, _, _, _, _, _, _, _, _, _, _, _, _, _, _, rfl, rfl, c3⟩
/-- removal -/
def delF (fl : Nat → FL) (p : Nat) : Nat → FL := fun i => if i < p then fl i else fl (i + 1)
theorem m_delC_l {F K : Nat} (hK : K < 6) : ∀ (m v : Nat) (st : Ar) (X : Ar → Option (Ar × Int32)), v ≤ K → K - v < m → ∃ st', f_X0_delete_l12 F (nI K) m (nI v) st X = X st' ∧ ∀ i, st' i = if v ≤ i ∧ i < K then st (i + 1) else st i := by
  intro m
  induction m with
  | zero => intro v st X h1 h2; omega
  | succ m ih =>
    intro v st X h1 h2
    rw [f_X0_delete_l12]
    by_cases hz : K ≤ v
    · rw [if_pos (nI_le hz (by omega))]
      exact ⟨st, rfl, fun i => by rw [if_neg (by omega)]⟩
    · rw [if_neg (nI_ge (by omega) (by omega)), nI_1, gar_n (by omega) (by omega), gar_n (by omega) (by omega), nI_clamp (by omega), nI_clamp (by omega)]
      obtain ⟨st', e1, e2⟩ := ih (v + 1) (upd st v (st (v + 1))) X (by omega) (by omega)
      refine ⟨st', e1, fun i => ?_⟩
      rw [e2 i]
      by_cases c1 : v + 1 ≤ i ∧ i < K
      · rw [if_pos c1, if_pos (by omega), pk_un (by omega)]
      · rw [if_neg c1]
        by_cases c2 : i = v
        · subst c2
          rw [pk_us, if_pos (by omega)]
        · rw [pk_un c2, if_neg (by omega)]
theorem m_delM_l {F K : Nat} (hK : K < 6) : ∀ (m w : Nat) (now : Ar) (X : Ar → Option (Int32 × Int32 × Ar × Ar)), w ≤ 4 * K → 4 * K - w < m → now 0 = nI K → ∃ now', f_X8_removeFilter_l28 F m (nI w) now X = X now' ∧ now' 0 = nI K ∧ ∀ i, 0 < i → now' i = if 1 + w ≤ i ∧ i < 1 + 4 * K then now (i + 4) else now i := by
  intro m
  induction m with
  | zero => intro w now X h1 h2; omega
  | succ m ih =>
    intro w now X h1 h2 h0
    rw [f_X8_removeFilter_l28, g051, c00, h0, n4m]
    by_cases hz : 4 * K ≤ w
    · rw [if_pos (nI_le hz (by omega))]
      exact ⟨now, rfl, h0, fun i _ => by rw [if_neg (by omega)]⟩
    · rw [if_neg (nI_ge (by omega) (by omega)), n1a, na4, gar_n (by omega) (by omega), gar_n (by omega) (by omega), nI_clamp (by omega), nI_clamp (by omega), nI_1]
      obtain ⟨now', e1, e0, e2⟩ := ih (w + 1) (upd now (1 + w) (now (1 + w + 4))) X (by omega) (by omega) (by rw [pk_un (by omega)]; exact h0)
      refine ⟨now', e1, e0, fun i hi => ?_⟩
      rw [e2 i hi]
      by_cases c1 : 1 + (w + 1) ≤ i ∧ i < 1 + 4 * K
      · rw [if_pos c1, if_pos (by omega), pk_un (by omega)]
      · rw [if_neg c1]
        by_cases c2 : i = 1 + w
        · subst c2
          rw [pk_us, if_pos (by omega)]
        · rw [pk_un c2, if_neg (by omega)]
theorem ST_del {K p : Nat} {fl : Nat → FL} {pl : Int32} {stF av now st' now' : Ar} (h : ST (K + 1) fl pl stF av now) (hp : p ≤ K) (hst : ∀ i, st' i = if p ≤ i ∧ i < K then stF (i + 1) else stF i) (h0 : now' 0 = nI K) (hn : ∀ i, 0 < i → now' i = if 1 + 4 * p ≤ i ∧ i < 1 + 4 * K then now (i + 4) else now i) : ST K (delF fl p) (nI K) st' av now' := by
  obtain ⟨h1, h2, h3, h4, h5, h6⟩ := h
  refine ⟨by omega, rfl, h0, fun i hi => ?_, fun i hi => ?_, fun j hj => by rw [hn _ (by omega), if_neg (by omega)]; exact h6 j hj⟩
  · rw [hst i]
    unfold delF
    by_cases c1 : i < p
    · rw [if_neg (by omega), if_pos c1]; exact h4 i (by omega)
    · rw [if_pos (by omega), if_neg c1]; exact h4 (i + 1) (by omega)
  · unfold delF
    by_cases c1 : i < p
    · rw [if_pos c1, hn _ (by omega), if_neg (by omega), hn _ (by omega), if_neg (by omega), hn _ (by omega), if_neg (by omega), hn _ (by omega), if_neg (by omega)]
      exact h5 i (by omega)
    · have h7 := h5 (i + 1) (by omega)
      rw [show 1 + 4 * (i + 1) = 1 + 4 * i + 4 by omega, show 1 + 4 * i + 4 + 1 = 1 + 4 * i + 1 + 4 by omega, show 1 + 4 * i + 4 + 2 = 1 + 4 * i + 2 + 4 by omega, show 1 + 4 * i + 4 + 3 = 1 + 4 * i + 3 + 4 by omega] at h7
      rw [if_neg c1, hn _ (by omega), if_pos (by omega), hn _ (by omega), if_pos (by omega), hn _ (by omega), if_pos (by omega), hn _ (by omega), if_pos (by omega)]
      exact h7
theorem q_remove {F h : Nat} {e0F : Ar} {e0p : Int32} {e0V : Ar} {e1F : Ar} {e1p : Int32} {e1V : Ar} {e2F : Ar} {e2p : Int32} {e2V : Ar} {e3F : Ar} {e3p : Int32} {e3V : Ar} {stF av now hist : Ar} {pl : Int32} (hF : 154 < F) (hh : h ≤ 4) (hS : SX pl stF av now) (hX : HX h e0F e0p e0V e1F e1p e1V e2F e2p e2V e3F e3p e3V hist) (p : Int32) :
    ∃ (a : Int32) (a0F : Ar) (a0p : Int32) (a0V : Ar) (a1F : Ar) (a1p : Int32) (a1V : Ar) (a2F : Ar) (a2p : Int32) (a2V : Ar) (a3F : Ar) (a3p : Int32) (a3V : Ar) (k : Nat) (st' : Ar) (pl' : Int32) (hist' now' : Ar), f_X7_removeFilter F p e0F e0p e0V e1F e1p e1V e2F e2p e2V e3F e3p e3V (nI h) stF pl av = some (a, a0F, a0p, a0V, a1F, a1p, a1V, a2F, a2p, a2V, a3F, a3p, a3V, nI k, st', pl') ∧ f_X8_removeFilter F p (nI h) hist now = some (a, nI k, hist', now') ∧ k ≤ 4 ∧ SX pl' st' av now' ∧ HX k a0F a0p a0V a1F a1p a1V a2F a2p a2V a3F a3p a3V hist' := by
  have hS' := hS
  obtain ⟨K, fl, hT⟩ := hS
  obtain ⟨hK, rfl, h0, h4, h5, h6⟩ := id hT
  unfold f_X7_removeFilter f_X8_removeFilter
  rw [m_isPos, Option.bind_some, m_isFil hK h0, Option.bind_some, bI_ite, bI_ite]
  cases hb : pB p K with
  | false =>
    simp only [Bool.false_eq_true, if_false]
    exact ⟨_, _, _, _, _, _, _, _, _, _, _, _, _, h, _, _, _, _, rfl, rfl, hh, hS', hX⟩
  | true =>
    obtain ⟨q, hq, rfl⟩ := pB_t (by omega) hb
    obtain ⟨L, rfl⟩ : ∃ L, K = L + 1 := ⟨K - 1, by omega⟩
    obtain ⟨a0F, a0p, a0V, a1F, a1p, a1V, a2F, a2p, a2V, a3F, a3p, a3V, hist', s1, s2, s3⟩ := m_save hF hh hS' hX
    simp only [if_true]
    rw [s1, Option.bind_some, s2, Option.bind_some, g051, g051, c00, h0, nI_pred, n4m]
    unfold f_X0_delete
    rw [nI_pred]
    obtain ⟨st1, i1, i2⟩ := m_delC_l (F := F) (K := L) (by omega) F q stF (fun st_filters => (some (st_filters, nI L))) (by omega) (by omega)
    obtain ⟨now1, j1, j0, j2⟩ := m_delM_l (F := F) (K := L) (by omega) F (4 * q) (upd now 0 (nI L)) (fun md_now => (gar 0 51 (some ((md_now 0), nI (hN h), hist', md_now)))) (by omega) (by omega) pk_us
    refine ⟨nI L, a0F, a0p, a0V, a1F, a1p, a1V, a2F, a2p, a2V, a3F, a3p, a3V, hN h, st1, nI L, hist', now1, by rw [i1, Option.bind_some], ?_, hN_le h, ⟨L, delF fl q, ST_del hT (by omega) i2 j0 (fun i hi => ?_)⟩, s3⟩
    · refine j1.trans ?_
      rw [g051, j0]
    · rw [j2 i hi, pk_un (by omega), pk_un (by omega)]
/-- swap -/
def swF (fl : Nat → FL) (p : Nat) : Nat → FL := fun i => if i = p then fl (p + 1) else if i = p + 1 then fl p else fl i
theorem m_swC {F p : Nat} {st : Ar} (hp : p + 1 < 6) : ∃ st', f_X0_swapWithNext F (nI p) st = some st' ∧ ∀ i, st' i = if i = p then st (p + 1) else if i = p + 1 then st p else st i := by
  unfold f_X0_swapWithNext
  rw [nI_1, gar_n (by omega) (by omega), gar_n (by omega) (by omega), gar_n (by omega) (by omega), gar_n (by omega) (by omega), nI_clamp (by omega), nI_clamp (by omega)]
  refine ⟨_, rfl, fun i => ?_⟩
  by_cases c1 : i = p
  · subst c1
    rw [pk_un (by omega), pk_us, if_pos rfl]
  · rw [if_neg c1]
    by_cases c2 : i = p + 1
    · subst c2
      rw [pk_us, if_pos rfl]
    · rw [pk_un c2, pk_un c1, if_neg c2]
theorem m_swM_l {F p : Nat} (hp : p + 1 < 6) : ∀ (m v : Nat) (now : Ar) (X : Ar → Option Ar), v ≤ 4 → 4 - v < m → ∃ now', f_X8_swap_l2 F (nI p) m (nI v) now X = X now' ∧ ∀ j, now' j = if 1 + 4 * p + v ≤ j ∧ j < 5 + 4 * p then now (j + 4) else if 5 + 4 * p + v ≤ j ∧ j < 9 + 4 * p then now (j - 4) else now j := by
  intro m
  induction m with
  | zero => intro v now X h1 h2; omega
  | succ m ih =>
    intro v now X h1 h2
    rw [f_X8_swap_l2]
    by_cases hz : 4 ≤ v
    · rw [k4, if_pos (nI_le hz (by omega))]
      exact ⟨now, rfl, fun i => by rw [if_neg (by omega), if_neg (by omega)]⟩
    · rw [if_neg (show ¬ (4 : Int32) ≤ nI v by rw [k4]; exact nI_ge (by omega) (by omega)), e14, nI_add, na4, gar_n (by omega) (by omega), gar_n (by omega) (by omega), gar_n (by omega) (by omega), gar_n (by omega) (by omega), nI_clamp (by omega), nI_clamp (by omega), nI_1]
      obtain ⟨now', e1, e2⟩ := ih (v + 1) (upd (upd now (1 + 4 * p + v) (now (1 + 4 * p + v + 4))) (1 + 4 * p + v + 4) (now (1 + 4 * p + v))) X (by omega) (by omega)
      refine ⟨now', e1, fun j => ?_⟩
      rw [e2 j]
      by_cases q1 : j = 1 + 4 * p + v
      · subst q1
        rw [if_neg (by omega), if_neg (by omega), pk_un (by omega), pk_us, if_pos (by omega)]
      · by_cases q2 : j = 1 + 4 * p + v + 4
        · subst q2
          rw [if_neg (by omega), if_neg (by omega), pk_us, if_neg (by omega), if_pos (by omega), show 1 + 4 * p + v + 4 - 4 = 1 + 4 * p + v by omega]
        · by_cases c1 : 1 + 4 * p + v ≤ j ∧ j < 5 + 4 * p
          · rw [if_pos (by omega), pk_un (by omega), pk_un (by omega), if_pos c1]
          · rw [if_neg (by omega), if_neg c1]
            by_cases c2 : 5 + 4 * p + v ≤ j ∧ j < 9 + 4 * p
            · rw [if_pos (by omega), pk_un (by omega), pk_un (by omega), if_pos c2]
            · rw [if_neg (by omega), pk_un q2, pk_un q1, if_neg c2]
theorem m_swM {F p : Nat} {now : Ar} (hF : 154 < F) (hp : p + 1 < 6) : ∃ now', f_X8_swap F (nI p) now = some now' ∧ ∀ j, now' j = if 1 + 4 * p ≤ j ∧ j < 5 + 4 * p then now (j + 4) else if 5 + 4 * p ≤ j ∧ j < 9 + 4 * p then now (j - 4) else now j := by
  unfold f_X8_swap
  obtain ⟨now', e1, e2⟩ := m_swM_l (F := F) hp F 0 now (fun md_now => (some (md_now))) (by omega) (by omega)
  rw [← k0] at e1
  exact ⟨now', e1, e2⟩
theorem ST_sw {K p : Nat} {fl : Nat → FL} {pl : Int32} {stF av now st' now' : Ar} (h : ST K fl pl stF av now) (hp : p + 1 < K) (hst : ∀ i, st' i = if i = p then stF (p + 1) else if i = p + 1 then stF p else stF i) (hn : ∀ j, now' j = if 1 + 4 * p ≤ j ∧ j < 5 + 4 * p then now (j + 4) else if 5 + 4 * p ≤ j ∧ j < 9 + 4 * p then now (j - 4) else now j) : ST K (swF fl p) pl st' av now' := by
  obtain ⟨h1, h2, h3, h4, h5, h6⟩ := h
  refine ⟨h1, h2, by rw [hn 0, if_neg (by omega), if_neg (by omega)]; exact h3, fun i hi => ?_, fun i hi => ?_, fun j hj => by rw [hn _, if_neg (by omega), if_neg (by omega)]; exact h6 j hj⟩
  · rw [hst i]
    unfold swF
    by_cases c1 : i = p
    · rw [if_pos c1, if_pos c1]; exact h4 (p + 1) (by omega)
    · rw [if_neg c1, if_neg c1]
      by_cases c2 : i = p + 1
      · rw [if_pos c2, if_pos c2]; exact h4 p (by omega)
      · rw [if_neg c2, if_neg c2]; exact h4 i hi
  · unfold swF
    by_cases c1 : i = p
    · subst c1
      have h7 := h5 (i + 1) (by omega)
      rw [show 1 + 4 * (i + 1) = 1 + 4 * i + 4 by omega, show 1 + 4 * i + 4 + 1 = 1 + 4 * i + 1 + 4 by omega, show 1 + 4 * i + 4 + 2 = 1 + 4 * i + 2 + 4 by omega, show 1 + 4 * i + 4 + 3 = 1 + 4 * i + 3 + 4 by omega] at h7
      rw [if_pos rfl, hn _, if_pos (by omega), hn _, if_pos (by omega), hn _, if_pos (by omega), hn _, if_pos (by omega)]
      exact h7
    · rw [if_neg c1]
      by_cases c2 : i = p + 1
      · subst c2
        rw [if_pos rfl, hn _, if_neg (by omega), if_pos (by omega), hn _, if_neg (by omega), if_pos (by omega), hn _, if_neg (by omega), if_pos (by omega), hn _, if_neg (by omega), if_pos (by omega), show 1 + 4 * (p + 1) - 4 = 1 + 4 * p by omega, show 1 + 4 * (p + 1) + 1 - 4 = 1 + 4 * p + 1 by omega, show 1 + 4 * (p + 1) + 2 - 4 = 1 + 4 * p + 2 by omega, show 1 + 4 * (p + 1) + 3 - 4 = 1 + 4 * p + 3 by omega]
        exact h5 p (by omega)
      · rw [if_neg c2, hn _, if_neg (by omega), if_neg (by omega), hn _, if_neg (by omega), if_neg (by omega), hn _, if_neg (by omega), if_neg (by omega), hn _, if_neg (by omega), if_neg (by omega)]
        exact h5 i hi
theorem q_swap {F h : Nat} {e0F : Ar} {e0p : Int32} {e0V : Ar} {e1F : Ar} {e1p : Int32} {e1V : Ar} {e2F : Ar} {e2p : Int32} {e2V : Ar} {e3F : Ar} {e3p : Int32} {e3V : Ar} {stF av now hist : Ar} {pl : Int32} (hF : 154 < F) (hh : h ≤ 4) (hS : SX pl stF av now) (hX : HX h e0F e0p e0V e1F e1p e1V e2F e2p e2V e3F e3p e3V hist) (p : Int32) :
    ∃ (a : Int32) (a0F : Ar) (a0p : Int32) (a0V : Ar) (a1F : Ar) (a1p : Int32) (a1V : Ar) (a2F : Ar) (a2p : Int32) (a2V : Ar) (a3F : Ar) (a3p : Int32) (a3V : Ar) (k : Nat) (st' hist' now' : Ar), f_X7_swapFilters F p e0F e0p e0V e1F e1p e1V e2F e2p e2V e3F e3p e3V (nI h) stF pl av = some (a, a0F, a0p, a0V, a1F, a1p, a1V, a2F, a2p, a2V, a3F, a3p, a3V, nI k, st') ∧ f_X8_swapFilters F p (nI h) hist now = some (a, nI k, hist', now') ∧ k ≤ 4 ∧ SX pl st' av now' ∧ HX k a0F a0p a0V a1F a1p a1V a2F a2p a2V a3F a3p a3V hist' := by
  have hS' := hS
  obtain ⟨K, fl, hT⟩ := hS
  obtain ⟨hK, rfl, h0, h4, h5, h6⟩ := id hT
  unfold f_X7_swapFilters f_X8_swapFilters
  rw [m_isPos, Option.bind_some, m_isFil hK h0, Option.bind_some, bI_ite, bI_ite]
  cases hb : pB p K with
  | false =>
    simp only [Bool.false_eq_true, if_false]
    exact ⟨_, _, _, _, _, _, _, _, _, _, _, _, _, h, _, _, _, rfl, rfl, hh, hS', hX⟩
  | true =>
    obtain ⟨q, hq, rfl⟩ := pB_t (by omega) hb
    simp only [if_true]
    rw [g051, c00, h0, m_isLast hq hK, Option.bind_some, bI_ite]
    by_cases hl : q + 1 = K
    · rw [decide_eq_true hl, if_pos ((lastM hq hK).mpr hl)]
      simp only [if_true]
      exact ⟨_, _, _, _, _, _, _, _, _, _, _, _, _, h, _, _, _, rfl, rfl, hh, hS', hX⟩
    · obtain ⟨a0F, a0p, a0V, a1F, a1p, a1V, a2F, a2p, a2V, a3F, a3p, a3V, hist', s1, s2, s3⟩ := m_save hF hh hS' hX
      obtain ⟨st1, i1, i2⟩ := m_swC (F := F) (st := stF) (show q + 1 < 6 by omega)
      obtain ⟨now1, j1, j2⟩ := m_swM (F := F) (now := now) hF (show q + 1 < 6 by omega)
      have hU := ST_sw hT (show q + 1 < K by omega) i2 j2
      rw [decide_eq_false hl, if_neg (fun z => hl ((lastM hq hK).mp z))]
      simp only [Bool.false_eq_true, if_false]
      rw [s1, Option.bind_some, s2, Option.bind_some, i1, Option.bind_some, j1, Option.bind_some, e14, gar_n (by omega) (by omega), gar_n (by omega) (by omega), nI_clamp (by omega), nI_clamp (by omega)]
      obtain ⟨u1, u2, u3, u4, u5, u6⟩ := id hU
      rw [(u4 q hq).1, m_kind (u4 q hq).2, Option.bind_some, (u5 q hq).2.1]
      exact ⟨_, a0F, a0p, a0V, a1F, a1p, a1V, a2F, a2p, a2V, a3F, a3p, a3V, hN h, _, _, _, rfl, rfl, hN_le h, ⟨K, _, hU⟩, s3⟩
theorem q_filterKind {F : Nat} {pl : Int32} {stF av now : Ar} (hS : SX pl stF av now) (p : Int32) : ∃ a, f_X7_filterKind F p stF pl = some a ∧ f_X8_filterKind F p now = some a := by
  obtain ⟨K, fl, hK, rfl, h0, h4, h5, h6⟩ := hS
  unfold f_X7_filterKind f_X8_filterKind
  rw [m_isPos, Option.bind_some, m_isFil hK h0, Option.bind_some, bI_ite, bI_ite]
  cases hb : pB p K with
  | false => simp only [Bool.false_eq_true, if_false]; exact ⟨_, rfl, rfl⟩
  | true =>
    obtain ⟨q, hq, rfl⟩ := pB_t (by omega) hb
    simp only [if_true]
    rw [e14, gar_n (by omega) (by omega), gar_n (by omega) (by omega), nI_clamp (by omega), nI_clamp (by omega), (h4 q hq).1, m_kind (h4 q hq).2, Option.bind_some, (h5 q hq).2.1]
    exact ⟨_, rfl, rfl⟩
theorem n25a (a : Nat) : (25 : Int32) + nI a = nI (25 + a) := by rw [k25, nI_add]
theorem ST_var {K : Nat} {fl : Nat → FL} {pl : Int32} {stF av now : Ar} (h : ST K fl pl stF av now) (q : Nat) (hq : q < 26) (x : Int32) : ST K fl pl stF (upd av q x) (upd now (25 + q) x) := by
  obtain ⟨h1, h2, h3, h4, h5, h6⟩ := h
  refine ⟨h1, h2, by rw [pk_un (by omega)]; exact h3, h4, fun i hi => ?_, fun j hj => ?_⟩
  · rw [pk_un (by omega), pk_un (by omega), pk_un (by omega), pk_un (by omega)]
    exact h5 i hi
  · by_cases e : j = q
    · subst e; rw [pk_us, pk_us]
    · rw [pk_un e, pk_un (by omega)]; exact h6 j hj
theorem q_setVariable {F h : Nat} {e0F : Ar} {e0p : Int32} {e0V : Ar} {e1F : Ar} {e1p : Int32} {e1V : Ar} {e2F : Ar} {e2p : Int32} {e2V : Ar} {e3F : Ar} {e3p : Int32} {e3V : Ar} {stF av now hist : Ar} {pl : Int32} (hF : 154 < F) (hh : h ≤ 4) (hS : SX pl stF av now) (hX : HX h e0F e0p e0V e1F e1p e1V e2F e2p e2V e3F e3p e3V hist) (p p2 : Int32) :
    ∃ (a : Int32) (a0F : Ar) (a0p : Int32) (a0V : Ar) (a1F : Ar) (a1p : Int32) (a1V : Ar) (a2F : Ar) (a2p : Int32) (a2V : Ar) (a3F : Ar) (a3p : Int32) (a3V : Ar) (k : Nat) (av' hist' now' : Ar), f_X7_setVariable F p p2 e0F e0p e0V e1F e1p e1V e2F e2p e2V e3F e3p e3V (nI h) stF pl av = some (a, a0F, a0p, a0V, a1F, a1p, a1V, a2F, a2p, a2V, a3F, a3p, a3V, nI k, av') ∧ f_X8_setVariable F p p2 (nI h) hist now = some (a, nI k, hist', now') ∧ k ≤ 4 ∧ SX pl stF av' now' ∧ HX k a0F a0p a0V a1F a1p a1V a2F a2p a2V a3F a3p a3V hist' := by
  have hS' := hS
  obtain ⟨K, fl, hT⟩ := hS
  obtain ⟨hK, rfl, h0, h4, h5, h6⟩ := id hT
  unfold f_X7_setVariable f_X8_setVariable
  by_cases c1 : p < 0
  · rw [if_pos c1, show f_X8_in F p 0 25 = some 0 by unfold f_X8_in; rw [if_pos c1], Option.bind_some, if_pos rfl]
    exact ⟨_, _, _, _, _, _, _, _, _, _, _, _, _, h, _, _, _, rfl, rfl, hh, hS', hX⟩
  · rw [if_neg c1]
    obtain ⟨q, hq, rfl⟩ := nI_of c1
    by_cases c2 : 26 ≤ q
    · rw [k26, if_pos (nI_le c2 hq), show f_X8_in F (nI q) 0 25 = some 0 by unfold f_X8_in; rw [if_neg c1, k25, if_pos (nI_lt (show 25 < q by omega) hq)], Option.bind_some, if_pos rfl]
      exact ⟨_, _, _, _, _, _, _, _, _, _, _, _, _, h, _, _, _, rfl, rfl, hh, hS', hX⟩
    · rw [k26, if_neg (nI_ge (show q < 26 by omega) (by omega)), show f_X8_in F (nI q) 0 25 = some 1 by unfold f_X8_in; rw [if_neg c1, k25, if_neg (nI_nlt (show q ≤ 25 by omega) (by omega))], Option.bind_some, if_neg (show ¬ (1 : Int32) = 0 by decide)]
      unfold f_X8_in
      by_cases c3 : p2 < -1000000000
      · rw [if_pos c3, if_pos c3, Option.bind_some, if_pos rfl]
        exact ⟨_, _, _, _, _, _, _, _, _, _, _, _, _, h, _, _, _, rfl, rfl, hh, hS', hX⟩
      · rw [if_neg c3, if_neg c3]
        by_cases c4 : p2 ≤ 1000000000
        · obtain ⟨a0F, a0p, a0V, a1F, a1p, a1V, a2F, a2p, a2V, a3F, a3p, a3V, hist', s1, s2, s3⟩ := m_save hF hh hS' hX
          rw [if_pos c4, if_neg (Int32.not_lt.mpr c4), Option.bind_some, if_neg (show ¬ (1 : Int32) = 0 by decide), s2, Option.bind_some, n25a, gar_n (show q < 26 by omega) (by omega), gar_n (show 25 + q < 51 by omega) (by omega), nI_clamp (show q < 2 ^ 31 by omega), nI_clamp (show 25 + q < 2 ^ 31 by omega), h6 q (by omega)]
          unfold f_X7_setVariable_b42 f_X8_setVariable_b45
          rw [s1, Option.bind_some, Option.bind_some, n25a, gar_n (show 25 + q < 51 by omega) (by omega), gar_n (show 25 + q < 51 by omega) (by omega), gar_n (show q < 26 by omega) (by omega), gar_n (show q < 26 by omega) (by omega), nI_clamp (show q < 2 ^ 31 by omega), nI_clamp (show 25 + q < 2 ^ 31 by omega)]
          have hU := ST_var hT q (by omega) p2
          by_cases c5 : av q = p2
          · rw [if_pos c5, if_pos c5, if_pos rfl, if_pos rfl]
            exact ⟨_, a0F, a0p, a0V, a1F, a1p, a1V, a2F, a2p, a2V, a3F, a3p, a3V, hN h, _, _, _, rfl, rfl, hN_le h, ⟨K, _, hU⟩, s3⟩
          · rw [if_neg c5, if_neg c5, if_neg (show ¬ (1 : Int32) = 0 by decide), if_neg (show ¬ (1 : Int32) = 0 by decide)]
            exact ⟨_, a0F, a0p, a0V, a1F, a1p, a1V, a2F, a2p, a2V, a3F, a3p, a3V, hN h, _, _, _, rfl, rfl, hN_le h, ⟨K, _, hU⟩, s3⟩
        · rw [if_neg c4, if_pos (Int32.not_le.mp c4), Option.bind_some, if_pos rfl]
          exact ⟨_, _, _, _, _, _, _, _, _, _, _, _, _, h, _, _, _, rfl, rfl, hh, hS', hX⟩
