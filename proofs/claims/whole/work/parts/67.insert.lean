/-! 67: edits of the pipeline and of variables, both sides -/
/-- a symbol's number; a filter's position -/
def sB (p : Int32) : Bool := !decide (p < 0) && !decide (8 < p)
theorem sB_t {p : Int32} (h : sB p = true) : ∃ j, j < 9 ∧ p = nI j := by
  unfold sB at h
  rw [Bool.and_eq_true, Bool.not_eq_true', Bool.not_eq_true', decide_eq_false_iff_not, decide_eq_false_iff_not] at h
  obtain ⟨j, hj, rfl⟩ := nI_of h.1
  refine ⟨j, ?_, rfl⟩
  rcases Nat.lt_or_ge j 9 with e | e
  · exact e
  · exact absurd (k8 ▸ nI_lt (show 8 < j by omega) hj) h.2
theorem m_symC {F : Nat} (p : Int32) : f_X7_isSymbol F p = some (bI (sB p)) := by
  unfold f_X7_isSymbol sB
  by_cases h : p < 0
  · rw [if_pos h, decide_eq_true h]; rfl
  · obtain ⟨j, hj, rfl⟩ := nI_of h
    rw [if_neg h, decide_eq_false h]
    by_cases h2 : 9 ≤ j
    · rw [k9, if_pos (nI_le h2 hj), k8, decide_eq_true (nI_lt (show 8 < j by omega) hj)]; rfl
    · rw [k9, if_neg (nI_ge (by omega) (by omega)), k8, decide_eq_false (nI_nlt (show j ≤ 8 by omega) (by omega))]; rfl
theorem m_symM {F : Nat} (p : Int32) : f_X8_isSymbol F p = some (bI (sB p)) := by
  unfold f_X8_isSymbol f_X8_in sB
  by_cases h : p < 0
  · rw [if_pos h, decide_eq_true h]; rfl
  · rw [if_neg h, decide_eq_false h]
    by_cases h2 : 8 < p
    · rw [if_pos h2, decide_eq_true h2]; rfl
    · rw [if_neg h2, decide_eq_false h2]; rfl
def pB (p : Int32) (K : Nat) : Bool := !decide (p < 0) && !decide (nI K ≤ p)
theorem pB_t {p : Int32} {K : Nat} (hK : K ≤ 10) (h : pB p K = true) : ∃ j, j < K ∧ p = nI j := by
  unfold pB at h
  rw [Bool.and_eq_true, Bool.not_eq_true', Bool.not_eq_true', decide_eq_false_iff_not, decide_eq_false_iff_not] at h
  obtain ⟨j, hj, rfl⟩ := nI_of h.1
  refine ⟨j, ?_, rfl⟩
  rcases Nat.lt_or_ge j K with e | e
  · exact e
  · exact absurd (nI_le e hj) h.2
theorem m_isPos {F K : Nat} (p : Int32) : f_X7_isPosition F p (nI K) = some (bI (pB p K)) := by
  unfold f_X7_isPosition pB
  by_cases h : p < 0
  · rw [if_pos h, decide_eq_true h]; rfl
  · rw [if_neg h, decide_eq_false h]
    by_cases h2 : nI K ≤ p
    · rw [if_pos h2, decide_eq_true h2]; rfl
    · rw [if_neg h2, decide_eq_false h2]; rfl
theorem m_in1 {F K : Nat} (hK : K ≤ 10) (p : Int32) : f_X8_in F p 0 (nI K - 1) = some (bI (pB p K)) := by
  unfold f_X8_in pB
  by_cases h : p < 0
  · rw [if_pos h, decide_eq_true h]; rfl
  · rw [if_neg h, decide_eq_false h]
    obtain ⟨j, hj, rfl⟩ := nI_of h
    have e : nI K - 1 < nI j ↔ nI K ≤ nI j := by
      by_cases hz : K = 0
      · subst hz
        exact ⟨fun _ => nI_le (by omega) hj, fun _ => Int32.lt_of_lt_of_le (show nI 0 - 1 < 0 by decide) (nI_pos' hj)⟩
      · rw [show K = (K - 1) + 1 by omega, nI_pred]
        constructor
        · intro z
          rcases Nat.lt_or_ge (K - 1) j with q | q
          · exact nI_le (by omega) hj
          · exact absurd z (nI_nlt q (by omega))
        · intro z
          rcases Nat.lt_or_ge (K - 1) j with q | q
          · exact nI_lt q hj
          · exact absurd z (nI_ge (by omega) (by omega))
    by_cases h2 : nI K ≤ nI j
    · rw [if_pos (e.mpr h2), decide_eq_true h2]; rfl
    · rw [if_neg (fun z => h2 (e.mp z)), decide_eq_false h2]; rfl
theorem m_isFil {F K : Nat} {now : Ar} (hK : K ≤ 6) (h0 : now 0 = nI K) (p : Int32) : f_X8_isFilter F p now = some (bI (pB p K)) := by
  unfold f_X8_isFilter
  rw [g051, c00, h0, m_in1 (by omega), Option.bind_some, gbo_b]
theorem bI_nz (b : Bool) : (bI b = 0) = (b = false) := by cases b <;> simp [bI]
theorem m_isLast {F K p : Nat} (hp : p < K) (hK : K ≤ 6) : f_X7_isLastPosition F (nI p) (nI K) = some (bI (decide (p + 1 = K))) := by
  unfold f_X7_isLastPosition
  rw [show K = (K - 1) + 1 by omega, nI_pred]
  by_cases h : p = K - 1
  · rw [if_pos (by rw [h]), decide_eq_true (by omega)]; rfl
  · rw [if_neg (fun z => h ((nI_eq (by omega) (by omega)).mp z)), decide_eq_false (by omega)]; rfl
theorem lastM {K p : Nat} (hp : p < K) (hK : K ≤ 6) : (nI p = nI K - 1) ↔ p + 1 = K := by
  rw [show K = (K - 1) + 1 by omega, nI_pred, nI_eq (by omega) (by omega)]
  omega
/-- a code -/
theorem m_of {F k a b : Nat} (hk : k < 5) (ha : a < 9) (hb : b < 9) (s : Int32) : f_X1_of F (nI k) (nI a) (nI b) s = some (fcode (k, a, b, if s = 0 then 0 else 1)) := by
  unfold f_X1_of f_X1_of_b9 fcode
  by_cases h : s = 0
  · rw [if_pos h, if_pos h, show (0 : Int32) = nI 0 from k0, flt_of k hk a ha b hb 0 (by omega)]
  · rw [if_neg h, if_neg h, show ((1 : Int32) <<< (12 &&& 31)) = nI 1 <<< (12 &&& 31) by rw [k1], flt_of k hk a ha b hb 1 (by omega)]
/-- insertion -/
def insF (fl : Nat → FL) (p : Nat) (f : FL) : Nat → FL := fun i => if i < p then fl i else if i = p then f else fl (i - 1)
theorem m_insC_l {F p : Nat} {c : Int32} (hp : p < 6) : ∀ (m v : Nat) (st : Ar) (X : Ar → Option (Ar × Int32)), p ≤ v → v < 6 → v - p < m → ∃ st', f_X0_insert_l5 F (nI p) c m (nI v) st X = X st' ∧ ∀ i, st' i = if p < i ∧ i ≤ v then st (i - 1) else st i := by
  intro m
  induction m with
  | zero => intro v st X h1 h2 h3; omega
  | succ m ih =>
    intro v st X h1 h2 h3
    rw [f_X0_insert_l5]
    by_cases hz : v ≤ p
    · rw [if_pos (nI_le hz (by omega))]
      exact ⟨st, rfl, fun i => by rw [if_neg (by omega)]⟩
    · obtain ⟨u, rfl⟩ : ∃ u, v = u + 1 := ⟨v - 1, by omega⟩
      rw [if_neg (nI_ge (by omega) (by omega)), nI_pred, gar_n (by omega) (by omega), gar_n (by omega) (by omega), nI_clamp (by omega), nI_clamp (by omega), nI_dec]
      obtain ⟨st', e1, e2⟩ := ih u (upd st (u + 1) (st u)) X (by omega) (by omega) (by omega)
      refine ⟨st', e1, fun i => ?_⟩
      rw [e2 i]
      by_cases c1 : p < i ∧ i ≤ u
      · rw [if_pos c1, if_pos (by omega), pk_un (by omega)]
      · rw [if_neg c1]
        by_cases c2 : i = u + 1
        · subst c2
          rw [pk_us, if_pos (by omega), show u + 1 - 1 = u by omega]
        · rw [pk_un c2, if_neg (by omega)]
theorem m_insM_l {F p K : Nat} {a2 a3 a4 a5 : Int32} (hp : p ≤ K) (hK : K < 6) : ∀ (m w : Nat) (now : Ar) (X : Ar → Option (Int32 × Int32 × Ar × Ar)), 4 * p ≤ w → w ≤ 4 * K → w - 4 * p < m → ∃ now', f_X8_add_l61 F (nI p) a2 a3 a4 a5 m (nI w - 1) now X = X now' ∧ ∀ i, now' i = if 5 + 4 * p ≤ i ∧ i < 5 + w then now (i - 4) else now i := by
  intro m
  induction m with
  | zero => intro w now X h1 h2 h3; omega
  | succ m ih =>
    intro w now X h1 h2 h3
    rw [f_X8_add_l61, n4m]
    by_cases hz : w = 4 * p
    · subst hz
      have hc : nI (4 * p) - 1 < nI (4 * p) := by
        by_cases y : p = 0
        · subst y; decide
        · rw [show 4 * p = (4 * p - 1) + 1 by omega, nI_pred]; exact nI_lt (by omega) (by omega)
      rw [if_pos hc]
      exact ⟨now, rfl, fun i => by rw [if_neg (by omega)]⟩
    · obtain ⟨u, rfl⟩ : ∃ u, w = u + 1 := ⟨w - 1, by omega⟩
      rw [nI_pred, if_neg (nI_nlt (by omega) (by omega)), n1a, na4, gar_n (by omega) (by omega), gar_n (by omega) (by omega), nI_clamp (by omega), nI_clamp (by omega), ← Int32.sub_eq_add_neg]
      obtain ⟨now', e1, e2⟩ := ih u (upd now (1 + u + 4) (now (1 + u))) X (by omega) (by omega) (by omega)
      refine ⟨now', e1, fun i => ?_⟩
      rw [e2 i]
      by_cases c1 : 5 + 4 * p ≤ i ∧ i < 5 + u
      · rw [if_pos c1, if_pos (by omega), pk_un (by omega)]
      · rw [if_neg c1]
        by_cases c2 : i = 1 + u + 4
        · subst c2
          rw [pk_us, if_pos (by omega), show 1 + u + 4 - 4 = 1 + u by omega]
        · rw [pk_un c2, if_neg (by omega)]
theorem ST_ins {K p : Nat} {fl : Nat → FL} {f : FL} {pl : Int32} {stF av now st' now' : Ar} (h : ST K fl pl stF av now) (hp : p ≤ K) (hK : K < 6) (hf : okF f) (hst : ∀ i, st' i = if i = p then fcode f else if p < i ∧ i ≤ K then stF (i - 1) else stF i) (h0 : now' 0 = nI (K + 1)) (ha : now' (1 + 4 * p) = nI f.1) (hb : now' (2 + 4 * p) = nI f.2.1) (hc : now' (3 + 4 * p) = nI f.2.2.1) (hd : now' (4 + 4 * p) = nI f.2.2.2) (hlo : ∀ i, 0 < i → i < 1 + 4 * p → now' i = now i) (hmi : ∀ i, 5 + 4 * p ≤ i → i < 5 + 4 * K → now' i = now (i - 4)) (hhi : ∀ i, 5 + 4 * K ≤ i → now' i = now i) : ST (K + 1) (insF fl p f) (nI (K + 1)) st' av now' := by
  obtain ⟨h1, h2, h3, h4, h5, h6⟩ := h
  refine ⟨by omega, rfl, h0, fun i hi => ?_, fun i hi => ?_, fun j hj => by rw [hhi _ (by omega)]; exact h6 j hj⟩
  · rw [hst i]
    unfold insF
    by_cases c1 : i < p
    · rw [if_neg (by omega), if_neg (by omega), if_pos c1]; exact h4 i (by omega)
    · rw [if_neg c1]
      by_cases c2 : i = p
      · rw [if_pos c2, if_pos c2]; exact ⟨rfl, hf⟩
      · rw [if_neg c2, if_neg c2, if_pos (by omega)]; exact h4 (i - 1) (by omega)
  · unfold insF
    by_cases c1 : i < p
    · rw [if_pos c1]
      obtain ⟨n0, n1, n2, n3, n4⟩ := h5 i (by omega)
      rw [hlo _ (by omega) (by omega), hlo _ (by omega) (by omega), hlo _ (by omega) (by omega), hlo _ (by omega) (by omega)]
      exact ⟨n0, n1, n2, n3, n4⟩
    · rw [if_neg c1]
      by_cases c2 : i = p
      · subst c2
        rw [if_pos rfl, show 1 + 4 * i + 1 = 2 + 4 * i by omega, show 1 + 4 * i + 2 = 3 + 4 * i by omega, show 1 + 4 * i + 3 = 4 + 4 * i by omega]
        exact ⟨hf, ha, hb, hc, hd⟩
      · rw [if_neg c2]
        obtain ⟨n0, n1, n2, n3, n4⟩ := h5 (i - 1) (by omega)
        rw [hmi _ (by omega) (by omega), hmi _ (by omega) (by omega), hmi _ (by omega) (by omega), hmi _ (by omega) (by omega), show 1 + 4 * i - 4 = 1 + 4 * (i - 1) by omega, show 1 + 4 * i + 1 - 4 = 1 + 4 * (i - 1) + 1 by omega, show 1 + 4 * i + 2 - 4 = 1 + 4 * (i - 1) + 2 by omega, show 1 + 4 * i + 3 - 4 = 1 + 4 * (i - 1) + 3 by omega]
        exact ⟨n0, n1, n2, n3, n4⟩
theorem hN_le (h : Nat) : hN h ≤ 4 := by unfold hN; split <;> omega
theorem q_insert {F h : Nat} {e0F : Ar} {e0p : Int32} {e0V : Ar} {e1F : Ar} {e1p : Int32} {e1V : Ar} {e2F : Ar} {e2p : Int32} {e2V : Ar} {e3F : Ar} {e3p : Int32} {e3V : Ar} {stF av now hist : Ar} {pl : Int32} {f : FL} (hF : 154 < F) (hh : h ≤ 4) (hS : SX pl stF av now) (hX : HX h e0F e0p e0V e1F e1p e1V e2F e2p e2V e3F e3p e3V hist) (hf : okF f) (p : Int32) :
    ∃ (a : Int32) (a0F : Ar) (a0p : Int32) (a0V : Ar) (a1F : Ar) (a1p : Int32) (a1V : Ar) (a2F : Ar) (a2p : Int32) (a2V : Ar) (a3F : Ar) (a3p : Int32) (a3V : Ar) (k : Nat) (st' : Ar) (pl' : Int32) (hist' now' : Ar), f_X7_insertFilter F p (fcode f) e0F e0p e0V e1F e1p e1V e2F e2p e2V e3F e3p e3V (nI h) stF pl av = some (a, a0F, a0p, a0V, a1F, a1p, a1V, a2F, a2p, a2V, a3F, a3p, a3V, nI k, st', pl') ∧ f_X8_add F p (nI f.1) (nI f.2.1) (nI f.2.2.1) (nI f.2.2.2) (nI h) hist now = some (a, nI k, hist', now') ∧ k ≤ 4 ∧ SX pl' st' av now' ∧ HX k a0F a0p a0V a1F a1p a1V a2F a2p a2V a3F a3p a3V hist' := by
  have hS' := hS
  obtain ⟨K, fl, hT⟩ := hS
  obtain ⟨hK, rfl, h0, h4, h5, h6⟩ := id hT
  have hs1 : sB (nI f.2.1) = true := by unfold sB; rw [decide_eq_false (Int32.not_lt.mpr (nI_pos' (show f.2.1 < 2 ^ 31 by have := hf.2.1; omega))), k8, decide_eq_false (nI_nlt (by have := hf.2.1; omega) (by omega))]; rfl
  have hs2 : sB (nI f.2.2.1) = true := by unfold sB; rw [decide_eq_false (Int32.not_lt.mpr (nI_pos' (show f.2.2.1 < 2 ^ 31 by have := hf.2.2.1; omega))), k8, decide_eq_false (nI_nlt (by have := hf.2.2.1; omega) (by omega))]; rfl
  unfold f_X7_insertFilter f_X8_add
  rw [g051, c00, h0]
  by_cases c1 : p < 0
  · unfold f_X8_in
    rw [if_pos c1, if_pos c1, Option.bind_some, if_pos rfl]
    exact ⟨_, _, _, _, _, _, _, _, _, _, _, _, _, h, _, _, _, _, rfl, rfl, hh, hS', hX⟩
  · rw [if_neg c1]
    obtain ⟨q, hq, rfl⟩ := nI_of c1
    by_cases c2 : q ≤ K
    · rw [if_pos (nI_le c2 (by omega)), show f_X8_in F (nI q) 0 (nI K) = some 1 by unfold f_X8_in; rw [if_neg c1, if_neg (nI_nlt c2 (by omega))], Option.bind_some, if_neg (show ¬ (1 : Int32) = 0 by decide), m_symM, Option.bind_some, hs1, bI_t, if_neg (show ¬ (1 : Int32) = 0 by decide), m_symM, Option.bind_some, hs2, bI_t, if_neg (show ¬ (1 : Int32) = 0 by decide), g051]
      by_cases c3 : K < 6
      · obtain ⟨a0F, a0p, a0V, a1F, a1p, a1V, a2F, a2p, a2V, a3F, a3p, a3V, hist', s1, s2, s3⟩ := m_save hF hh hS' hX
        rw [k6, if_pos (nI_lt c3 (by omega)), if_neg (show ¬ nI K = nI 6 from fun z => by have := (nI_eq (by omega) (by omega)).mp z; omega), s1, Option.bind_some, s2, Option.bind_some, g051, n4m]
        unfold f_X0_insert
        obtain ⟨st1, i1, i2⟩ := m_insC_l (F := F) (c := fcode f) (show q < 6 by omega) F K stF (fun st_filters => (gar (nI q) 6 (some ((upd st_filters (Int32.toNatClampNeg (nI q)) (fcode f)), (nI K) + 1)))) c2 c3 (by omega)
        rw [i1, gar_n (show q < 6 by omega) (by omega), Option.bind_some, nI_clamp (show q < 2 ^ 31 by omega), nI_1]
        obtain ⟨now1, j1, j2⟩ := m_insM_l (F := F) (p := q) (K := K) (a2 := nI f.1) (a3 := nI f.2.1) (a4 := nI f.2.2.1) (a5 := nI f.2.2.2) c2 c3 F (4 * K) now _ (by omega) (by omega) (by omega)
        have z0 : now1 0 = nI K := by rw [j2 0, if_neg (by omega)]; exact h0
        refine ⟨_, a0F, a0p, a0V, a1F, a1p, a1V, a2F, a2p, a2V, a3F, a3p, a3V, hN h, upd st1 q (fcode f), nI (K + 1), hist', upd (upd (upd (upd (upd now1 (1 + 4 * q) (nI f.1)) (1 + 4 * q + 1) (nI f.2.1)) (1 + 4 * q + 2) (nI f.2.2.1)) (1 + 4 * q + 3) (nI f.2.2.2)) 0 (nI (K + 1)), rfl, ?_, hN_le h, ?_, s3⟩
        · refine j1.trans ?_
          simp only [g051, n1a, na2, na3, nI_1, gar_n (show 1 + 4 * q < 51 by omega) (by omega : 51 < 2 ^ 31), gar_n (show 1 + 4 * q + 1 < 51 by omega) (by omega : 51 < 2 ^ 31), gar_n (show 1 + 4 * q + 2 < 51 by omega) (by omega : 51 < 2 ^ 31), gar_n (show 1 + 4 * q + 3 < 51 by omega) (by omega : 51 < 2 ^ 31), nI_clamp (show 1 + 4 * q < 2 ^ 31 by omega), nI_clamp (show 1 + 4 * q + 1 < 2 ^ 31 by omega), nI_clamp (show 1 + 4 * q + 2 < 2 ^ 31 by omega), nI_clamp (show 1 + 4 * q + 3 < 2 ^ 31 by omega), c00, pk_us, n4m]
          rw [pk_un (show 0 ≠ 1 + 4 * q + 3 by omega), pk_un (show 0 ≠ 1 + 4 * q + 2 by omega), pk_un (show 0 ≠ 1 + 4 * q + 1 by omega), pk_un (show 0 ≠ 1 + 4 * q by omega), z0, nI_1]
        · refine ⟨K + 1, insF fl q f, ST_ins hT c2 c3 hf (fun i => ?_) pk_us ?_ ?_ ?_ ?_ (fun i hi h7 => ?_) (fun i hi h7 => ?_) (fun i hi => ?_)⟩
          · by_cases e : i = q
            · subst e; rw [pk_us, if_pos rfl]
            · rw [pk_un e, if_neg e, i2 i]
          · rw [pk_un (by omega), pk_un (by omega), pk_un (by omega), pk_un (by omega), pk_us]
          · rw [show 2 + 4 * q = 1 + 4 * q + 1 by omega, pk_un (by omega), pk_un (by omega), pk_un (by omega), pk_us]
          · rw [show 3 + 4 * q = 1 + 4 * q + 2 by omega, pk_un (by omega), pk_un (by omega), pk_us]
          · rw [show 4 + 4 * q = 1 + 4 * q + 3 by omega, pk_un (by omega), pk_us]
          · rw [pk_un (by omega), pk_un (by omega), pk_un (by omega), pk_un (by omega), pk_un (by omega), j2 i, if_neg (by omega)]
          · rw [pk_un (by omega), pk_un (by omega), pk_un (by omega), pk_un (by omega), pk_un (by omega), j2 i, if_pos (by omega)]
          · rw [pk_un (by omega), pk_un (by omega), pk_un (by omega), pk_un (by omega), pk_un (by omega), j2 i, if_neg (by omega)]
      · rw [k6, if_neg (nI_nlt (by omega) (by omega)), if_pos (show nI K = nI 6 by rw [show K = 6 by omega])]
        exact ⟨_, _, _, _, _, _, _, _, _, _, _, _, _, h, _, _, _, _, rfl, rfl, hh, hS', hX⟩
    · rw [if_neg (nI_ge (by omega) hq), show f_X8_in F (nI q) 0 (nI K) = some 0 by unfold f_X8_in; rw [if_neg c1, if_pos (nI_lt (by omega) hq)], Option.bind_some, if_pos rfl]
      exact ⟨_, _, _, _, _, _, _, _, _, _, _, _, _, h, _, _, _, _, rfl, rfl, hh, hS', hX⟩
