/-! 58: the class's values -/
def EVok (P D : PT) (sA : Ar) (lv : Nat → Int64) (n k : Nat) (res : Nat → Int64) (dn : Nat → Nat → Prop) : Prop := (∀ i, i ≤ n → res (i * 11 + i) = lv i) ∧ (∀ q a b c k', q < n → tT P D n k q = (a, b, c, k') → dn a b → res (a * 11 + b) = ev P D sA lv 10 a b c k')
theorem m_b86 {F a b : Nat} {v : Int64} {res : Nat → Int64} (h : a * 11 + b < 121) : f_X6_evaluateSubtree_b86 F (nI a) (nI b) v res = some (vp_updL res (a * 11 + b) v) := by
  unfold f_X6_evaluateSubtree_b86
  rw [m_spanIndex, Option.bind_some, gar_n h (by omega), nI_clamp (by omega)]
theorem m_evSub {F n k0' a b c k q : Nat} {P D : PT} {sA ra ro : Ar} {lv res : Nat → Int64} (hn : n ≤ 10) (hv0 : VT P D 0 n 0 k0') (hT : TL P D n k0' ra ro) (hq : q < n) (ht : tT P D n k0' q = (a, b, c, k)) (hE : EVok P D sA lv n k0' res (fun x y => y - x < b - a)) : f_X6_evaluateSubtree F (nI a) (nI b) sA res ro = some (vp_updL res (a * 11 + b) (ev P D sA lv 10 a b c k)) := by
  obtain ⟨s1, s2, s3, s4, s5⟩ := tT_spec hv0 hq ht
  obtain ⟨t1, t2⟩ := hT.1 q a b c k hq ht
  obtain ⟨b1, b2, b3, b4, b5, b6, b7, b8⟩ := vt_all (show a < b by omega) s4
  rw [s5] at b7 b8
  have e1 : res (a * 11 + q) = ev P D sA lv 10 a q (1 + 2 * q) (tL P D a b c k) := by
    by_cases z : a < q
    · exact hE.2 _ a q _ _ (by have := vt_all z b7; omega) (nd_left n 0 n 0 k0' q a b c k (by omega) hv0 (by omega) hq ht z) (by omega)
    · rw [ev, if_neg z, show q = a by omega]
      exact hE.1 a (by omega)
  have e2 : res ((q + 1) * 11 + b) = ev P D sA lv 10 (q + 1) b (2 + 2 * q) (tR P D a b c k) := by
    by_cases z : q + 1 < b
    · exact hE.2 _ (q + 1) b _ _ (by have := vt_all z b8; omega) (nd_right n 0 n 0 k0' q a b c k (by omega) hv0 (by omega) hq ht z) (by omega)
    · rw [ev, if_neg z, show b = q + 1 by omega]
      exact hE.1 (q + 1) (by omega)
  unfold f_X6_evaluateSubtree
  rw [m_spanIndex, Option.bind_some, gar_n (by omega) (by omega), nI_clamp (show a * 11 + b < 2 ^ 31 by omega), t2, m_spanIndex, Option.bind_some, gar_n (by omega) (by omega), k1, nI_add, m_spanIndex, Option.bind_some, gar_n (by omega) (by omega), nI_clamp (show a * 11 + q < 2 ^ 31 by omega), nI_clamp (show (q + 1) * 11 + b < 2 ^ 31 by omega), e1, e2, m_failC, Option.bind_some, bI_ite, m_failC, Option.bind_some, bI_ite, gar_n (by omega) (by omega), m_combine, Option.bind_some, m_b86 (by omega), m_b86 (by omega), m_b86 (by omega), nI_clamp (show q < 2 ^ 31 by omega), ev_nd (show a < b by omega) (by omega) s4 s5]
  unfold nV
  cases flB (ev P D sA lv 10 a q (1 + 2 * q) (tL P D a b c k)) with
  | true => simp only [if_true]
  | false =>
    simp only [Bool.false_eq_true, if_false]
    cases flB (ev P D sA lv 10 (q + 1) b (2 + 2 * q) (tR P D a b c k)) with
    | true => simp only [if_true]
    | false => simp only [Bool.false_eq_true, if_false]
theorem m_ev_l48 {F n k len : Nat} {P D : PT} {sA ra ro : Ar} {lv : Nat → Int64} (hn : n ≤ 10) (hv : VT P D 0 n 0 k) (hT : TL P D n k ra ro) (hl : 1 ≤ len) (hl2 : len ≤ n) : ∀ (m low : Nat) (res : Nat → Int64) (X : (Nat → Int64) → Option (Int64 × (Nat → Int64))), low + len ≤ n + 1 → n + 1 - (low + len) < m → EVok P D sA lv n k res (fun x y => y - x < len ∨ (y - x = len ∧ x < low)) →
    ∃ res', f_X6_evaluate_l48 F (nI len) sA (nI n) ra ro m (nI low) res X = X res' ∧ EVok P D sA lv n k res' (fun x y => y - x ≤ len) := by
  intro m
  induction m with
  | zero => intro low res X h1 h2; omega
  | succ m ih =>
    intro low res X h1 h2 hR
    rw [f_X6_evaluate_l48, nI_add]
    by_cases hz : n < low + len
    · rw [if_pos (nI_lt hz (by omega))]
      exact ⟨res, rfl, hR.1, fun q a b c k' q1 q2 q3 => hR.2 q a b c k' q1 q2 (by have := tT_spec hv q1 q2; omega)⟩
    · rw [if_neg (nI_nlt (by omega) (by omega)), m_hasSub (by omega), Option.bind_some, bI_ite, k1, nI_add]
      by_cases y : ra (low * 11 + (low + len)) = -1
      · rw [hasB_f.mpr y]
        simp only [Bool.false_eq_true, if_false]
        refine ih (low + 1) res X (by omega) (by omega) ⟨hR.1, fun q a b c k' q1 q2 q3 => ?_⟩
        by_cases e : a = low ∧ b = low + len
        · obtain ⟨rfl, rfl⟩ := e
          exact absurd y (hT.1 q _ _ c k' q1 q2).1
        · exact hR.2 q a b c k' q1 q2 (by have := tT_spec hv q1 q2; omega)
      · rw [hasB_t.mpr y]
        simp only [if_true]
        obtain ⟨q, c, k', q1, q2, q3⟩ := hT.2 low (low + len) (by omega) (by omega) y
        rw [m_evSub hn hv hT (show q < n by omega) q3 ⟨hR.1, fun x a b c' k'' x1 x2 x3 => hR.2 x a b c' k'' x1 x2 (by omega)⟩, Option.bind_some]
        refine ih (low + 1) _ X (by omega) (by omega) ⟨fun i hi => ?_, fun q' a b c' k'' r1 r2 r3 => ?_⟩
        · rw [pk_uLn (sp_ne (by omega) (by omega) (by omega))]
          exact hR.1 i hi
        · by_cases e : a = low ∧ b = low + len
          · obtain ⟨rfl, rfl⟩ := e
            have e : q' = q := nd_uniq n 0 n 0 k q' q _ _ c' k'' (by omega) hv (by omega) r1 (by omega) (by omega) c k' r2 q3
            subst e
            have e2 := r2.symm.trans q3
            injection e2 with _ e2
            injection e2 with _ e2
            injection e2 with x3 x4
            subst x3; subst x4
            rw [pk_uLs]
          · have := tT_spec hv r1 r2
            rw [pk_uLn (sp_ne (by omega) (by omega) (by omega))]
            exact hR.2 q' a b c' k'' r1 r2 (by omega)
theorem m_ev_l37 {F n k : Nat} {P D : PT} {sA ra ro : Ar} {lv : Nat → Int64} (hF : 12 < F) (hn : n ≤ 10) (hv : VT P D 0 n 0 k) (hT : TL P D n k ra ro) : ∀ (m len : Nat) (res : Nat → Int64) (X : (Nat → Int64) → Option (Int64 × (Nat → Int64))), 1 ≤ len → len ≤ n + 1 → n + 1 - len < m → EVok P D sA lv n k res (fun x y => y - x < len) →
    ∃ res', f_X6_evaluate_l37 F sA (nI n) ra ro m (nI len) res X = X res' ∧ EVok P D sA lv n k res' (fun _ _ => True) := by
  intro m
  induction m with
  | zero => intro len res X h1 h2 h3; omega
  | succ m ih =>
    intro len res X h1 h2 h3 hR
    rw [f_X6_evaluate_l37]
    by_cases hz : n < len
    · rw [if_pos (nI_lt hz (by omega))]
      exact ⟨res, rfl, hR.1, fun q a b c k' q1 q2 q3 => hR.2 q a b c k' q1 q2 (by have := tT_spec hv q1 q2; omega)⟩
    · rw [if_neg (nI_nlt (by omega) (by omega)), k0]
      obtain ⟨r1, e1, e2⟩ := m_ev_l48 hn hv hT h1 (by omega) F 0 res (fun tr_results => (f_X6_evaluate_l37 F sA (nI n) ra ro m (nI len + 1) tr_results X)) (by omega) (by omega) ⟨hR.1, fun q a b c k' q1 q2 q3 => hR.2 q a b c k' q1 q2 (by omega)⟩
      rw [e1, k1, nI_add]
      exact ih (len + 1) r1 X (by omega) (by omega) (by omega) ⟨e2.1, fun q a b c k' q1 q2 q3 => e2.2 q a b c k' q1 q2 (by omega)⟩
/-- letters of an expression -/
def LeOk (n : Nat) (le : Ar) : Prop := ∀ i, i ≤ n → ∃ z, z < 26 ∧ le i = nI z
def lvC (av le : Ar) (i : Nat) : Int64 := (av (Int32.toNatClampNeg (le i))).toInt64
theorem m_ev_l2 {F n : Nat} {av le : Ar} (hn : n ≤ 10) (hle : LeOk n le) : ∀ (m i : Nat) (res : Nat → Int64) (X : (Nat → Int64) → Option (Int64 × (Nat → Int64))), i ≤ n + 1 → n + 1 - i < m → (∀ j, j < i → res (j * 11 + j) = lvC av le j) →
    ∃ res', f_X6_evaluate_l2 F av le (nI n) m (nI i) res X = X res' ∧ (∀ j, j ≤ n → res' (j * 11 + j) = lvC av le j) := by
  intro m
  induction m with
  | zero => intro i res X h1 h2; omega
  | succ m ih =>
    intro i res X h1 h2 hR
    rw [f_X6_evaluate_l2]
    by_cases hz : n < i
    · rw [if_pos (nI_lt hz (by omega))]
      exact ⟨res, rfl, fun j hj => hR j (by omega)⟩
    · obtain ⟨z, z1, z2⟩ := hle i (by omega)
      rw [if_neg (nI_nlt (by omega) (by omega)), m_spanIndex, Option.bind_some, gar_n (by omega) (by omega), nI_clamp (show i < 2 ^ 31 by omega), z2, gar_n z1 (by omega), gar_n (by omega) (by omega), nI_clamp (show i * 11 + i < 2 ^ 31 by omega), k1, nI_add]
      refine ih (i + 1) _ X (by omega) (by omega) (fun j hj => ?_)
      by_cases e : j = i
      · subst e
        rw [pk_uLs]
        unfold lvC
        rw [z2]
      · rw [pk_uLn (by omega)]
        exact hR j (by omega)
theorem m_evalC {F n k : Nat} {P D : PT} {sA ra ro av le : Ar} {res : Nat → Int64} (hF : 12 < F) (hn : n ≤ 10) (hle : LeOk n le) (hv : k < Sc P D 0 n (fun _ => true)) (hT : TL P D n k ra ro) : ∃ res', f_X6_evaluate F av le sA (nI n) ra res ro = some (ev P D sA (lvC av le) 10 0 n 0 k, res') := by
  unfold f_X6_evaluate
  obtain ⟨r1, e1, e2⟩ := m_ev_l2 (F := F) (av := av) hn hle F 0 res (fun tr_results => (f_X6_evaluate_l37 F sA (nI n) ra ro F 1 tr_results (fun tr_results => ((f_X7_spanIndex F 0 (nI n)).bind fun o104 => (gar o104 121 (some ((tr_results (Int32.toNatClampNeg o104)), tr_results))))))) (by omega) (by omega) (fun j hj => by omega)
  obtain ⟨r2, g1, g2⟩ := m_ev_l37 (sA := sA) (lv := lvC av le) hF hn (vt_n hv) hT F 1 r1 (fun tr_results => ((f_X7_spanIndex F 0 (nI n)).bind fun o104 => (gar o104 121 (some ((tr_results (Int32.toNatClampNeg o104)), tr_results))))) (by omega) (by omega) (by omega) ⟨e2, fun q a b c k' q1 q2 q3 => by have := tT_spec (vt_n hv) q1 q2; omega⟩
  rw [← k0] at e1
  rw [← k1] at g1
  refine ⟨r2, ?_⟩
  rw [e1, g1, k0, m_spanIndex, Option.bind_some, gar_n (by omega) (by omega), nI_clamp (by omega)]
  by_cases z : 0 < n
  · have w := vt_all z (vt_n hv)
    rw [g2.2 _ 0 n 0 k w.2.1 (tT_top z) trivial]
  · have : n = 0 := by omega
    subst this
    rw [g2.1 0 (by omega), ev, if_neg (by omega)]
