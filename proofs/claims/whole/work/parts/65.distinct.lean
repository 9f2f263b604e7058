/-! 65: distinctValues -/
def memB (bx : Nat → Int64) (v : Int64) : Nat → Nat → Bool
  | _, 0 => false
  | i, m + 1 => decide (bx i = v) || memB bx v (i + 1) m
theorem memB_congr {bx bz : Nat → Int64} {v : Int64} : ∀ (m i : Nat), (∀ j, i ≤ j → j < i + m → bx j = bz j) → memB bx v i m = memB bz v i m := by
  intro m
  induction m with
  | zero => intro i _; rfl
  | succ m ih =>
    intro i h
    rw [memB, memB, h i (Nat.le_refl _) (by omega), ih (i + 1) (fun j h1 h2 => h j (by omega) (by omega))]
theorem m_note_l {F c : Nat} {v : Int64} {bx : Nat → Int64} (hc : c ≤ 300) : ∀ (m i : Nat) (X : Option (Int32 × (Nat → Int64))), i ≤ c → c - i < m → f_X7_noteResult_l3 F (nI c) v bx m (nI i) X = if memB bx v i (c - i) then some (nI c, bx) else X := by
  intro m
  induction m with
  | zero => intro i X h1 h2; omega
  | succ m ih =>
    intro i X h1 h2
    rw [f_X7_noteResult_l3]
    by_cases h : c ≤ i
    · rw [if_pos (nI_le h (by omega)), show c - i = 0 by omega, memB, if_neg (by decide)]
    · rw [if_neg (nI_ge (by omega) (by omega)), gar_n (by omega) (by omega), nI_clamp (by omega), show c - i = (c - (i + 1)) + 1 by omega, memB]
      by_cases q : bx i = v
      · rw [if_pos ((lg_cmp_eq _ _).mpr q), decide_eq_true q, Bool.true_or, if_pos rfl]
      · rw [if_neg (fun z => q ((lg_cmp_eq _ _).mp z)), decide_eq_false q, Bool.false_or, nI_1, ih (i + 1) X (by omega) (by omega)]
theorem m_note {F c : Nat} {v : Int64} {bx : Nat → Int64} (hF : 300 < F) (hc : c < 300) : f_X7_noteResult F (nI c) v bx = if memB bx v 0 c then some (nI c, bx) else some (nI (c + 1), vp_updL bx c v) := by
  unfold f_X7_noteResult
  rw [k0, m_note_l (by omega) F 0 _ (by omega) (by omega), gar_n (by omega) (by omega), nI_clamp (by omega), nI_1, Nat.sub_zero]
theorem m_seen_l {F c : Nat} {v1 v2 v4 : Int32} {v : Int64} {res : Nat → Int64} (hc : c ≤ 300) : ∀ (m i : Nat) (b : Bool) (X : Int32 → Option (Int32 × Ar × Ar × Ar × Ar × Ar × (Nat → Int64) × Ar × Ar × Ar × (Nat → Int64))), i ≤ c → c - i < m → f_X8_distinctValues_l56 F v1 v2 (nI c) v4 v res m (bI b) (nI i) X = X (bI (b && !memB res v i (c - i))) := by
  intro m
  induction m with
  | zero => intro i b X h1 h2; omega
  | succ m ih =>
    intro i b X h1 h2
    rw [f_X8_distinctValues_l56]
    by_cases h : c ≤ i
    · rw [if_pos (nI_le h (by omega)), show c - i = 0 by omega, memB, Bool.not_false, Bool.and_true]
    · have et := ih (i + 1) true X (by omega) (by omega)
      have ef := ih (i + 1) false X (by omega) (by omega)
      rw [bI_t] at et
      rw [bI_f] at ef
      rw [if_neg (nI_ge (by omega) (by omega)), bI_ite, nI_1, ef, et, gar_n (by omega) (by omega), nI_clamp (by omega), show c - i = (c - (i + 1)) + 1 by omega, memB]
      cases b with
      | false => simp only [Bool.false_eq_true, if_false]; rw [Bool.false_and, Bool.false_and]
      | true =>
        simp only [if_true]
        by_cases q : res i = v
        · rw [if_pos ((lg_cmp_eq _ _).mpr q), decide_eq_true q, Bool.true_or]; rfl
        · rw [if_neg (fun z => q ((lg_cmp_eq _ _).mp z)), decide_eq_false q, Bool.false_or]
theorem ev_sy {n : Nat} {P D : PT} {sA mS : Ar} {lv : Nat → Int64} (hss : ∀ i, i < n → sA i = mS i) : ∀ (f lo hi c k : Nat), hi - lo ≤ f → hi ≤ n → VT P D lo hi c k → ev P D sA lv f lo hi c k = ev P D mS lv f lo hi c k := by
  intro f
  induction f with
  | zero => intro lo hi c k _ _ _; rfl
  | succ f ih =>
    intro lo hi c k h1 h2 h3
    rw [ev, ev]
    by_cases hz : lo < hi
    · obtain ⟨b1, b2, b3, b4, b5, b6, b7, b8⟩ := vt_all hz h3
      rw [if_pos hz, if_pos hz, hss _ (by omega), ih _ _ _ _ (by omega) (by omega) b7, ih _ _ _ _ (by omega) (by omega) b8]
    · rw [if_neg hz, if_neg hz]
theorem m_dv {F n K j T : Nat} {fl : Nat → FL} {sy : Nat → Nat} {pr as sA le stF av : Ar} {so pl : Int32} {mp ma mS mO now : Ar} {mo : Int32} {cnt lf rt tr : Ar} (hF : 301 < F) (hR : RQ n K fl sy pr as sA le stF av so pl mp ma mS mO now mo) (hss : ∀ i, i < n → sA i = mS i) (hj : j ≤ K) (hT : T = nTrees pr as sy fl n j) (hT3 : T ≤ 300)
    (hA : FA (Pk pr as sy fl j) (Dk pr as sy fl n j) n cnt lf rt) (ht : TabQ tr (Pk pr as sy fl j) (Dk pr as sy fl n j) n (fun _ _ => True))
    {X : Int32 → (Nat → Int64) → Ar → Int32 → Ar → (Nat → Int64) → Ar → Option (Int32 × (Nat → Int64) × Ar × Ar × Int32 × Ar × Ar × Ar × Int32 × Ar × (Nat → Int64) × Ar)} {Y : Int32 → Ar → Ar → Ar → Ar → (Nat → Int64) → Ar → Ar → (Nat → Int64) → Option (Int32 × Ar × Ar × Ar × Ar × Ar × (Nat → Int64) × Ar × Ar × Ar × (Nat → Int64))}
    (hX : ∀ a bx al x ra res tro, ∃ u, X a bx al x ra res tro = some (a, u)) (hY : ∀ a hO lO pO pre md sO st vals, ∃ u, Y a hO lO pO pre md sO st vals = some (a, u)) :
    ∀ (m c r : Nat) (bx : Nat → Int64) (al : Ar) (x : Int32) (ra : Ar) (res : Nat → Int64) (tro hO lO pO pre : Ar) (md : Nat → Int64) (sO st : Ar) (vals : Nat → Int64), r ≤ T → c ≤ r → T - r < m → (∀ i, i < c → bx i = md i) →
      ∃ a u v, f_X7_distinctValues_l31 F (nI T) cnt lf (nI n) rt le sA av m (nI c) (nI r) bx al x ra res tro X = some (a, u) ∧ f_X8_distinctValues_l31 F (nI j) (nI T) ma now mO mo mp mS tr m (nI c) (nI r) hO lO pO pre md sO st vals Y = some (a, v) := by
  obtain ⟨hn, hK, rfl, rfl, rfl, h0, hs, hf, hN, hE, hle', hmo, hvv⟩ := hR
  intro m
  induction m with
  | zero => intro c r bx al x ra res tro hO lO pO pre md sO st vals h1 h2 h3; omega
  | succ m ih =>
    intro c r bx al x ra res tro hO lO pO pre md sO st vals h1 h2 h3 hb
    rw [f_X7_distinctValues_l31, f_X8_distinctValues_l31]
    by_cases hz : T ≤ r
    · rw [if_pos (nI_le hz (by omega)), if_pos (nI_le hz (by omega))]
      obtain ⟨u, e1⟩ := hX (nI c) bx al x ra res tro
      obtain ⟨w, e2⟩ := hY (nI c) hO lO pO pre md sO st vals
      exact ⟨_, _, _, e1, e2⟩
    · have h : r < Sc (Pk pr as sy fl j) (Dk pr as sy fl n j) 0 n (fun _ => true) := by
        have h' : r < T := by omega
        rw [hT] at h'
        exact h'
      obtain ⟨al1, ra1, ro1, g1, g2⟩ := m_select (F := F) (x := x) (al := al) (ra := ra) (ro := tro) (by omega) hA hn h
      obtain ⟨hO', lO', pO', pre', sO', st', w1, w2⟩ := m_unrank (F := F) (hO := hO) (lO := lO) (pO := pO) (pre := pre) (sO := sO) (st := st) (k := r) (by omega) (by omega) (hN.mono hj) hE hn ht h
      obtain ⟨r1, v1⟩ := m_evalC (F := F) (sA := sA) (av := av) (res := res) (by omega) hn hle' h g2
      obtain ⟨r2, v2⟩ := m_evalM (F := F) (sA := mS) (rA := vals) (by omega) hn h w2 (leafM hn hle' hmo hvv) (lvC_ok av le)
      rw [← ev_sy hss 10 0 n 0 r (by omega) (by omega) (vt_n h)] at v2
      rw [if_neg (nI_ge (by omega) (by omega)), if_neg (nI_ge (by omega) (by omega)), g1, Option.bind_some, v1, Option.bind_some, w1, Option.bind_some, v2, Option.bind_some]
      simp only []
      generalize ev (Pk pr as sy fl j) (Dk pr as sy fl n j) sA (lvC av le) 10 0 n 0 r = v
      rw [m_note (by omega) (by omega)]
      have es := fun Z => m_seen_l (F := F) (v1 := nI j) (v2 := nI T) (v4 := nI r) (v := v) (res := md) (show c ≤ 300 by omega) F 0 true Z (by omega) (by omega)
      rw [bI_t, ← k0] at es
      rw [es, memB_congr c 0 (fun i _ h => hb i (by omega)), Nat.sub_zero, Bool.true_and, k300, if_neg (nI_ge (by omega) (by omega))]
      unfold f_X8_distinctValues_b109 f_X8_distinctValues_b135 f_X8_distinctValues_b136
      rw [bI_ite, bI_ite, bI_ite]
      cases memB md v 0 c with
      | true =>
        simp only [Bool.not_true, Bool.false_eq_true, if_false, if_true]
        rw [Option.bind_some, k300, if_neg (nI_ge (by omega) (by omega)), gar_n (by omega) (by omega), gar_n (by omega) (by omega), nI_clamp (by omega), Int32.add_zero, nI_1]
        exact ih c (r + 1) bx _ _ _ _ _ _ _ _ _ _ _ _ _ (by omega) (by omega) (by omega) (fun i hi => by rw [pk_uLn (by omega)]; exact hb i hi)
      | false =>
        simp only [Bool.not_false, Bool.false_eq_true, if_false, if_true]
        rw [Option.bind_some, gar_n (by omega) (by omega), nI_clamp (by omega), nI_1, nI_1]
        refine ih (c + 1) (r + 1) _ _ _ _ _ _ _ _ _ _ _ _ _ _ (by omega) (by omega) (by omega) (fun i hi => ?_)
        show vp_updL bx c v i = vp_updL md c v i
        by_cases e : i = c
        · subst e; rw [pk_uLs, pk_uLs]
        · rw [pk_uLn e, pk_uLn e]; exact hb i (by omega)
theorem q_distinctValues {F n K : Nat} {fl : Nat → FL} {sy : Nat → Nat} {pr as sA le stF av : Ar} {so pl : Int32} {mp ma mS mO now : Ar} {mo : Int32} (hF : 301 < F) (hR : RQ n K fl sy pr as sA le stF av so pl mp ma mS mO now mo) (hss : ∀ i, i < n → sA i = mS i) (p : Int32) (bx : Nat → Int64) (cnt lf rt ro : Ar) (ops x : Int32) (al ra tro : Ar) (res : Nat → Int64) (di tr hO lO pO pre sO st : Ar) (md vals : Nat → Int64) :
    ∃ a u v, f_X7_distinctValues F p bx cnt lf ops rt ro as le so pr sA stF pl av al x ra res tro = some (a, u) ∧ f_X8_distinctValues F p ma di hO lO now mO mo pO pre mp md sO st mS tr vals = some (a, v) := by
  have hR' := hR
  obtain ⟨hn, hK, rfl, rfl, rfl, h0, hs, hf, hN, hE, hle', hmo, hvv⟩ := hR
  unfold f_X7_distinctValues f_X8_distinctValues
  rw [m_isFC, Option.bind_some, m_isPre h0, Option.bind_some, bI_ite, bI_ite]
  cases hb : inB p K with
  | false =>
    simp only [Bool.false_eq_true, if_false]
    exact ⟨_, _, _, rfl, rfl⟩
  | true =>
    obtain ⟨j, hj, rfl⟩ := inB_t hK hb
    obtain ⟨c1, l1, r1, s1, e1, e2, e3⟩ := m_grow (F := F) (K := j) (cnt := cnt) (lf := lf) (rt := rt) (ro := ro) (ops := ops) (by omega) hn (by omega) hs (fun i hi => hf i (by omega))
    obtain ⟨d1, t1, g1, -, g3⟩ := m_treesBy (F := F) (di := di) (tr := tr) (by omega) hK hj hN hE hn
    have hle := nTrees_le (pr := pr) (as := as) (sy := sy) (fl := fl) (n := n) (k := j) hn
    simp only [if_true]
    rw [e1, Option.bind_some, g1, Option.bind_some]
    simp only []
    by_cases h : nTrees pr as sy fl n j ≤ 300
    · rw [k300, if_pos (nI_le h (by omega)), if_pos (nI_le h (by omega)), k0]
      exact m_dv hF hR' hss hj rfl h ⟨e2.1, e3⟩ g3 (fun a bx al x ra res tro => ⟨_, rfl⟩) (fun a hO lO pO pre md sO st vals => ⟨_, rfl⟩) F 0 0 _ _ _ _ _ _ _ _ _ _ _ _ _ _ (by omega) (by omega) (by omega) (fun i hi => by omega)
    · rw [k300, if_neg (nI_ge (by omega) (by omega)), if_neg (nI_ge (by omega) (by omega))]
      exact ⟨_, _, _, rfl, rfl⟩
