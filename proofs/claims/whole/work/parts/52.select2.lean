/-! 52: the class's tree of a rank, whole -/
theorem nI_not_m1 (q : Nat) (h : q < 2 ^ 31) : ¬ nI q = -1 := by
  intro e
  have h1 := nI_toInt h
  rw [e] at h1
  have : ((-1 : Int32)).toInt = -1 := by decide
  omega
theorem tT_spec {P D : PT} {n k : Nat} (hv : VT P D 0 n 0 k) {q a b c k' : Nat} (hq : q < n) (h : tT P D n k q = (a, b, c, k')) : a ≤ q ∧ q < b ∧ b ≤ n ∧ VT P D a b c k' ∧ tQ P D a b c k' = q := by
  obtain ⟨a', b', c'', k'', g1, g2, g3, g4, g5, g6⟩ := nd_spec n 0 n 0 k q (by omega) hv (by omega) hq
  have e : (a', b', c'', k'') = (a, b, c, k') := g1.symm.trans h
  injection e with x1 e
  injection e with x2 e
  injection e with x3 x4
  subst x1; subst x2; subst x3; subst x4
  exact ⟨g3, g4, g5, g6⟩
theorem tT_c {P D : PT} {n k : Nat} (hv : VT P D 0 n 0 k) {q a b c k' : Nat} (hq : q < n) (h : tT P D n k q = (a, b, c, k')) : c ≤ 2 * n := by
  rcases nd_up n 0 n 0 k q a b c k' (by omega) hv (by omega) hq h with ⟨-, -, x, -⟩ | ⟨p, a', b', c'', k'', p1, p2, -, -, ⟨-, -, x, -⟩ | ⟨-, -, x, -⟩⟩ <;> omega
def SI (P D : PT) (n k : Nat) (lf rt al ra ro : Ar) (dn : Nat → Nat → Prop) : Prop :=
  (∀ a b, a < b → b ≤ n → ra (a * 11 + b) = -1 ∨ ∃ q c k', a ≤ q ∧ q < b ∧ tT P D n k q = (a, b, c, k') ∧ ra (a * 11 + b) = nI k' ∧ al (a * 11 + b) = aw lf rt c) ∧
  (∀ q a b c k', q < n → b ≤ n → tT P D n k q = (a, b, c, k') → dn a b → ro (a * 11 + b) = nI q ∧ (a < q → ra (a * 11 + q) ≠ -1) ∧ (q + 1 < b → ra ((q + 1) * 11 + b) ≠ -1)) ∧
  (0 < n → ra (0 * 11 + n) ≠ -1)
theorem SI_mono {P D : PT} {n k : Nat} {lf rt al ra ro : Ar} {dn dn' : Nat → Nat → Prop} (h : ∀ a b, b ≤ n → dn' a b → dn a b) (hS : SI P D n k lf rt al ra ro dn) : SI P D n k lf rt al ra ro dn' :=
  ⟨hS.1, fun q a b c k' h1 h2 h3 h4 => hS.2.1 q a b c k' h1 h2 h3 (h a b h2 h4), hS.2.2⟩
theorem SI_found {P D : PT} {n k : Nat} {lf rt al ra ro : Ar} {dn : Nat → Nat → Prop} (hv : VT P D 0 n 0 k) (hS : SI P D n k lf rt al ra ro dn) {q a b c k' : Nat} (hq : q < n) (hT : tT P D n k q = (a, b, c, k')) (hd : ∀ a' b', b - a < b' - a' → b' ≤ n → dn a' b') : ra (a * 11 + b) ≠ -1 := by
  obtain ⟨s1, s2, s3, -⟩ := tT_spec hv hq hT
  rcases nd_up n 0 n 0 k q a b c k' (by omega) hv (by omega) hq hT with ⟨rfl, rfl, -, -⟩ | ⟨p, a', b', c'', k'', p1, p2, p3, p4, p5⟩
  · exact hS.2.2 (by omega)
  · have hb := (tT_spec hv p2 p3).2.2.1
    obtain ⟨-, e1, e2⟩ := hS.2.1 p a' b' c'' k'' p2 hb p3 (hd a' b' p4 hb)
    rcases p5 with ⟨rfl, rfl, -, -⟩ | ⟨rfl, rfl, -, -⟩
    · exact e1 (by omega)
    · exact e2 (by omega)
theorem SI_none {P D : PT} {n k : Nat} {lf rt al ra ro : Ar} {dn : Nat → Nat → Prop} (hv : VT P D 0 n 0 k) (hS : SI P D n k lf rt al ra ro dn) {lo hi : Nat} (hd : ∀ a' b', hi - lo < b' - a' → b' ≤ n → dn a' b') (h : ra (lo * 11 + hi) = -1) : SI P D n k lf rt al ra ro (fun a b => dn a b ∨ (a = lo ∧ b = hi)) := by
  refine ⟨hS.1, fun q a b c k' h1 h2 h3 h4 => ?_, hS.2.2⟩
  rcases h4 with h4 | ⟨rfl, rfl⟩
  · exact hS.2.1 q a b c k' h1 h2 h3 h4
  · exact absurd h (SI_found hv hS h1 h3 hd)
theorem SI_step {F n lo hi k : Nat} {P D : PT} {cnt lf rt al ra ro : Ar} {dn : Nat → Nat → Prop} (hF : 12 < F) (h : FA P D n cnt lf rt) (hn : n ≤ 10) (hv : VT P D 0 n 0 k) (hlo : lo < hi) (hhi : hi ≤ n) (hS : SI P D n k lf rt al ra ro dn) (hne : ra (lo * 11 + hi) ≠ -1) :
    ∃ al' ra' ro', f_X6_splitSubtree F (nI lo) (nI hi) cnt lf rt al ra ro = some (al', ra', ro') ∧ SI P D n k lf rt al' ra' ro' (fun a b => dn a b ∨ (a = lo ∧ b = hi)) := by
  rcases hS.1 lo hi hlo hhi with e | ⟨q, c, k', q1, q2, q3, q4, q5⟩
  · exact absurd e hne
  · obtain ⟨-, -, -, hv2, hq⟩ := tT_spec hv (show q < n by omega) q3
    have hc := tT_c hv (show q < n by omega) q3
    obtain ⟨b1, b2, b3, b4, b5, b6, b7, b8⟩ := vt_all hlo hv2
    have hS2 : tS P D lo hi c k' ≤ 16796 := Sc_le (by omega) (by omega)
    have hK2 : tK P D lo hi c k' ≤ 16796 := Nat.le_trans (Nat.le_of_lt b6) (Cc_le (by omega) b1 b2)
    have hL : tL P D lo hi c k' ≤ 16796 := Nat.le_trans (Nat.div_le_self _ _) hK2
    have hR : tR P D lo hi c k' < tS P D lo hi c k' := Nat.mod_lt _ b5
    have hsp := m_split (ro := ro) hF h hn hc hlo hhi hv2 q5 q4
    rw [hq] at hsp b7 b8
    refine ⟨_, _, _, hsp, ?_⟩
    have keep : ∀ j, ra j ≠ -1 → upd (upd ra (lo * 11 + q) (nI (tL P D lo hi c k'))) ((q + 1) * 11 + hi) (nI (tR P D lo hi c k')) j ≠ -1 := by
      intro j hj
      by_cases z : j = (q + 1) * 11 + hi
      · rw [z, pk_us]; exact nI_not_m1 _ (by omega)
      · rw [pk_un z]
        by_cases z2 : j = lo * 11 + q
        · rw [z2, pk_us]; exact nI_not_m1 _ (by omega)
        · rw [pk_un z2]; exact hj
    have atL : upd (upd ra (lo * 11 + q) (nI (tL P D lo hi c k'))) ((q + 1) * 11 + hi) (nI (tR P D lo hi c k')) (lo * 11 + q) = nI (tL P D lo hi c k') := by
      rw [pk_un (sp_ne (by omega) (by omega) (by omega)), pk_us]
    have atR : upd (upd ra (lo * 11 + q) (nI (tL P D lo hi c k'))) ((q + 1) * 11 + hi) (nI (tR P D lo hi c k')) ((q + 1) * 11 + hi) = nI (tR P D lo hi c k') := pk_us
    refine ⟨fun a b a1 a2 => ?_, fun q' a b c' k'' h1 h2 h3 h4 => ?_, fun z => keep _ (hS.2.2 z)⟩
    · by_cases y : a = q + 1 ∧ b = hi
      · obtain ⟨rfl, rfl⟩ := y
        refine Or.inr ⟨tQ P D (q + 1) b (2 + 2 * q) (tR P D lo b c k'), 2 + 2 * q, tR P D lo b c k', (vt_all a1 b8).1, (vt_all a1 b8).2.1, nd_right n 0 n 0 k q lo b c k' (by omega) hv (by omega) (by omega) q3 a1, atR, ?_⟩
        rw [pk_us, aw_r]
      · by_cases y2 : a = lo ∧ b = q
        · obtain ⟨rfl, rfl⟩ := y2
          refine Or.inr ⟨tQ P D a b (1 + 2 * b) (tL P D a hi c k'), 1 + 2 * b, tL P D a hi c k', (vt_all a1 b7).1, (vt_all a1 b7).2.1, nd_left n 0 n 0 k b a hi c k' (by omega) hv (by omega) (by omega) q3 a1, atL, ?_⟩
          rw [pk_un (sp_ne (by omega) (by omega) (by omega)), pk_us, aw_l]
        · have z1 : a * 11 + b ≠ (q + 1) * 11 + hi := sp_ne (by omega) (by omega) (by omega)
          have z2 : a * 11 + b ≠ lo * 11 + q := sp_ne (by omega) (by omega) (by omega)
          rw [pk_un z1, pk_un z2, pk_un z1, pk_un z2]
          exact hS.1 a b a1 a2
    · by_cases y : a = lo ∧ b = hi
      · obtain ⟨rfl, rfl⟩ := y
        have e : q' = q := nd_uniq n 0 n 0 k q' q a b c' k'' (by omega) hv (by omega) h1 (by omega) (by omega) c k' h3 q3
        subst e
        refine ⟨pk_us, fun z => ?_, fun z => ?_⟩
        · rw [atL]; exact nI_not_m1 _ (by omega)
        · rw [atR]; exact nI_not_m1 _ (by omega)
      · obtain ⟨s1, s2, s3, -⟩ := tT_spec hv h1 h3
        obtain ⟨e1, e2, e3⟩ := hS.2.1 q' a b c' k'' h1 h2 h3 (by rcases h4 with h4 | h4; exact h4; exact absurd h4 y)
        refine ⟨?_, fun z => keep _ (e2 z), fun z => keep _ (e3 z)⟩
        rw [pk_un (sp_ne (by omega) (by omega) (by omega))]
        exact e1
def hasB (ra : Ar) (j : Nat) : Bool := !decide (ra j = -1)
theorem hasB_t {ra : Ar} {j : Nat} : hasB ra j = true ↔ ra j ≠ -1 := by unfold hasB; simp
theorem hasB_f {ra : Ar} {j : Nat} : hasB ra j = false ↔ ra j = -1 := by unfold hasB; simp
theorem m_hasSub {F lo hi : Nat} {ra : Ar} (h : lo * 11 + hi < 121) : f_X6_hasSubtree F (nI lo) (nI hi) ra = some (bI (hasB ra (lo * 11 + hi))) := by
  unfold f_X6_hasSubtree
  rw [m_spanIndex, Option.bind_some, gar_n h (by omega), nI_clamp (by omega)]
  by_cases z : ra (lo * 11 + hi) = -1
  · rw [if_pos z, hasB_f.mpr z]; rfl
  · rw [if_neg z, hasB_t.mpr z]; rfl
theorem m_sel_l39 {F n len k : Nat} {P D : PT} {cnt lf rt : Ar} (hF : 12 < F) (h : FA P D n cnt lf rt) (hn : n ≤ 10) (hv : VT P D 0 n 0 k) (hl : 1 ≤ len) (hl2 : len ≤ n) : ∀ (m low : Nat) (al ra ro : Ar) (X : Ar → Ar → Ar → Option (Ar × Int32 × Ar × Ar)), low + len ≤ n + 1 → n + 1 - (low + len) < m → SI P D n k lf rt al ra ro (fun a b => len < b - a ∨ (b - a = len ∧ a < low)) →
    ∃ al' ra' ro', f_X6_select_l39 F (nI len) cnt lf rt (nI n) m (nI low) al ra ro X = X al' ra' ro' ∧ SI P D n k lf rt al' ra' ro' (fun a b => len ≤ b - a) := by
  intro m
  induction m with
  | zero => intro low al ra ro X h1 h2; omega
  | succ m ih =>
    intro low al ra ro X h1 h2 hS
    rw [f_X6_select_l39, nI_add]
    by_cases hz : n < low + len
    · rw [if_pos (nI_lt hz (by omega))]
      exact ⟨al, ra, ro, rfl, SI_mono (fun a b q1 q2 => by omega) hS⟩
    · rw [if_neg (nI_nlt (by omega) (by omega)), m_hasSub (by omega), Option.bind_some, bI_ite, k1, nI_add]
      by_cases y : ra (low * 11 + (low + len)) = -1
      · rw [hasB_f.mpr y]
        simp only [Bool.false_eq_true, if_false]
        exact ih (low + 1) al ra ro X (by omega) (by omega) (SI_mono (fun a b q1 q2 => by omega) (SI_none hv hS (lo := low) (hi := low + len) (fun a' b' z1 z2 => by omega) y))
      · rw [hasB_t.mpr y]
        simp only [if_true]
        obtain ⟨al1, ra1, ro1, e1, e2⟩ := SI_step hF h hn hv (show low < low + len by omega) (by omega) hS y
        rw [e1, Option.bind_some]
        exact ih (low + 1) al1 ra1 ro1 X (by omega) (by omega) (SI_mono (fun a b q1 q2 => by omega) e2)
theorem m_sel_l32 {F n k : Nat} {P D : PT} {cnt lf rt : Ar} (hF : 12 < F) (h : FA P D n cnt lf rt) (hn : n ≤ 10) (hv : VT P D 0 n 0 k) : ∀ (m len : Nat) (al ra ro : Ar) (X : Ar → Ar → Ar → Option (Ar × Int32 × Ar × Ar)), len ≤ n → len < m → SI P D n k lf rt al ra ro (fun a b => len < b - a) →
    ∃ al' ra' ro', f_X6_select_l32 F cnt lf rt (nI n) m (nI len) al ra ro X = X al' ra' ro' ∧ SI P D n k lf rt al' ra' ro' (fun a b => 0 < b - a) := by
  intro m
  induction m with
  | zero => intro len al ra ro X h1 h2; omega
  | succ m ih =>
    intro len al ra ro X h1 h2 hS
    rw [f_X6_select_l32]
    by_cases hz : len = 0
    · subst hz
      rw [if_pos (show nI 0 ≤ (0 : Int32) by decide)]
      exact ⟨al, ra, ro, rfl, hS⟩
    · obtain ⟨len, rfl⟩ : ∃ y, len = y + 1 := ⟨len - 1, by omega⟩
      rw [if_neg (nI_nle (by omega) (by omega)), k0]
      obtain ⟨al1, ra1, ro1, e1, e2⟩ := m_sel_l39 hF h hn hv (show 1 ≤ len + 1 by omega) h1 F 0 al ra ro (fun tr_allowedRoots tr_ranks tr_roots => (f_X6_select_l32 F cnt lf rt (nI n) m (nI (len + 1) + (-1)) tr_allowedRoots tr_ranks tr_roots X)) (by omega) (by omega) (SI_mono (fun a b q1 q2 => by omega) hS)
      rw [e1, nI_dec]
      exact ih len al1 ra1 ro1 X (by omega) (by omega) (SI_mono (fun a b q1 q2 => by omega) e2)
/-- the class holds the tree -/
def TL (P D : PT) (n k : Nat) (ra ro : Ar) : Prop :=
  (∀ q a b c k', q < n → tT P D n k q = (a, b, c, k') → ra (a * 11 + b) ≠ -1 ∧ ro (a * 11 + b) = nI q) ∧ (∀ a b, a < b → b ≤ n → ra (a * 11 + b) ≠ -1 → ∃ q c k', a ≤ q ∧ q < b ∧ tT P D n k q = (a, b, c, k'))
theorem m_select {F n k : Nat} {x : Int32} {P D : PT} {cnt lf rt al ra ro : Ar} (hF : 121 < F) (h : FA P D n cnt lf rt) (hn : n ≤ 10) (hv : k < Sc P D 0 n (fun _ => true)) : ∃ al' ra' ro', f_X6_select F (nI k) cnt lf (nI n) rt al x ra ro = some (al', nI n, ra', ro') ∧ TL P D n k ra' ro' := by
  have hk : k ≤ 16796 := Nat.le_of_lt (Nat.lt_of_lt_of_le hv (Sc_le (by omega) (by omega)))
  unfold f_X6_select
  obtain ⟨r0, e1, e2, -⟩ := m_fill (F := F) (n := 121) (v := -1) (av := ra) (by omega) hF
  rw [e1, Option.bind_some, k0, m_put (by omega), Option.bind_some]
  have hS : SI P D n k lf rt (upd al (0 * 11 + n) (-1)) (upd r0 (0 * 11 + n) (nI k)) ro (fun a b => n < b - a) := by
    refine ⟨fun a b a1 a2 => ?_, fun q a b c k' h1 h2 h3 h4 => by omega, fun z => ?_⟩
    · by_cases y : a = 0 ∧ b = n
      · obtain ⟨rfl, rfl⟩ := y
        have z := vt_all a1 (vt_n hv)
        refine Or.inr ⟨tQ P D 0 b 0 k, 0, k, z.1, z.2.1, ?_, pk_us, ?_⟩
        · unfold tT
          obtain ⟨b', rfl⟩ : ∃ y, b = y + 1 := ⟨b - 1, by omega⟩
          exact nd_top
        · rw [pk_us]; rfl
      · refine Or.inl ?_
        rw [pk_un (sp_ne (by omega) (by omega) (by omega))]
        exact e2 _ (by omega)
    · rw [pk_us]; exact nI_not_m1 _ (by omega)
  obtain ⟨al1, ra1, ro1, g1, g2⟩ := m_sel_l32 (F := F) (by omega) h hn (vt_n hv) F n (upd al (0 * 11 + n) (-1)) (upd r0 (0 * 11 + n) (nI k)) ro (fun tr_allowedRoots tr_ranks tr_roots => (some (tr_allowedRoots, (nI n), tr_ranks, tr_roots))) (Nat.le_refl _) (by omega) hS
  refine ⟨al1, ra1, ro1, g1, fun q a b c k' q1 q2 => ?_, fun a b a1 a2 a3 => ?_⟩
  · obtain ⟨s1, s2, s3, -⟩ := tT_spec (vt_n hv) q1 q2
    exact ⟨SI_found (vt_n hv) g2 q1 q2 (fun a' b' z _ => by omega), (g2.2.1 q a b c k' q1 s3 q2 (by omega)).1⟩
  · rcases g2.1 a b a1 a2 with e | ⟨q, c, k', q1, q2, q3, -⟩
    · exact absurd e a3
    · exact ⟨q, c, k', q1, q2, q3⟩
