/-! 56: the rank among survivors, the reference's -/
theorem par_eq {c q : Nat} (hc : c < 100) (hq : q < 100) : par c = nI q ↔ (c = 1 + 2 * q ∨ c = 2 + 2 * q) := by
  unfold par
  by_cases h : c = 0
  · rw [if_pos h]
    constructor
    · intro e; exact absurd e.symm (nI_not_m4 q (by omega))
    · intro e; omega
  · rw [if_neg h, nI_eq (by omega) (by omega)]
    omega
theorem sid_0 {c : Nat} (h : c ≠ 0) : sid c = 0 ↔ (c - 1) % 2 = 0 := by
  unfold sid
  rw [if_neg h, k0, nI_eq (by omega) (by omega)]
theorem sid_1 {c : Nat} (h : c ≠ 0) : sid c = 1 ↔ (c - 1) % 2 = 1 := by
  unfold sid
  rw [if_neg h, k1, nI_eq (by omega) (by omega)]
/-- the left child of q in the tree, and the right one -/
def chL (P D : PT) (a b q c k : Nat) : Nat := tQ P D a q (1 + 2 * q) (tL P D a b c k)
def chR (P D : PT) (a b q c k : Nat) : Nat := tQ P D (q + 1) b (2 + 2 * q) (tR P D a b c k)
theorem m_rk_l41 {F K n k0' q a b c k : Nat} {v2 : Int32} {fl : Nat → FL} {pr as sA mp ma now tr hO lO pO pre sO : Ar} {sy : Nat → Nat} {P D : PT} {D' : PT} (hF : 12 < F) (hK : K ≤ 6) (hN : NowF now fl K) (hE : ExM pr as sy n sA mp ma) (hn : n ≤ 10) (hv : VT P D 0 n 0 k0') (hT : TM P D n k0' hO lO pO pre sO) (ht : TabQ tr (Pk pr as sy fl K) D' n (fun _ _ => True)) (hq : q < n) (htq : tT P D n k0' q = (a, b, c, k)) : ∀ (m x : Nat) (v : Int32) (X : Int32 → Option (Int32 × Ar)), a ≤ x → x ≤ q → q - x < m →
    f_X8_rankOf_l41 F (nI K) v2 (nI q) (nI a) (nI b) ma now pO mp sO sA tr m v (nI x) X = X (v + nI (tsum (Cc (Pk pr as sy fl K) D' a b) (okc (Pk pr as sy fl K) c) x (q - x))) := by
  obtain ⟨s1, s2, s3, s4, s5⟩ := tT_spec hv hq htq
  have hc := tT_c hv hq htq
  obtain ⟨t1, t2, t3, t4⟩ := hT.1 q hq
  rw [htq] at t1 t2 t3 t4
  replace t3 : pO q = par c := t3
  replace t4 : sO q = sid c := t4
  intro m
  induction m with
  | zero => intro x v X h1 h2 h3; omega
  | succ m ih =>
    intro x v X h1 h2 h3
    rw [f_X8_rankOf_l41]
    by_cases z : q ≤ x
    · rw [if_pos (nI_le z (by omega)), show q - x = 0 by omega, tsum, nI_0, Int32.add_zero]
    · rw [if_neg (nI_ge (by omega) (by omega)), gar_n (by omega) (by omega), gar_n (by omega) (by omega), nI_clamp (by omega), t3, t4, m_mayStand hF hK hN hE hn (show x < n by omega) hc, Option.bind_some, bI_ite, eSp, eIx, gar_n (by omega) (by omega), nI_clamp (by omega), ht a b x h1 (by omega) s3 trivial, k1, nI_add, ih (x + 1) _ X (by omega) (by omega) (by omega), ih (x + 1) _ X (by omega) (by omega) (by omega), show q - x = (q - (x + 1)) + 1 by omega, tsum, ← nI_add, Int32.add_assoc]
      cases okc (Pk pr as sy fl K) c x with
      | true => simp only [if_true]
      | false => simp only [Bool.false_eq_true, if_false]; rw [Int32.add_zero, nI_0, Int32.zero_add]
theorem m_rk_l113 {F n k0' q a b c k : Nat} {v1 v2 v6 : Int32} {hO lO pO pre sO rA : Ar} {P D : PT} (hn : n ≤ 10) (hv : VT P D 0 n 0 k0') (hT : TM P D n k0' hO lO pO pre sO) (hq : q < n) (htq : tT P D n k0' q = (a, b, c, k)) : ∀ (m x : Nat) (v7 v8 : Int32) (X : Int32 → Int32 → Option (Int32 × Ar)), a ≤ x → x ≤ b → b - x < m →
    f_X8_rankOf_l113 F v1 v2 (nI q) (nI b) v6 pO rA sO m v7 v8 (nI x) X = X (if a < q ∧ x ≤ chL P D a b q c k then rA (chL P D a b q c k) else v7) (if q + 1 < b ∧ x ≤ chR P D a b q c k then rA (chR P D a b q c k) else v8) := by
  obtain ⟨s1, s2, s3, s4, s5⟩ := tT_spec hv hq htq
  obtain ⟨b1, b2, b3, b4, b5, b6, b7, b8⟩ := vt_all (show a < b by omega) s4
  rw [s5] at b7 b8
  have hL : a < q → a ≤ chL P D a b q c k ∧ chL P D a b q c k < q := fun z => by have := vt_all z b7; exact ⟨this.1, this.2.1⟩
  have hR : q + 1 < b → q + 1 ≤ chR P D a b q c k ∧ chR P D a b q c k < b := fun z => by have := vt_all z b8; exact ⟨this.1, this.2.1⟩
  intro m
  induction m with
  | zero => intro x v7 v8 X h1 h2 h3; omega
  | succ m ih =>
    intro x v7 v8 X h1 h2 h3
    rw [f_X8_rankOf_l113]
    by_cases z : b ≤ x
    · rw [if_pos (nI_le z (by omega)), if_neg (fun y => by have := hL y.1; omega), if_neg (fun y => by have := hR y.1; omega)]
    · obtain ⟨a', b', c', k'', hx⟩ : ∃ a' b' c' k'', tT P D n k0' x = (a', b', c', k'') := ⟨_, _, _, _, rfl⟩
      have hc := tT_c hv (show x < n by omega) hx
      obtain ⟨t1, t2, t3, t4⟩ := hT.1 x (by omega)
      rw [hx] at t3 t4
      replace t3 : pO x = par c' := t3
      replace t4 : sO x = sid c' := t4
      have cl : c' = 1 + 2 * q ↔ (a < q ∧ x = chL P D a b q c k) := child_l hv hq htq (show x < n by omega) hx
      have cr : c' = 2 + 2 * q ↔ (q + 1 < b ∧ x = chR P D a b q c k) := child_r hv hq htq (show x < n by omega) hx
      have hp := par_eq (c := c') (q := q) (by omega) (by omega)
      rw [if_neg (nI_ge (by omega) (by omega)), gar_n (by omega) (by omega), gar_n (by omega) (by omega), gar_n (by omega) (by omega), nI_clamp (by omega), t3, t4]
      unfold f_X8_rankOf_b151 f_X8_rankOf_b153
      rw [gar_n (by omega) (by omega), gar_n (by omega) (by omega), gar_n (by omega) (by omega), nI_clamp (by omega), t3, t4, show nI x + 1 = nI (x + 1) from nI_1 x]
      simp only [gar_n (show x < 10 by omega) (show 10 < 2 ^ 31 by omega)]
      rw [ih (x + 1) _ _ X (by omega) (by omega) (by omega), ih (x + 1) _ _ X (by omega) (by omega) (by omega), ih (x + 1) _ _ X (by omega) (by omega) (by omega), ih (x + 1) _ _ X (by omega) (by omega) (by omega)]
      by_cases y : par c' = nI q
      · rw [if_pos y]
        rcases hp.mp y with e | e
        · have e2 := cl.mp e
          have hne : ¬ (q + 1 < b ∧ x = chR P D a b q c k) := fun w => by have := cr.mpr w; omega
          have s0 : sid c' = 0 := (sid_0 (by omega)).mpr (by omega)
          have s1' : ¬ sid c' = 1 := fun w => by have := (sid_1 (by omega)).mp w; omega
          rw [if_pos s0, if_pos y, if_neg s1', if_neg (show ¬ (a < q ∧ x + 1 ≤ chL P D a b q c k) by omega), if_pos (show a < q ∧ x ≤ chL P D a b q c k by omega), ← e2.2]
          congr 1
          by_cases u : q + 1 < b ∧ x ≤ chR P D a b q c k
          · rw [if_pos u, if_pos (by omega)]
          · rw [if_neg u, if_neg (by omega)]
        · have e2 := cr.mp e
          have hne : ¬ (a < q ∧ x = chL P D a b q c k) := fun w => by have := cl.mpr w; omega
          have s0 : ¬ sid c' = 0 := fun w => by have := (sid_0 (by omega)).mp w; omega
          have s1' : sid c' = 1 := (sid_1 (by omega)).mpr (by omega)
          rw [if_neg s0, if_pos y, if_pos s1', if_neg (show ¬ (q + 1 < b ∧ x + 1 ≤ chR P D a b q c k) by omega), if_pos (show q + 1 < b ∧ x ≤ chR P D a b q c k by omega), ← e2.2]
          congr 1
          by_cases u : a < q ∧ x ≤ chL P D a b q c k
          · rw [if_pos u, if_pos (by omega)]
          · rw [if_neg u, if_neg (by omega)]
      · have n1 : ¬ (a < q ∧ x = chL P D a b q c k) := fun w => y (hp.mpr (Or.inl (cl.mpr w)))
        have n2 : ¬ (q + 1 < b ∧ x = chR P D a b q c k) := fun w => y (hp.mpr (Or.inr (cr.mpr w)))
        rw [if_neg y, if_neg y]
        congr 1
        · by_cases u : a < q ∧ x ≤ chL P D a b q c k
          · rw [if_pos u, if_pos (by omega)]
          · rw [if_neg u, if_neg (by omega)]
        · by_cases u : q + 1 < b ∧ x ≤ chR P D a b q c k
          · rw [if_pos u, if_pos (by omega)]
          · rw [if_neg u, if_neg (by omega)]
def dj (j : Nat) : Int32 := nI j + (-1)
theorem dj_0 : dj 0 < 0 := by decide
theorem dj_s (j : Nat) : dj (j + 1) = nI j := nI_dec j
theorem m_rk_l7 {F K n k : Nat} {fl : Nat → FL} {pr as sA mp ma now tr hO lO pO pre sO : Ar} {sy : Nat → Nat} {P D : PT} {D' : PT} (hF : 12 < F) (hK : K ≤ 6) (hN : NowF now fl K) (hE : ExM pr as sy n sA mp ma) (hn : n ≤ 10) (hv : VT P D 0 n 0 k) (hT : TM P D n k hO lO pO pre sO) (ht : TabQ tr (Pk pr as sy fl K) D' n (fun _ _ => True)) : ∀ (m j : Nat) (rA : Ar) (X : Ar → Option (Int32 × Ar)), j ≤ n → j < m → (∀ i a b c k', j ≤ i → i < n → tT P D n k (pw P D n 0 n 0 k i) = (a, b, c, k') → rA (pw P D n 0 n 0 k i) = nI (rk P D (Pk pr as sy fl K) D' 10 a b c k')) →
    ∃ rA', f_X8_rankOf_l7 F (nI K) ma hO lO now pO pre mp sO sA tr m (dj j) rA X = X rA' ∧ (∀ i a b c k', i < n → tT P D n k (pw P D n 0 n 0 k i) = (a, b, c, k') → rA' (pw P D n 0 n 0 k i) = nI (rk P D (Pk pr as sy fl K) D' 10 a b c k')) := by
  intro m
  induction m with
  | zero => intro j rA X h1 h2; omega
  | succ m ih =>
    intro j rA X h1 h2 hI
    rw [f_X8_rankOf_l7]
    cases j with
    | zero =>
      rw [if_pos dj_0]
      exact ⟨rA, rfl, fun i a b c k' i1 => hI i a b c k' (by omega) i1⟩
    | succ j =>
      rw [dj_s, if_neg (nI_pos (by omega))]
      have hw := pw_lt (P := P) (D := D) n 0 n 0 k j (by omega) hv (by omega)
      generalize hq : pw P D n 0 n 0 k j = q at hw
      obtain ⟨a, b, c, k', hx⟩ : ∃ a' b' c' k'', tT P D n k q = (a', b', c', k'') := ⟨_, _, _, _, rfl⟩
      have hqn : q < n := hw.2
      obtain ⟨s1, s2, s3, s4, s5⟩ := tT_spec hv hqn hx
      obtain ⟨b1, b2, b3, b4, b5, b6, b7, b8⟩ := vt_all (show a < b by omega) s4
      rw [s5] at b7 b8
      obtain ⟨t1, t2, t3, t4⟩ := hT.1 q hqn
      rw [hx] at t1 t2
      replace t1 : hO q = nI b := t1
      replace t2 : lO q = nI a := t2
      have tp := hT.2 j (by omega)
      rw [hq] at tp
      have pl := pw_left (P := P) (D := D) n 0 n 0 k j a b c k' (by omega) hv (by omega) (by rw [hq]; exact hx)
      rw [hq] at pl
      obtain ⟨pl1, pl2⟩ := pl
      rw [gar_n (by omega) (by omega), nI_clamp (by omega), tp, gar_n (by omega) (by omega), gar_n (by omega) (by omega), nI_clamp (by omega), t1, t2, m_rk_l41 hF hK hN hE hn hv hT ht hqn hx F a _ _ (Nat.le_refl _) s1 (by omega), Int32.zero_add, m_rk_l113 hn hv hT hqn hx F a _ _ _ (Nat.le_refl _) (by omega) (by omega), k1, nI_add, m_below hF hK hN hE hn hqn (show 1 < 2 by omega) (show q + 1 ≤ b by omega) s3 (fun r r1 r2 => ht (q + 1) b r r1 r2 s3 trivial), Option.bind_some, gar_n (by omega) (by omega)]
      have hl : (if a < q ∧ a ≤ chL P D a b q c k' then rA (chL P D a b q c k') else 0) = nI (rk P D (Pk pr as sy fl K) D' 10 a q (1 + 2 * q) (tL P D a b c k')) := by
        by_cases z : a < q
        · have w := vt_all z b7
          obtain ⟨z1, z2⟩ := pl1 z
          rw [if_pos ⟨z, w.1⟩, show chL P D a b q c k' = _ from z2.symm]
          exact hI (j + 1) _ _ _ _ (by omega) (by omega) (by rw [z2]; exact nd_left n 0 n 0 k q a b c k' (by omega) hv (by omega) hqn hx z)
        · rw [if_neg (by omega), rk, if_neg z, nI_0]
      have hr : (if q + 1 < b ∧ a ≤ chR P D a b q c k' then rA (chR P D a b q c k') else 0) = nI (rk P D (Pk pr as sy fl K) D' 10 (q + 1) b (2 + 2 * q) (tR P D a b c k')) := by
        by_cases z : q + 1 < b
        · have w := vt_all z b8
          obtain ⟨z1, z2⟩ := pl2 z
          rw [if_pos ⟨z, show a ≤ tQ P D (q + 1) b (2 + 2 * q) (tR P D a b c k') by omega⟩, show chR P D a b q c k' = _ from z2.symm]
          exact hI (j + 1 + (q - a)) _ _ _ _ (by omega) (by omega) (by rw [z2]; exact nd_right n 0 n 0 k q a b c k' (by omega) hv (by omega) hqn hx z)
        · rw [if_neg (by omega), rk, if_neg z, nI_0]
      rw [hl, hr, pk_mul, nI_add, nI_add]
      show ∃ rA', f_X8_rankOf_l7 F (nI K) ma hO lO now pO pre mp sO sA tr m (dj j) _ X = X rA' ∧ _
      refine ih j _ X (by omega) (by omega) (fun i a' b' c' k'' i1 i2 i3 => ?_)
      by_cases y : pw P D n 0 n 0 k i = q
      · rw [y] at i3 ⊢
        rw [pk_us]
        have e2 := i3.symm.trans hx
        injection e2 with x1 e2
        injection e2 with x2 e2
        injection e2 with x3 x4
        subst x1; subst x2; subst x3; subst x4
        rw [rk_rb (by omega) (by omega) s4 s5]
        unfold rb
        rw [Nat.add_assoc]
      · rw [pk_un y]
        by_cases y2 : i = j
        · rw [y2] at y; exact absurd hq y
        · exact hI i a' b' c' k'' (by omega) i2 i3
theorem m_rankM {F K n k : Nat} {fl : Nat → FL} {pr as sA mp ma now tr hO lO pO pre sO rA : Ar} {sy : Nat → Nat} {P D : PT} {D' : PT} (hF : 12 < F) (hK : K ≤ 6) (hN : NowF now fl K) (hE : ExM pr as sy n sA mp ma) (hn : n ≤ 10) (hv : k < Sc P D 0 n (fun _ => true)) (hT : TM P D n k hO lO pO pre sO) (ht : TabQ tr (Pk pr as sy fl K) D' n (fun _ _ => True)) : ∃ rA', f_X8_rankOf F (nI K) ma hO lO now (nI n) pO pre mp rA sO sA tr = some (nI (rk P D (Pk pr as sy fl K) D' 10 0 n 0 k), rA') := by
  unfold f_X8_rankOf
  obtain ⟨r1, e1, e2⟩ := m_rk_l7 (F := F) (D' := D') hF hK hN hE hn (vt_n hv) hT ht F n rA (fun md_ranks => (if nI n = 0 then (some (0, md_ranks)) else (gar 0 10 (gar (pre (Int32.toNatClampNeg 0)) 10 (some ((md_ranks (Int32.toNatClampNeg (pre (Int32.toNatClampNeg 0)))), md_ranks)))))) (Nat.le_refl _) (by omega) (fun i a b c k' i1 i2 => by omega)
  rw [show dj n = nI n - 1 from (Int32.sub_eq_add_neg _ _).symm] at e1
  refine ⟨r1, ?_⟩
  rw [e1]
  by_cases h : n = 0
  · subst h
    rw [if_pos (show nI 0 = 0 from nI_0), rk, if_neg (by omega), nI_0]
  · have hw := pw_lt (P := P) (D := D) n 0 n 0 k 0 (by omega) (vt_n hv) (by omega)
    have hp : pw P D n 0 n 0 k 0 = tQ P D 0 n 0 k := by
      obtain ⟨n', rfl⟩ : ∃ y, n = y + 1 := ⟨n - 1, by omega⟩
      rw [pw, if_pos rfl]
    have hr := e2 0 0 n 0 k (by omega) (by rw [hp]; exact tT_top (by omega))
    rw [if_neg (show ¬ nI n = 0 from nI_ne0 (by omega) (by omega)), k0, gar_n (by omega) (by omega), nI_clamp (by omega), hT.2 0 (by omega), gar_n (by omega) (by omega), nI_clamp (by omega), hr]
