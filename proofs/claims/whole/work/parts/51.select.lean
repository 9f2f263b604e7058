/-! 51: the class's tree of a rank -/
/-- the tree of a rank, told by operator: span, context, rank -/
def tT (P D : PT) (n k q : Nat) : Nat × Nat × Nat × Nat := nd P D n 0 n 0 k q
theorem vt_n {P D : PT} {n k : Nat} (h : k < Sc P D 0 n (fun _ => true)) : VT P D 0 n 0 k := h
/-- the reference holds the tree -/
def TM (P D : PT) (n k : Nat) (hO lO pO pre sO : Ar) : Prop :=
  (∀ q, q < n → hO q = nI (tT P D n k q).2.1 ∧ lO q = nI (tT P D n k q).1 ∧ pO q = par (tT P D n k q).2.2.1 ∧ sO q = sid (tT P D n k q).2.2.1) ∧ (∀ i, i < n → pre i = nI (pw P D n 0 n 0 k i))
theorem m_unrank {F K n k : Nat} {fl : Nat → FL} {pr as sA mp ma now tr hO lO pO pre sO st : Ar} {sy : Nat → Nat} {D : PT} (hF : 12 < F) (hK : K ≤ 6) (hN : NowF now fl K) (hE : ExM pr as sy n sA mp ma) (hn : n ≤ 10) (ht : TabQ tr (Pk pr as sy fl K) D n (fun _ _ => True)) (hv : k < Sc (Pk pr as sy fl K) D 0 n (fun _ => true)) :
    ∃ hO' lO' pO' pre' sO' st', f_X8_unrank F (nI K) (nI k) ma hO lO now (nI n) pO pre mp sO st sA tr = some (hO', lO', pO', pre', sO', st') ∧ TM (Pk pr as sy fl K) D n k hO' lO' pO' pre' sO' := by
  have body : ∀ st1 : Ar, (0 < n → onS st1 0 0 n 0 k) → ∃ hO' lO' pO' pre' sO' st', f_X8_unrank_b56 F (nI K) (nI 0) (nI (if 0 < n then 0 + 1 else 0)) ma hO lO now pO pre mp sO st1 sA tr = some (hO', lO', pO', pre', sO', st') ∧ TM (Pk pr as sy fl K) D n k hO' lO' pO' pre' sO' := by
    intro st1 hs
    unfold f_X8_unrank_b56
    obtain ⟨hO', lO', pO', pre', sO', st', e, ⟨u1, u2, u3, u4⟩, -⟩ := m_un (F := F) (X := fun md_highOf md_lowOf md_parentOf md_preorder md_sideOf md_stack => (some (md_highOf, md_lowOf, md_parentOf, md_preorder, md_sideOf, md_stack))) hF hK hN hE hn ht n 0 n 0 k 0 0 (F - n) hO lO pO pre sO st1 (by omega) (by omega) (Nat.le_refl _) (by omega) (vt_n hv) (by omega) (by omega) hs
    rw [show F - n + (n - 0) = F by omega] at e
    rw [e, show F - n = (F - n - 1) + 1 by omega, f_X8_unrank_l58, if_pos (show nI 0 ≤ (0 : Int32) by decide)]
    refine ⟨hO', lO', pO', pre', sO', st', rfl, fun q hq => u1 q (by omega) hq, fun i hi => ?_⟩
    have := u3 i (by omega)
    rw [Nat.zero_add] at this
    exact this
  unfold f_X8_unrank
  have g : ∀ j (x : RO), j < 5 → gar (nI j) 60 x = x := fun j x h => gar_n (by omega) (by omega)
  have hst : (upd (upd (upd (upd (upd st (Int32.toNatClampNeg 0) 0) (Int32.toNatClampNeg 1) (nI n)) (Int32.toNatClampNeg 2) (nI k)) (Int32.toNatClampNeg 3) (-4)) (Int32.toNatClampNeg 4) 0) = psh st 0 (nI 0) (nI n) (nI k) (-4) 0 := by
    unfold psh
    rw [← k0]
    rfl
  rw [hst]
  have g0 := fun x => g 0 x (by omega)
  have g1 := fun x => g 1 x (by omega)
  have g2 := fun x => g 2 x (by omega)
  have g3 := fun x => g 3 x (by omega)
  have g4 := fun x => g 4 x (by omega)
  rw [← k0] at g0
  rw [← k1] at g1
  rw [← k2] at g2
  rw [← k3] at g3
  rw [← k4] at g4
  rw [g0, g1, g2, g3, g4]
  have ho : onS (psh st 0 (nI 0) (nI n) (nI k) (-4) 0) 0 0 n 0 k := onS_psh rfl rfl
  have b := body _ (fun _ => ho)
  by_cases h : n = 0
  · rw [if_pos (show nI n ≤ (0 : Int32) by rw [h]; decide)]
    rw [if_neg (by omega), ← k0] at b
    exact b
  · rw [if_neg (nI_nle (by omega) (by omega))]
    rw [if_pos (by omega), show (0 + 1 : Nat) = 1 from rfl, ← k0, ← k1] at b
    exact b
/-- what may stand below a context, as the class keeps it -/
def aw (lf rt : Ar) (c : Nat) : Int32 := if c = 0 then -1 else if (c - 1) % 2 = 0 then lf ((c - 1) / 2) else rt ((c - 1) / 2)
theorem aw_l (lf rt : Ar) (q : Nat) : aw lf rt (1 + 2 * q) = lf q := by unfold aw; rw [if_neg (by omega), if_pos (by omega), show (1 + 2 * q - 1) / 2 = q by omega]
theorem aw_r (lf rt : Ar) (q : Nat) : aw lf rt (2 + 2 * q) = rt q := by unfold aw; rw [if_neg (by omega), if_neg (by omega), show (2 + 2 * q - 1) / 2 = q by omega]
/-- the class's forest, as far as trees need it -/
def FA (P D : PT) (n : Nat) (cnt lf rt : Ar) : Prop := (∀ s p c, p < n → c < n → PA lf rt s p c = P s p c) ∧ TabQ cnt P D n (fun _ _ => True)
/-- P asks of its side only whether it is 0 -/
def sdP (P : PT) : Prop := ∀ s p c, s ≠ 0 → P s p c = P 1 p c
theorem bq_aw {P D : PT} {n : Nat} {cnt lf rt : Ar} (h : FA P D n cnt lf rt) (hn : n ≤ 10) {c q : Nat} (hc : c ≤ 2 * n) (hq : q < n) : bq (aw lf rt c) q = okc P c q := by
  unfold aw okc
  by_cases h0 : c = 0
  · rw [if_pos h0, if_pos h0, bq_m1 q (by omega)]
  · rw [if_neg h0, if_neg h0]
    rcases (show (c - 1) % 2 = 0 ∨ (c - 1) % 2 = 1 by omega) with e | e
    · have := h.1 0 ((c - 1) / 2) q (by omega) hq
      rw [if_pos e, e, ← this]
      unfold PA
      rw [if_pos rfl]
    · have := h.1 1 ((c - 1) / 2) q (by omega) hq
      rw [if_neg (by omega), e, ← this]
      unfold PA
      rw [if_neg (by omega)]
theorem m_deriv {F n lo hi q c : Nat} {P D : PT} {cnt lf rt : Ar} (h : FA P D n cnt lf rt) (hn : n ≤ 10) (hc : c ≤ 2 * n) (h1 : lo ≤ q) (h2 : q < hi) (h3 : hi ≤ n) : f_X2_derivationsOf F (nI lo) (nI hi) (nI q) (aw lf rt c) cnt = some (nI (tG P D lo hi c q)) := by
  unfold f_X2_derivationsOf tG
  rw [m_isIn, Option.bind_some, bI_ite, bq_aw h hn hc (by omega), m_spanIndex, Option.bind_some, k10, pk_mul, nI_add, gar_n (by omega) (by omega), nI_clamp (by omega), h.2 lo hi q h1 h2 h3 trivial]
  cases okc P c q with
  | true => simp only [if_true]
  | false => simp only [Bool.false_eq_true, if_false]; rw [k0]
theorem m_split_l {F n lo hi c : Nat} {v4 : Int32} {P D : PT} {cnt lf rt : Ar} (h : FA P D n cnt lf rt) (hn : n ≤ 10) (hc : c ≤ 2 * n) (hhi : hi ≤ n) : ∀ (m r k x : Nat) (X : Int32 → Int32 → Option (Ar × Ar × Ar)), lo ≤ r → r + m = hi → k < tsum (Cc P D lo hi) (okc P c) r m → m ≤ x → k ≤ 16796 →
    f_X6_splitSubtree_l28 F (nI lo) (nI hi) v4 (aw lf rt c) cnt x (nI k) (nI r) X = X (nI (rs (tG P D lo hi c) m r k).2) (nI (rs (tG P D lo hi c) m r k).1) := by
  intro m
  induction m with
  | zero => intro r k x X h1 h2 h3; rw [tsum] at h3; omega
  | succ m ih =>
    intro r k x X h1 h2 h3 h4 h5
    have hle : tG P D lo hi c r ≤ 16796 := by
      unfold tG
      by_cases z : okc P c r = true
      · rw [if_pos z]; exact Cc_le (by omega) h1 (by omega)
      · rw [if_neg z]; omega
    rw [tsum] at h3
    have h3' : k < tG P D lo hi c r + tsum (Cc P D lo hi) (okc P c) (r + 1) m := h3
    rw [rs]
    obtain ⟨x, rfl⟩ : ∃ y, x = y + 1 := ⟨x - 1, by omega⟩
    rw [f_X6_splitSubtree_l28, show nI hi - 1 = nI (hi - 1) by rw [show hi = (hi - 1) + 1 by omega, nI_pred]; rfl]
    by_cases hz : hi - 1 ≤ r
    · have hm : m = 0 := by omega
      subst hm
      rw [tsum] at h3'
      rw [if_pos (nI_le hz (by omega)), if_pos (show k < tG P D lo hi c r by omega)]
    · rw [if_neg (nI_ge (by omega) (by omega)), m_deriv h hn hc h1 (by omega) hhi, Option.bind_some]
      by_cases hk : k < tG P D lo hi c r
      · rw [if_pos (nI_lt hk (by omega)), if_pos hk]
      · rw [if_neg (nI_nlt (by omega) (by omega)), if_neg hk, Option.bind_some, pk_sub (by omega), k1, nI_add]
        exact ih (r + 1) _ x X (by omega) (by omega) (by omega) (by omega) (by omega)
theorem m_split_top {F n lo hi c k : Nat} {v4 : Int32} {P D : PT} {cnt lf rt : Ar} {X : Int32 → Int32 → Option (Ar × Ar × Ar)} (hF : 12 < F) (h : FA P D n cnt lf rt) (hn : n ≤ 10) (hc : c ≤ 2 * n) (hlo : lo < hi) (hhi : hi ≤ n) (hv : VT P D lo hi c k) : f_X6_splitSubtree_l28 F (nI lo) (nI hi) v4 (aw lf rt c) cnt F (nI k) (nI lo) X = X (nI (tK P D lo hi c k)) (nI (tQ P D lo hi c k)) := by
  have hk : k ≤ 16796 := by
    have := Sc_le (P := P) (D := D) (lo := lo) (hi := hi) (ok := okc P c) (by omega) (by omega)
    unfold VT at hv
    omega
  have hv2 : k < tsum (Cc P D lo hi) (okc P c) lo (hi - lo) := by
    unfold VT Sc Sf at hv
    rw [if_pos hlo] at hv
    exact hv
  exact m_split_l h hn hc hhi (hi - lo) lo k F X (Nat.le_refl _) (by omega) hv2 (by omega) hk
theorem m_put {F lo hi : Nat} {w r : Int32} {al ra : Ar} (h : lo * 11 + hi < 121) : f_X6_putSubtree F (nI lo) (nI hi) w r al ra = some (upd al (lo * 11 + hi) w, upd ra (lo * 11 + hi) r) := by
  unfold f_X6_putSubtree
  rw [m_spanIndex, Option.bind_some, gar_n h (by omega), gar_n h (by omega), nI_clamp (by omega)]
theorem m_split {F n lo hi c k : Nat} {P D : PT} {cnt lf rt al ra ro : Ar} (hF : 12 < F) (h : FA P D n cnt lf rt) (hn : n ≤ 10) (hc : c ≤ 2 * n) (hlo : lo < hi) (hhi : hi ≤ n) (hv : VT P D lo hi c k) (ha : al (lo * 11 + hi) = aw lf rt c) (hr : ra (lo * 11 + hi) = nI k) :
    f_X6_splitSubtree F (nI lo) (nI hi) cnt lf rt al ra ro = some (upd (upd al (lo * 11 + tQ P D lo hi c k) (lf (tQ P D lo hi c k))) ((tQ P D lo hi c k + 1) * 11 + hi) (rt (tQ P D lo hi c k)), upd (upd ra (lo * 11 + tQ P D lo hi c k) (nI (tL P D lo hi c k))) ((tQ P D lo hi c k + 1) * 11 + hi) (nI (tR P D lo hi c k)), upd ro (lo * 11 + hi) (nI (tQ P D lo hi c k))) := by
  obtain ⟨b1, b2, b3, b4, b5, b6, b7, b8⟩ := vt_all hlo hv
  have hS2 : tS P D lo hi c k ≤ 16796 := Sc_le (by omega) (by omega)
  have hK2 : tK P D lo hi c k ≤ 16796 := Nat.le_trans (Nat.le_of_lt b6) (Cc_le (by omega) b1 b2)
  unfold f_X6_splitSubtree
  rw [m_spanIndex, Option.bind_some, gar_n (by omega) (by omega), gar_n (by omega) (by omega), nI_clamp (by omega), ha, hr, m_split_top hF h hn hc hlo hhi hv, gar_n (by omega) (by omega), gar_n (by omega) (by omega), nI_clamp (by omega), k1, nI_add]
  have ht : f_X2_treesOf F (nI (tQ P D lo hi c k + 1)) (nI hi) (rt (tQ P D lo hi c k)) cnt = some (nI (tS P D lo hi c k)) := m_treesOf (by omega) (by omega) (by omega) (fun r r1 r2 => h.2 _ _ r r1 r2 hhi trivial) (fun r r1 r2 => by
    have := bq_aw h hn (c := 2 + 2 * tQ P D lo hi c k) (q := r) (by omega) (by omega)
    rw [aw_r, okc_r] at this
    exact this)
  rw [ht, Option.bind_some, if_neg (nI_nle b5 (by omega)), gar_n (by omega) (by omega), gnz_ok (fun z => by have := (nI_eq (by omega) (by omega)).mp (z.trans k0); omega), pk_div (by omega) b5 (by omega), m_put (by omega), Option.bind_some, gar_n (by omega) (by omega), gnz_ok (fun z => by have := (nI_eq (by omega) (by omega)).mp (z.trans k0); omega)]
  have hrem : nI (tK P D lo hi c k) - nI (tK P D lo hi c k / tS P D lo hi c k) * nI (tS P D lo hi c k) = nI (tR P D lo hi c k) := by
    rw [← pk_div (by omega) b5 (by omega), pk_rem (by omega) b5 (by omega)]
    rfl
  rw [hrem, m_put (by omega), Option.bind_some]
  rfl
