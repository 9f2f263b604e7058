/-! 54: the reference's survivors; ranks among survivors; the class's -/
theorem m_sM_l {F K n k0' : Nat} {fl : Nat → FL} {pr as sA mp ma now di hO lO pO pre sO : Ar} {sy : Nat → Nat} {P D : PT} (hF : 12 < F) (hK : K ≤ 6) (hN : NowF now fl K) (hE : ExM pr as sy n sA mp ma) (hn : n ≤ 10) (hv : VT P D 0 n 0 k0') (hT : TM P D n k0' hO lO pO pre sO) (hD : DS pr as sy fl n K di) : ∀ (m q : Nat) (b : Bool) (X : Int32 → Option Int32), q ≤ n → n - q < m →
    f_X8_survives_l4 F (nI K) ma di hO lO now (nI n) pO mp sO sA m (bI b) (nI q) X = X (bI (b && !anyF (fun q => !(Dk pr as sy fl n K (tT P D n k0' q).1 (tT P D n k0' q).2.1 q && okc (Pk pr as sy fl K) (tT P D n k0' q).2.2.1 q)) q (n - q))) := by
  intro m
  induction m with
  | zero => intro q b X h1 h2; omega
  | succ m ih =>
    intro q b X h1 h2
    rw [f_X8_survives_l4]
    by_cases h : n ≤ q
    · rw [if_pos (nI_le h (by omega)), show n - q = 0 by omega, anyF]
      simp
    · rw [if_neg (nI_ge (by omega) (by omega)), bI_ite]
      cases b with
      | false => simp only [Bool.false_eq_true, if_false, Bool.false_and]
      | true =>
        obtain ⟨a, e, c, k', hq⟩ : ∃ a b c k', tT P D n k0' q = (a, b, c, k') := ⟨_, _, _, _, rfl⟩
        obtain ⟨s1, s2, s3, s4, s5⟩ := tT_spec hv (show q < n by omega) hq
        have hc := tT_c hv (show q < n by omega) hq
        obtain ⟨t1, t2, t3, t4⟩ := hT.1 q (by omega)
        rw [hq] at t1 t2 t3 t4
        replace t1 : hO q = nI e := t1
        replace t2 : lO q = nI a := t2
        replace t3 : pO q = par c := t3
        replace t4 : sO q = sid c := t4
        have hd := hD a e q s1 s2 s3
        unfold DM at hd
        simp only [if_true]
        rw [show n - q = (n - (q + 1)) + 1 by omega, anyF, hq]
        rw [gar_n (by omega) (by omega), gar_n (by omega) (by omega), nI_clamp (by omega), t1, t2, eSp, gar_n (by omega) (by omega), nI_clamp (by omega), m_has, Option.bind_some, bI_ite]
        have hms := m_mayStand hF hK hN hE hn (show q < n by omega) hc
        rw [gar_n (by omega) (by omega), gar_n (by omega) (by omega), t3, t4, hms, Option.bind_some, bI_ite, k1, nI_add, ← k1, ← bI_t, ← bI_f, ih (q + 1) true X (by omega) (by omega), ih (q + 1) false X (by omega) (by omega)]
        rw [← hd]
        simp only []
        cases bq (di (a * 11 + e)) q <;> cases okc (Pk pr as sy fl K) c q <;> simp
theorem m_survM {F K n k : Nat} {fl : Nat → FL} {pr as sA mp ma now di hO lO pO pre sO : Ar} {sy : Nat → Nat} {P D : PT} (hF : 12 < F) (hK : K ≤ 6) (hN : NowF now fl K) (hE : ExM pr as sy n sA mp ma) (hn : n ≤ 10) (hv : k < Sc P D 0 n (fun _ => true)) (hT : TM P D n k hO lO pO pre sO) (hD : DS pr as sy fl n K di) :
    f_X8_survives F (nI K) ma di hO lO now (nI n) pO mp sO sA = some (bI (svB (Pk pr as sy fl K) (Dk pr as sy fl n K) n (tT P D n k))) := by
  unfold f_X8_survives
  have e := m_sM_l (F := F) hF hK hN hE hn (vt_n hv) hT hD F 0 true (fun v2 => (gbo v2 (some (v2)))) (by omega) (by omega)
  rw [bI_t, ← k0] at e
  rw [e, gbo_b, Bool.true_and, Nat.sub_zero]
  rfl
/-- the rank of a span's tree among the trees that other rules leave -/
def rk (P D P' D' : PT) : Nat → Nat → Nat → Nat → Nat → Nat
  | 0, _, _, _, _ => 0
  | f + 1, lo, hi, c, k => if lo < hi then tsum (Cc P' D' lo hi) (okc P' c) lo (tQ P D lo hi c k - lo) + (rk P D P' D' f lo (tQ P D lo hi c k) (1 + 2 * tQ P D lo hi c k) (tL P D lo hi c k) * Sc P' D' (tQ P D lo hi c k + 1) hi (P' 1 (tQ P D lo hi c k)) + rk P D P' D' f (tQ P D lo hi c k + 1) hi (2 + 2 * tQ P D lo hi c k) (tR P D lo hi c k)) else 0
theorem rk_fuel {P D P' D' : PT} : ∀ (f f' lo hi c k : Nat), VT P D lo hi c k → hi - lo ≤ f → hi - lo ≤ f' → rk P D P' D' f lo hi c k = rk P D P' D' f' lo hi c k := by
  intro f
  induction f with
  | zero =>
    intro f' lo hi c k hv h1 h2
    cases f' with
    | zero => rfl
    | succ f' => rw [rk, rk, if_neg (by omega)]
  | succ f ih =>
    intro f' lo hi c k hv h1 h2
    by_cases h : lo < hi
    · cases f' with
      | zero => omega
      | succ f' =>
        obtain ⟨b1, b2, b3, b4, b5, b6, b7, b8⟩ := vt_all h hv
        rw [rk, rk, if_pos h, if_pos h, ih f' _ _ _ _ b7 (by omega) (by omega), ih f' _ _ _ _ b8 (by omega) (by omega)]
    · cases f' with
      | zero => rw [rk, rk, if_neg h]
      | succ f' => rw [rk, rk, if_neg h, if_neg h]
/-- and below its root -/
def rb (P D P' D' : PT) (a b q c k : Nat) : Nat := rk P D P' D' 10 a q (1 + 2 * q) (tL P D a b c k) * Sc P' D' (q + 1) b (P' 1 q) + rk P D P' D' 10 (q + 1) b (2 + 2 * q) (tR P D a b c k)
theorem rk_rb {P D P' D' : PT} {a b q c k : Nat} (h : a < b) (hb : b ≤ 10) (hv : VT P D a b c k) (hq : tQ P D a b c k = q) : rk P D P' D' 10 a b c k = tsum (Cc P' D' a b) (okc P' c) a (q - a) + rb P D P' D' a b q c k := by
  obtain ⟨b1, b2, b3, b4, b5, b6, b7, b8⟩ := vt_all h hv
  rw [rk, if_pos h, hq]
  rw [hq] at b7 b8 b1 b2
  unfold rb
  rw [rk_fuel 9 10 _ _ _ _ b7 (by omega) (by omega), rk_fuel 9 10 _ _ _ _ b8 (by omega) (by omega)]
theorem isum_nI' {f : Nat → Nat} {ok : Nat → Bool} (m lo : Nat) : isum (fun q => nI (f q)) ok lo m = nI (tsum f ok lo m) := isum_nI m lo (fun _ _ _ => ⟨rfl, fun _ => rfl⟩)
theorem m_rank_l26 {F n lo hi c q : Nat} {P' D' : PT} {cnt lf rt ro : Ar} (h : FA P' D' n cnt lf rt) (hn : n ≤ 10) (hc : c ≤ 2 * n) (hhi : hi ≤ n) (hlo : lo < hi) (hq1 : lo ≤ q) (hq2 : q < hi) (hro : ro (lo * 11 + hi) = nI q) : ∀ (m x : Nat) (v : Int32) (X : Int32 → Option Int32), lo ≤ x → x ≤ q → q - x < m →
    f_X6_rankOf_l26 F (nI lo) (nI hi) (aw lf rt c) (nI (lo * 11 + hi)) cnt ro m v (nI x) X = X (v + nI (tsum (Cc P' D' lo hi) (okc P' c) x (q - x))) := by
  intro m
  induction m with
  | zero => intro x v X h1 h2 h3; omega
  | succ m ih =>
    intro x v X h1 h2 h3
    rw [f_X6_rankOf_l26, gar_n (by omega) (by omega), nI_clamp (by omega), hro]
    by_cases z : q ≤ x
    · rw [if_pos (nI_le z (by omega)), show q - x = 0 by omega, tsum, nI_0, Int32.add_zero]
    · rw [if_neg (nI_ge (by omega) (by omega)), m_deriv h hn hc h1 (by omega) hhi, Option.bind_some, k1, nI_add, ih (x + 1) _ X (by omega) (by omega) (by omega), show q - x = (q - (x + 1)) + 1 by omega, tsum, ← nI_add, Int32.add_assoc]
      rfl
/-- what the class keeps for a span of the tree -/
def RBok (P D P' D' : PT) (n k : Nat) (rbA : Ar) (dn : Nat → Nat → Prop) : Prop := ∀ q a b c k', q < n → tT P D n k q = (a, b, c, k') → dn a b → rbA (a * 11 + b) = nI (rb P D P' D' a b q c k')
theorem m_rankOfC {F n k0' a b c k : Nat} {P D P' D' : PT} {cnt lf rt ra ro rbA : Ar} (hF : 12 < F) (h : FA P' D' n cnt lf rt) (hn : n ≤ 10) (hv0 : VT P D 0 n 0 k0') (hT : TL P D n k0' ra ro) (hab : a ≤ b) (hb : b ≤ n) (hc : c ≤ 2 * n) (hv : VT P D a b c k) (hloc : a < b → tT P D n k0' (tQ P D a b c k) = (a, b, c, k)) (hrb : a < b → rbA (a * 11 + b) = nI (rb P D P' D' a b (tQ P D a b c k) c k)) :
    f_X6_rankOf F (nI a) (nI b) (aw lf rt c) cnt rbA ro = some (nI (rk P D P' D' 10 a b c k)) := by
  unfold f_X6_rankOf
  by_cases z : a < b
  · obtain ⟨b1, b2, b3, b4, b5, b6, b7, b8⟩ := vt_all z hv
    rw [if_pos (nI_lt z (by omega)), m_spanIndex, Option.bind_some, gar_n (by omega) (by omega), nI_clamp (by omega), hrb z, m_rank_l26 h hn hc hb z b1 b2 (hT.1 _ a b c k (by omega) (hloc z)).2 F a _ _ (Nat.le_refl _) b1 (by omega), rk_rb z (by omega) hv rfl, nI_add, Nat.add_comm]
  · rw [if_neg (nI_nlt (by omega) (by omega)), rk, if_neg z, nI_0]
theorem m_rankBelow {F n k0' a b c k q : Nat} {P D P' D' : PT} {cnt lf rt ra ro rbA : Ar} (hF : 12 < F) (h : FA P' D' n cnt lf rt) (hn : n ≤ 10) (hv0 : VT P D 0 n 0 k0') (hT : TL P D n k0' ra ro) (hq : q < n) (ht : tT P D n k0' q = (a, b, c, k)) (hrb : RBok P D P' D' n k0' rbA (fun x y => y - x < b - a)) :
    f_X6_rankBelowRoot F (nI a) (nI b) cnt lf rt rbA ro = some (upd rbA (a * 11 + b) (nI (rb P D P' D' a b q c k))) := by
  obtain ⟨s1, s2, s3, s4, s5⟩ := tT_spec hv0 hq ht
  obtain ⟨t1, t2⟩ := hT.1 q a b c k hq ht
  obtain ⟨b1, b2, b3, b4, b5, b6, b7, b8⟩ := vt_all (by omega) s4
  rw [s5] at b7 b8
  unfold f_X6_rankBelowRoot
  have e1 := m_rankOfC (rbA := rbA) hF h hn hv0 hT s1 (by omega) (show 1 + 2 * q ≤ 2 * n by omega) b7 (fun z => nd_left n 0 n 0 k0' q a b c k (by omega) hv0 (by omega) hq ht z) (fun z => hrb _ a q _ _ (by have := vt_all z b7; omega) (nd_left n 0 n 0 k0' q a b c k (by omega) hv0 (by omega) hq ht z) (by omega))
  have e2 := m_rankOfC (rbA := rbA) hF h hn hv0 hT (show q + 1 ≤ b by omega) s3 (show 2 + 2 * q ≤ 2 * n by omega) b8 (fun z => nd_right n 0 n 0 k0' q a b c k (by omega) hv0 (by omega) hq ht z) (fun z => hrb _ (q + 1) b _ _ (by have := vt_all z b8; omega) (nd_right n 0 n 0 k0' q a b c k (by omega) hv0 (by omega) hq ht z) (by omega))
  rw [aw_l] at e1
  rw [aw_r] at e2
  have ht2 : f_X2_treesOf F (nI (q + 1)) (nI b) (rt q) cnt = some (nI (Sc P' D' (q + 1) b (P' 1 q))) := m_treesOf (by omega) (by omega) (by omega) (fun r r1 r2 => h.2 _ _ r r1 r2 s3 trivial) (fun r r1 r2 => by
    have := bq_aw h hn (c := 2 + 2 * q) (q := r) (by omega) (by omega)
    rw [aw_r, okc_r] at this
    exact this)
  rw [m_spanIndex, Option.bind_some, gar_n (by omega) (by omega), nI_clamp (show a * 11 + b < 2 ^ 31 by omega), t2, gar_n (by omega) (by omega), nI_clamp (show q < 2 ^ 31 by omega), e1, Option.bind_some, gar_n (by omega) (by omega), k1, nI_add, e2, Option.bind_some, gar_n (by omega) (by omega), ht2, Option.bind_some, gar_n (by omega) (by omega), pk_mul, nI_add]
  rfl
