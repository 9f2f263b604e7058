/-! 49: the reference's tree of a rank -/
theorem nI_dec (d : Nat) : nI (d + 1) + (-1) = nI d := by rw [← nI_pred d, Int32.sub_eq_add_neg]
def par (c : Nat) : Int32 := if c = 0 then -4 else nI ((c - 1) / 2)
def sid (c : Nat) : Int32 := if c = 0 then 0 else nI ((c - 1) % 2)
theorem par_l (q : Nat) : par (1 + 2 * q) = nI q := by unfold par; rw [if_neg (by omega), show (1 + 2 * q - 1) / 2 = q by omega]
theorem par_r (q : Nat) : par (2 + 2 * q) = nI q := by unfold par; rw [if_neg (by omega), show (2 + 2 * q - 1) / 2 = q by omega]
theorem sid_l (q : Nat) : sid (1 + 2 * q) = nI 0 := by unfold sid; rw [if_neg (by omega), show (1 + 2 * q - 1) % 2 = 0 by omega]
theorem sid_r (q : Nat) : sid (2 + 2 * q) = nI 1 := by unfold sid; rw [if_neg (by omega), show (2 + 2 * q - 1) % 2 = 1 by omega]
theorem nI_not_m4 (q : Nat) (h : q < 2 ^ 31) : ¬ nI q = -4 := by
  intro e
  have h1 := nI_toInt h
  rw [e] at h1
  have : ((-4 : Int32)).toInt = -4 := by decide
  omega
theorem not_ite_bI (b : Bool) : (if bI (!b) = 0 then (some 1 : Option Int32) else some 0) = some (bI b) := by cases b <;> rfl
theorem m_mayStand {F K n q c : Nat} {fl : Nat → FL} {pr as sA mp ma now : Nat → Int32} {sy : Nat → Nat} (hF : 12 < F) (hK : K ≤ 6) (hN : NowF now fl K) (hE : ExM pr as sy n sA mp ma) (hn : n ≤ 10) (hq : q < n) (hc : c ≤ 2 * n) : f_X8_mayStand F (nI K) (nI q) (par c) (sid c) ma now mp sA = some (bI (okc (Pk pr as sy fl K) c q)) := by
  unfold f_X8_mayStand par sid okc
  by_cases h : c = 0
  · rw [if_pos h, if_pos h, if_pos rfl, if_pos h, bI_t]
  · rw [if_neg h, if_neg h, if_neg (nI_not_m4 _ (by omega)), if_pos (nI_pos' (by omega)), if_neg h]
    unfold f_X8_mayStand_b17
    rw [m_isForbidden hF hK hN hE hn (show (c - 1) / 2 < n by omega) hq (show (c - 1) % 2 < 2 by omega), Option.bind_some, not_ite_bI]
theorem m_un_l172 {F K n lo hi c : Nat} {v3 v4 : Int32} {fl : Nat → FL} {pr as sA mp ma now tr : Nat → Int32} {sy : Nat → Nat} {D : PT} (hF : 12 < F) (hK : K ≤ 6) (hN : NowF now fl K) (hE : ExM pr as sy n sA mp ma) (hn : n ≤ 10) (hc : c ≤ 2 * n) (hhi : hi ≤ n) (ht : TabQ tr (Pk pr as sy fl K) D n (fun _ _ => True)) : ∀ (m r k x : Nat) (X : Int32 → Int32 → Option ((Nat → Int32) × (Nat → Int32) × (Nat → Int32) × (Nat → Int32) × (Nat → Int32) × (Nat → Int32))), lo ≤ r → r + m = hi → k < tsum (Cc (Pk pr as sy fl K) D lo hi) (okc (Pk pr as sy fl K) c) r m → m ≤ x → k ≤ 16796 →
    f_X8_unrank_l172 F (nI K) v3 v4 (nI lo) (nI hi) (par c) (sid c) ma now mp sA tr x (nI k) (nI r) (nI (tG (Pk pr as sy fl K) D lo hi c r)) X = X (nI (rs (tG (Pk pr as sy fl K) D lo hi c) m r k).2) (nI (rs (tG (Pk pr as sy fl K) D lo hi c) m r k).1) := by
  intro m
  induction m with
  | zero => intro r k x X h1 h2 h3; rw [tsum] at h3; omega
  | succ m ih =>
    intro r k x X h1 h2 h3 h4 h5
    have hle : tG (Pk pr as sy fl K) D lo hi c r ≤ 16796 := by
      unfold tG
      by_cases z : okc (Pk pr as sy fl K) c r = true
      · rw [if_pos z]; exact Cc_le (by omega) h1 (by omega)
      · rw [if_neg z]; omega
    rw [tsum] at h3
    rw [rs]
    obtain ⟨x, rfl⟩ : ∃ y, x = y + 1 := ⟨x - 1, by omega⟩
    rw [f_X8_unrank_l172]
    by_cases hk : k < tG (Pk pr as sy fl K) D lo hi c r
    · rw [if_pos (nI_lt hk (by omega)), if_pos hk]
    · have h3' : k < tG (Pk pr as sy fl K) D lo hi c r + tsum (Cc (Pk pr as sy fl K) D lo hi) (okc (Pk pr as sy fl K) c) (r + 1) m := h3
      have hm : r + 1 < hi := by
        rcases Nat.eq_zero_or_pos m with e | e
        · subst e; rw [tsum] at h3'; omega
        · omega
      rw [if_neg (nI_nlt (by omega) (by omega)), if_neg hk, k1, nI_add, m_mayStand hF hK hN hE hn (show r + 1 < n by omega) hc, Option.bind_some, bI_ite, pk_sub (by omega), eSp, eIx, gar_n (by omega) (by omega), nI_clamp (by omega), ht lo hi (r + 1) (by omega) hm hhi trivial]
      have e := ih (r + 1) (k - tG (Pk pr as sy fl K) D lo hi c r) x X (by omega) (by omega) (by omega) (by omega) (by omega)
      rw [show tG (Pk pr as sy fl K) D lo hi c (r + 1) = if okc (Pk pr as sy fl K) c (r + 1) then Cc (Pk pr as sy fl K) D lo hi (r + 1) else 0 from rfl] at e
      cases hb : okc (Pk pr as sy fl K) c (r + 1) with
      | true =>
        rw [hb] at e
        simp only [if_true] at e ⊢
        exact e
      | false =>
        rw [hb] at e
        simp only [Bool.false_eq_true, if_false] at e ⊢
        rw [k0]
        exact e
/-- five numbers on the stack -/
def psh (st : Nat → Int32) (d : Nat) (a b k p s : Int32) : Nat → Int32 := upd (upd (upd (upd (upd st (5 * d) a) (5 * d + 1) b) (5 * d + 2) k) (5 * d + 3) p) (5 * d + 4) s
theorem psh_0 {st d a b k p s} : psh st d a b k p s (5 * d) = a := by unfold psh; rw [pk_un (by omega), pk_un (by omega), pk_un (by omega), pk_un (by omega), pk_us]
theorem psh_1 {st d a b k p s} : psh st d a b k p s (5 * d + 1) = b := by unfold psh; rw [pk_un (by omega), pk_un (by omega), pk_un (by omega), pk_us]
theorem psh_2 {st d a b k p s} : psh st d a b k p s (5 * d + 2) = k := by unfold psh; rw [pk_un (by omega), pk_un (by omega), pk_us]
theorem psh_3 {st d a b k p s} : psh st d a b k p s (5 * d + 3) = p := by unfold psh; rw [pk_un (by omega), pk_us]
theorem psh_4 {st d a b k p s} : psh st d a b k p s (5 * d + 4) = s := by unfold psh; rw [pk_us]
theorem psh_lt {st d a b k p s} {j : Nat} (h : j < 5 * d) : psh st d a b k p s j = st j := by unfold psh; rw [pk_un (by omega), pk_un (by omega), pk_un (by omega), pk_un (by omega), pk_un (by omega)]
/-- a span on the stack -/
def onS (st : Nat → Int32) (d lo hi c k : Nat) : Prop := st (5 * d) = nI lo ∧ st (5 * d + 1) = nI hi ∧ st (5 * d + 2) = nI k ∧ st (5 * d + 3) = par c ∧ st (5 * d + 4) = sid c
theorem onS_psh {st d lo hi c k} {p s : Int32} (hp : p = par c) (hs : s = sid c) : onS (psh st d (nI lo) (nI hi) (nI k) p s) d lo hi c k := ⟨psh_0, psh_1, psh_2, by rw [psh_3, hp], by rw [psh_4, hs]⟩
theorem onS_lt {st st' d lo hi c k} (h : onS st d lo hi c k) (he : ∀ j, j < 5 * d + 5 → st' j = st j) : onS st' d lo hi c k := by
  obtain ⟨a, b, e, f, g⟩ := h
  exact ⟨by rw [he _ (by omega), a], by rw [he _ (by omega), b], by rw [he _ (by omega), e], by rw [he _ (by omega), f], by rw [he _ (by omega), g]⟩
abbrev Ar : Type := Nat → Int32
abbrev RO : Type := Option (Ar × Ar × Ar × Ar × Ar × Ar)
theorem m_un_b373 {F lo q S k d v3 : Nat} {v1 : Int32} {hO lO pO pre sO st : Ar} {Kc : Int32 → Int32 → Ar → Ar → Ar → Ar → Ar → Ar → RO} {X : Ar → Ar → Ar → Ar → Ar → Ar → RO} (hq : q < 10) (hl : lo ≤ q) (hd : d < 12) (hk : k < 2 ^ 31) (hS : 0 < S) (hS2 : S < 2 ^ 31) :
    f_X8_unrank_b373 F v1 (nI v3) (nI d) (nI lo) (nI k) (nI q) (nI S) hO lO pO pre sO st Kc X = if lo < q then Kc (nI v3) (nI (d + 1)) hO lO pO pre sO (psh st d (nI lo) (nI q) (nI (k / S)) (nI q) (nI 0)) else Kc (nI v3) (nI d) hO lO pO pre sO st := by
  unfold f_X8_unrank_b373
  by_cases h : lo < q
  · rw [if_neg (nI_ge h (by omega)), if_pos h, k5, pk_mul, k1, k2, k3, k4, nI_add, nI_add, nI_add, nI_add, gar_n (by omega) (by omega), gar_n (by omega) (by omega), gnz_ok (fun z => by have := (nI_eq (by omega) (by omega)).mp (z.trans k0); omega), gar_n (by omega) (by omega), gar_n (by omega) (by omega), gar_n (by omega) (by omega), nI_clamp (by omega), nI_clamp (by omega), nI_clamp (by omega), nI_clamp (by omega), nI_clamp (by omega), pk_div hk hS hS2, nI_add, k0]
    rfl
  · rw [if_pos (nI_le (by omega) (by omega)), if_neg h]
