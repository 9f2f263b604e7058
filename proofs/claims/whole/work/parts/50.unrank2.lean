/-! 50: the reference's tree of a rank, whole -/
theorem m_un_top {F K n lo hi c k : Nat} {v3 v4 : Int32} {fl : Nat → FL} {pr as sA mp ma now tr : Nat → Int32} {sy : Nat → Nat} {D : PT} {X : Int32 → Int32 → RO} (hF : 12 < F) (hK : K ≤ 6) (hN : NowF now fl K) (hE : ExM pr as sy n sA mp ma) (hn : n ≤ 10) (hc : c ≤ 2 * n) (hlo : lo < hi) (hhi : hi ≤ n) (ht : TabQ tr (Pk pr as sy fl K) D n (fun _ _ => True)) (hv2 : k < tsum (Cc (Pk pr as sy fl K) D lo hi) (okc (Pk pr as sy fl K) c) lo (hi - lo)) (hk : k ≤ 16796) :
    f_X8_unrank_l172 F (nI K) v3 v4 (nI lo) (nI hi) (par c) (sid c) ma now mp sA tr F (nI k) (nI lo) (nI (tG (Pk pr as sy fl K) D lo hi c lo)) X = X (nI (tK (Pk pr as sy fl K) D lo hi c k)) (nI (tQ (Pk pr as sy fl K) D lo hi c k)) :=
  m_un_l172 hF hK hN hE hn hc hhi ht (hi - lo) lo k F X (Nat.le_refl _) (by omega) hv2 (by omega) hk
theorem m_un_b170 {F K n lo hi c k d v3 : Nat} {fl : Nat → FL} {pr as sA mp ma now tr : Nat → Int32} {sy : Nat → Nat} {D : PT} {hO lO pO pre sO st : Ar} {Kc : Int32 → Int32 → Ar → Ar → Ar → Ar → Ar → Ar → RO} {X : Ar → Ar → Ar → Ar → Ar → Ar → RO} (hF : 12 < F) (hK : K ≤ 6) (hN : NowF now fl K) (hE : ExM pr as sy n sA mp ma) (hn : n ≤ 10) (hc : c ≤ 2 * n) (hlo : lo < hi) (hhi : hi ≤ n) (ht : TabQ tr (Pk pr as sy fl K) D n (fun _ _ => True)) (hv : VT (Pk pr as sy fl K) D lo hi c k) (hd : d < 12) (hv3 : v3 < 10) :
    f_X8_unrank_b170 F (nI K) (nI v3) (nI d) (nI lo) (nI hi) (nI k) (par c) (sid c) (nI lo) (nI (tG (Pk pr as sy fl K) D lo hi c lo)) ma hO lO now pO pre mp sO st sA tr Kc X =
      (if tQ (Pk pr as sy fl K) D lo hi c k + 1 < hi then f_X8_unrank_b373 F (nI K) (nI (v3 + 1)) (nI (d + 1)) (nI lo) (nI (tK (Pk pr as sy fl K) D lo hi c k)) (nI (tQ (Pk pr as sy fl K) D lo hi c k)) (nI (tS (Pk pr as sy fl K) D lo hi c k)) (upd hO (tQ (Pk pr as sy fl K) D lo hi c k) (nI hi)) (upd lO (tQ (Pk pr as sy fl K) D lo hi c k) (nI lo)) (upd pO (tQ (Pk pr as sy fl K) D lo hi c k) (par c)) (upd pre v3 (nI (tQ (Pk pr as sy fl K) D lo hi c k))) (upd sO (tQ (Pk pr as sy fl K) D lo hi c k) (sid c)) (psh st d (nI (tQ (Pk pr as sy fl K) D lo hi c k + 1)) (nI hi) (nI (tR (Pk pr as sy fl K) D lo hi c k)) (nI (tQ (Pk pr as sy fl K) D lo hi c k)) (nI 1)) Kc X
      else f_X8_unrank_b373 F (nI K) (nI (v3 + 1)) (nI d) (nI lo) (nI (tK (Pk pr as sy fl K) D lo hi c k)) (nI (tQ (Pk pr as sy fl K) D lo hi c k)) (nI (tS (Pk pr as sy fl K) D lo hi c k)) (upd hO (tQ (Pk pr as sy fl K) D lo hi c k) (nI hi)) (upd lO (tQ (Pk pr as sy fl K) D lo hi c k) (nI lo)) (upd pO (tQ (Pk pr as sy fl K) D lo hi c k) (par c)) (upd pre v3 (nI (tQ (Pk pr as sy fl K) D lo hi c k))) (upd sO (tQ (Pk pr as sy fl K) D lo hi c k) (sid c)) st Kc X) := by
  obtain ⟨b1, b2, b3, b4, b5, b6, b7, b8⟩ := vt_all hlo hv
  have hk : k ≤ 16796 := by
    have := Sc_le (P := Pk pr as sy fl K) (D := D) (lo := lo) (hi := hi) (ok := okc (Pk pr as sy fl K) c) (by omega) (by omega)
    unfold VT at hv
    omega
  have hv2 : k < tsum (Cc (Pk pr as sy fl K) D lo hi) (okc (Pk pr as sy fl K) c) lo (hi - lo) := by
    unfold VT Sc Sf at hv
    rw [if_pos hlo] at hv
    exact hv
  have hS2 : tS (Pk pr as sy fl K) D lo hi c k ≤ 16796 := Sc_le (by omega) (by omega)
  have hK2 : tK (Pk pr as sy fl K) D lo hi c k ≤ 16796 := Nat.le_trans (Nat.le_of_lt b6) (Cc_le (by omega) b1 b2)
  unfold f_X8_unrank_b170
  rw [m_un_top hF hK hN hE hn hc hlo hhi ht hv2 hk]
  show (gar (nI v3) 10 (gar (nI (tQ (Pk pr as sy fl K) D lo hi c k)) 10 _)) = _
  rw [gar_n hv3 (by omega), gar_n (by omega) (by omega), gar_n (by omega) (by omega), gar_n (by omega) (by omega), gar_n (by omega) (by omega)]
  show ((f_X8_below F (nI K) (nI (tQ (Pk pr as sy fl K) D lo hi c k) + 1) (nI hi) (nI (tQ (Pk pr as sy fl K) D lo hi c k)) 1 ma now mp sA tr).bind _) = _
  rw [nI_clamp (show tQ (Pk pr as sy fl K) D lo hi c k < 2 ^ 31 by omega), nI_clamp (show v3 < 2 ^ 31 by omega), k1, nI_add, nI_add, m_below hF hK hN hE hn (show tQ (Pk pr as sy fl K) D lo hi c k < n by omega) (show 1 < 2 by omega) (show tQ (Pk pr as sy fl K) D lo hi c k + 1 ≤ hi by omega) hhi (fun r r1 r2 => ht (tQ (Pk pr as sy fl K) D lo hi c k + 1) hi r r1 r2 hhi trivial), Option.bind_some]
  show (if nI hi ≤ nI (tQ (Pk pr as sy fl K) D lo hi c k + 1) then _ else (gar (5 * nI d) 60 (gar ((5 * nI d) + nI 1) 60 (gnz (nI (tS (Pk pr as sy fl K) D lo hi c k)) 0 _)))) = _
  by_cases h : tQ (Pk pr as sy fl K) D lo hi c k + 1 < hi
  · rw [if_neg (nI_ge h (by omega)), if_pos h, k5, pk_mul, k2, k3, k4, nI_add, nI_add, nI_add, nI_add, nI_add, gar_n (by omega) (by omega), gar_n (by omega) (by omega), gnz_ok (fun z => by have := (nI_eq (by omega) (by omega)).mp (z.trans k0); omega), gar_n (by omega) (by omega), gar_n (by omega) (by omega), gar_n (by omega) (by omega), nI_clamp (by omega), nI_clamp (by omega), nI_clamp (by omega), nI_clamp (by omega), nI_clamp (by omega)]
    show f_X8_unrank_b373 F (nI K) (nI (v3 + 1)) (nI (d + 1)) (nI lo) (nI (tK (Pk pr as sy fl K) D lo hi c k)) _ _ _ _ _ _ _ (upd (upd (upd (upd (upd st (5 * d) _) _ _) _ (nI (tK (Pk pr as sy fl K) D lo hi c k) - nI (tK (Pk pr as sy fl K) D lo hi c k) / nI (tS (Pk pr as sy fl K) D lo hi c k) * nI (tS (Pk pr as sy fl K) D lo hi c k))) _ _) _ _) Kc X = _
    rw [pk_rem (by omega) b5 (by omega)]
    rfl
  · rw [if_pos (nI_le (by omega) (by omega)), if_neg h]
    rfl
def UNp (P D : PT) (f lo hi c k v3 : Nat) (hO lO pO pre sO hO' lO' pO' pre' sO' : Ar) : Prop :=
  (∀ q, lo ≤ q → q < hi → hO' q = nI (nd P D f lo hi c k q).2.1 ∧ lO' q = nI (nd P D f lo hi c k q).1 ∧ pO' q = par (nd P D f lo hi c k q).2.2.1 ∧ sO' q = sid (nd P D f lo hi c k q).2.2.1) ∧ (∀ q, ¬ (lo ≤ q ∧ q < hi) → hO' q = hO q ∧ lO' q = lO q ∧ pO' q = pO q ∧ sO' q = sO q) ∧ (∀ i, i < hi - lo → pre' (v3 + i) = nI (pw P D f lo hi c k i)) ∧ (∀ j, ¬ (v3 ≤ j ∧ j < v3 + (hi - lo)) → pre' j = pre j)
theorem m_un {F K n : Nat} {fl : Nat → FL} {pr as sA mp ma now tr : Nat → Int32} {sy : Nat → Nat} {D : PT} {X : Ar → Ar → Ar → Ar → Ar → Ar → RO} (hF : 12 < F) (hK : K ≤ 6) (hN : NowF now fl K) (hE : ExM pr as sy n sA mp ma) (hn : n ≤ 10) (ht : TabQ tr (Pk pr as sy fl K) D n (fun _ _ => True)) : ∀ (f lo hi c k d v3 N : Nat) (hO lO pO pre sO st : Ar), hi - lo ≤ f → lo ≤ hi → hi ≤ n → c ≤ 2 * n → VT (Pk pr as sy fl K) D lo hi c k → d + (hi - lo) ≤ 11 → v3 + (hi - lo) ≤ 10 → (lo < hi → onS st d lo hi c k) →
    ∃ hO' lO' pO' pre' sO' st', f_X8_unrank_l58 F (nI K) ma now mp sA tr (N + (hi - lo)) (nI v3) (nI (if lo < hi then d + 1 else d)) hO lO pO pre sO st X = f_X8_unrank_l58 F (nI K) ma now mp sA tr N (nI (v3 + (hi - lo))) (nI d) hO' lO' pO' pre' sO' st' X ∧ UNp (Pk pr as sy fl K) D f lo hi c k v3 hO lO pO pre sO hO' lO' pO' pre' sO' ∧ (∀ j, j < 5 * d → st' j = st j) := by
  intro f
  have empty : ∀ (f lo hi c k d v3 N : Nat) (hO lO pO pre sO st : Ar), ¬ lo < hi → lo ≤ hi → ∃ hO' lO' pO' pre' sO' st', f_X8_unrank_l58 F (nI K) ma now mp sA tr (N + (hi - lo)) (nI v3) (nI (if lo < hi then d + 1 else d)) hO lO pO pre sO st X = f_X8_unrank_l58 F (nI K) ma now mp sA tr N (nI (v3 + (hi - lo))) (nI d) hO' lO' pO' pre' sO' st' X ∧ UNp (Pk pr as sy fl K) D f lo hi c k v3 hO lO pO pre sO hO' lO' pO' pre' sO' ∧ (∀ j, j < 5 * d → st' j = st j) := by
    intro f lo hi c k d v3 N hO lO pO pre sO st h h2
    rw [if_neg h, show hi - lo = 0 by omega]
    exact ⟨hO, lO, pO, pre, sO, st, rfl, ⟨fun q q1 q2 => by omega, fun q _ => ⟨rfl, rfl, rfl, rfl⟩, fun i hi => by omega, fun j _ => rfl⟩, fun j _ => rfl⟩
  induction f with
  | zero => intro lo hi c k d v3 N hO lO pO pre sO st h1 h2; intros; exact empty 0 lo hi c k d v3 N hO lO pO pre sO st (by omega) h2
  | succ f ih =>
    intro lo hi c k d v3 N hO lO pO pre sO st h1 h2 h3 h4 h5 h6 h7 h8
    by_cases hl : lo < hi
    · obtain ⟨s0, s1, s2, s3, s4⟩ := h8 hl
      obtain ⟨b1, b2, b3, b4, b5, b6, b7, b8⟩ := vt_all hl h5
      have hS2 : tS (Pk pr as sy fl K) D lo hi c k ≤ 16796 := Sc_le (by omega) (by omega)
      have hK2 : tK (Pk pr as sy fl K) D lo hi c k ≤ 16796 := Nat.le_trans (Nat.le_of_lt b6) (Cc_le (by omega) b1 b2)
      have hz := m_un_b170 (v3 := v3) (d := d) (hO := hO) (lO := lO) (pO := pO) (pre := pre) (sO := sO) (st := st) (Kc := fun v3 v4 md_highOf md_lowOf md_parentOf md_preorder md_sideOf md_stack => f_X8_unrank_l58 F (nI K) ma now mp sA tr (N + (hi - lo) - 1) v3 v4 md_highOf md_lowOf md_parentOf md_preorder md_sideOf md_stack X) (X := X) hF hK hN hE hn h4 hl h3 ht h5 (by omega) (by omega)
      have hgo : f_X8_unrank_l58 F (nI K) ma now mp sA tr (N + (hi - lo)) (nI v3) (nI (d + 1)) hO lO pO pre sO st X = f_X8_unrank_b170 F (nI K) (nI v3) (nI d) (nI lo) (nI hi) (nI k) (par c) (sid c) (nI lo) (nI (tG (Pk pr as sy fl K) D lo hi c lo)) ma hO lO now pO pre mp sO st sA tr (fun v3 v4 md_highOf md_lowOf md_parentOf md_preorder md_sideOf md_stack => f_X8_unrank_l58 F (nI K) ma now mp sA tr (N + (hi - lo) - 1) v3 v4 md_highOf md_lowOf md_parentOf md_preorder md_sideOf md_stack X) X := by
        rw [show N + (hi - lo) = (N + (hi - lo) - 1) + 1 by omega, f_X8_unrank_l58, if_neg (nI_nle (by omega) (by omega)), nI_dec, k5, pk_mul, k1, k2, k3, k4, nI_add, nI_add, nI_add, nI_add, gar_n (by omega) (by omega), gar_n (by omega) (by omega), gar_n (by omega) (by omega), gar_n (by omega) (by omega), gar_n (by omega) (by omega), nI_clamp (show 5 * d < 2 ^ 31 by omega), nI_clamp (show 5 * d + 1 < 2 ^ 31 by omega), nI_clamp (show 5 * d + 2 < 2 ^ 31 by omega), nI_clamp (show 5 * d + 3 < 2 ^ 31 by omega), nI_clamp (show 5 * d + 4 < 2 ^ 31 by omega), s0, s1, s2, s3, s4, m_mayStand hF hK hN hE hn (show lo < n by omega) h4, Option.bind_some, bI_ite, eSp, eIx, gar_n (by omega) (by omega), nI_clamp (by omega), ht lo hi lo (Nat.le_refl _) hl h3 trivial]
        rw [show tG (Pk pr as sy fl K) D lo hi c lo = if okc (Pk pr as sy fl K) c lo then Cc (Pk pr as sy fl K) D lo hi lo else 0 from rfl]
        cases okc (Pk pr as sy fl K) c lo with
        | true => simp only [if_true]; rfl
        | false => simp only [Bool.false_eq_true, if_false]; rw [← k0]; rfl
      rw [if_pos hl, hgo, hz]
      generalize hq : tQ (Pk pr as sy fl K) D lo hi c k = q at b1 b2 b3 b4 b6 b7 b8 ⊢
      -- both children
      have both : ∀ (st1 : Ar), (∀ j, j < 5 * d → st1 j = st j) → (q + 1 < hi → onS st1 d (q + 1) hi (2 + 2 * q) (tR (Pk pr as sy fl K) D lo hi c k)) → ∀ d1, d1 = (if q + 1 < hi then d + 1 else d) →
          ∃ hO' lO' pO' pre' sO' st', f_X8_unrank_b373 F (nI K) (nI (v3 + 1)) (nI d1) (nI lo) (nI (tK (Pk pr as sy fl K) D lo hi c k)) (nI q) (nI (tS (Pk pr as sy fl K) D lo hi c k)) (upd hO q (nI hi)) (upd lO q (nI lo)) (upd pO q (par c)) (upd pre v3 (nI q)) (upd sO q (sid c)) st1 (fun v3 v4 md_highOf md_lowOf md_parentOf md_preorder md_sideOf md_stack => f_X8_unrank_l58 F (nI K) ma now mp sA tr (N + (hi - lo) - 1) v3 v4 md_highOf md_lowOf md_parentOf md_preorder md_sideOf md_stack X) X = f_X8_unrank_l58 F (nI K) ma now mp sA tr N (nI (v3 + (hi - lo))) (nI d) hO' lO' pO' pre' sO' st' X ∧ UNp (Pk pr as sy fl K) D (f + 1) lo hi c k v3 hO lO pO pre sO hO' lO' pO' pre' sO' ∧ (∀ j, j < 5 * d → st' j = st j) := by
        intro st1 hst1 hon1 d1 hd1
        have hd1' : d1 ≤ d + 1 ∧ d ≤ d1 ∧ (q + 1 < hi → d1 = d + 1) := by
          rw [hd1]
          by_cases z : q + 1 < hi
          · rw [if_pos z]; omega
          · rw [if_neg z]; omega
        rw [m_un_b373 (show q < 10 by omega) b1 (show d1 < 12 by omega) (by omega) b5 (by omega)]
        -- the left child's place
        have left : ∀ st2 : Ar, (∀ j, j < 5 * d1 → st2 j = st1 j) → (lo < q → onS st2 d1 lo q (1 + 2 * q) (tL (Pk pr as sy fl K) D lo hi c k)) →
            ∃ hO' lO' pO' pre' sO' st', f_X8_unrank_l58 F (nI K) ma now mp sA tr (N + (hi - lo) - 1) (nI (v3 + 1)) (nI (if lo < q then d1 + 1 else d1)) (upd hO q (nI hi)) (upd lO q (nI lo)) (upd pO q (par c)) (upd pre v3 (nI q)) (upd sO q (sid c)) st2 X = f_X8_unrank_l58 F (nI K) ma now mp sA tr N (nI (v3 + (hi - lo))) (nI d) hO' lO' pO' pre' sO' st' X ∧ UNp (Pk pr as sy fl K) D (f + 1) lo hi c k v3 hO lO pO pre sO hO' lO' pO' pre' sO' ∧ (∀ j, j < 5 * d → st' j = st j) := by
          intro st2 hst2 hon2
          obtain ⟨hO1, lO1, pO1, pre1, sO1, st3, e1, ⟨u1, u2, u3, u4⟩, e3⟩ := ih lo q (1 + 2 * q) (tL (Pk pr as sy fl K) D lo hi c k) d1 (v3 + 1) (N + (hi - (q + 1))) (upd hO q (nI hi)) (upd lO q (nI lo)) (upd pO q (par c)) (upd pre v3 (nI q)) (upd sO q (sid c)) st2 (by omega) b1 (by omega) (by omega) b7 (by
            by_cases z : q + 1 < hi
            · omega
            · have : d1 = d := by rw [hd1, if_neg z]
              omega) (by omega) hon2
          obtain ⟨hO2, lO2, pO2, pre2, sO2, st4, f1, ⟨w1, w2, w3, w4⟩, f3⟩ := ih (q + 1) hi (2 + 2 * q) (tR (Pk pr as sy fl K) D lo hi c k) d (v3 + 1 + (q - lo)) N hO1 lO1 pO1 pre1 sO1 st3 (by omega) (by omega) h3 (by omega) b8 (by omega) (by omega) (fun z => onS_lt (hon1 z) (fun j hj => by
            have := hd1'.2.2 z
            rw [e3 j (by omega), hst2 j (by omega)]))
          rw [show N + (hi - lo) - 1 = N + (hi - (q + 1)) + (q - lo) by omega, e1, hd1, f1, show v3 + 1 + (q - lo) + (hi - (q + 1)) = v3 + (hi - lo) by omega]
          refine ⟨hO2, lO2, pO2, pre2, sO2, st4, rfl, ⟨fun x x1 x2 => ?_, fun x hx => ?_, fun i hi' => ?_, fun j hj => ?_⟩, fun j hj => by rw [f3 j hj, e3 j (by omega), hst2 j (by omega), hst1 j hj]⟩
          · rw [nd, hq]
            by_cases y : x = q
            · subst y
              rw [if_pos rfl]
              obtain ⟨y1, y2, y3, y4⟩ := w2 x (by omega)
              obtain ⟨y5, y6, y7, y8⟩ := u2 x (by omega)
              rw [y1, y2, y3, y4, y5, y6, y7, y8, pk_us, pk_us, pk_us, pk_us]
              exact ⟨rfl, rfl, rfl, rfl⟩
            · rw [if_neg y]
              by_cases y' : x < q
              · rw [if_pos y']
                obtain ⟨y1, y2, y3, y4⟩ := w2 x (by omega)
                rw [y1, y2, y3, y4]
                exact u1 x x1 y'
              · rw [if_neg y']
                exact w1 x (by omega) x2
          · obtain ⟨y1, y2, y3, y4⟩ := w2 x (by omega)
            obtain ⟨y5, y6, y7, y8⟩ := u2 x (by omega)
            have y9 : x ≠ q := by omega
            rw [y1, y2, y3, y4, y5, y6, y7, y8, pk_un y9, pk_un y9, pk_un y9, pk_un y9]
            exact ⟨rfl, rfl, rfl, rfl⟩
          · rw [pw, hq]
            by_cases y : i = 0
            · rw [if_pos y, w4 _ (by omega), u4 _ (by omega), y, Nat.add_zero, pk_us]
            · rw [if_neg y]
              by_cases y' : i - 1 < q - lo
              · rw [if_pos y', w4 _ (by omega)]
                have := u3 (i - 1) y'
                rw [show v3 + 1 + (i - 1) = v3 + i by omega] at this
                exact this
              · rw [if_neg y']
                have := w3 (i - 1 - (q - lo)) (by omega)
                rw [show v3 + 1 + (q - lo) + (i - 1 - (q - lo)) = v3 + i by omega] at this
                exact this
          · rw [w4 j (by omega), u4 j (by omega), pk_un (by omega)]
        by_cases z : lo < q
        · rw [if_pos z]
          have e := left (psh st1 d1 (nI lo) (nI q) (nI (tK (Pk pr as sy fl K) D lo hi c k / tS (Pk pr as sy fl K) D lo hi c k)) (nI q) (nI 0)) (fun j hj => psh_lt hj) (fun _ => onS_psh (par_l q).symm (sid_l q).symm)
          rw [if_pos z] at e
          exact e
        · rw [if_neg z]
          have e := left st1 (fun _ _ => rfl) (fun y => absurd y z)
          rw [if_neg z] at e
          exact e
      by_cases z : q + 1 < hi
      · rw [if_pos z]
        exact both _ (fun j hj => psh_lt hj) (fun _ => onS_psh (par_r q).symm (sid_r q).symm) (d + 1) (by rw [if_pos z])
      · rw [if_neg z]
        exact both st (fun _ _ => rfl) (fun y => absurd y z) d (by rw [if_neg z])
    · exact empty (f + 1) lo hi c k d v3 N hO lO pO pre sO st hl h2
