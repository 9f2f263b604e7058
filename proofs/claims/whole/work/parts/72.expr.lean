/-! 72: the expr statement, on both sides -/
def DP (cpr cas rp ra : Ar) : Prop := ∀ t, t < 9 → (cpr t = -1 ∧ rp t = -4) ∨ (∃ d z, d < 10 ∧ z < 3 ∧ cpr t = nI d ∧ rp t = nI d ∧ cas t = nI z ∧ ra t = nI z)
def XL (n : Nat) (cle ro : Ar) : Prop := ∀ i, i ≤ n → ∃ z, z < 26 ∧ cle i = nI z ∧ ro i = nI z
def XS (n : Nat) (csA rs cpr : Ar) : Prop := ∀ i, i < n → ∃ t, t < 9 ∧ csA i = nI t ∧ rs i = nI t ∧ ¬ cpr t = -1
theorem DP.iff {cpr cas rp ra : Ar} (h : DP cpr cas rp ra) {t : Nat} (ht : t < 9) : cpr t = -1 ↔ rp t = -4 := by
  rcases h t ht with ⟨h1, h2⟩ | ⟨d, z, h1, h2, h3, h4, -⟩
  · exact ⟨fun _ => h2, fun _ => h1⟩
  · rw [h3, h4]
    exact ⟨fun y => absurd y (nI_not_m1 d (by omega)), fun y => absurd y (nI_not_m4 d (by omega))⟩
def ltr (z : Nat) : Prop := 97 ≤ z ∧ z ≤ 122
theorem m_putOpd {F j z : Nat} {le : Ar} (hj : j < 11) (hz : z < 127) : (ltr z → f_X4_putOperand F (nI j) (nI z) le = some (1, upd le j (nI (z - 97)))) ∧ (¬ ltr z → f_X4_putOperand F (nI j) (nI z) le = some (0, le)) := by
  unfold f_X4_putOperand ltr
  rw [show (97 : Int32) = nI 97 by decide, show (122 : Int32) = nI 122 by decide]
  by_cases h1 : 97 ≤ z
  · rw [if_neg (nI_nlt h1 (by omega))]
    by_cases h2 : z ≤ 122
    · rw [if_pos (nI_le h2 (by omega)), gar_n hj (by omega), nI_clamp (by omega), pk_sub h1]
      exact ⟨fun _ => rfl, fun y => absurd ⟨h1, h2⟩ y⟩
    · rw [if_neg (nI_ge (by omega) (by omega))]
      exact ⟨fun y => by omega, fun _ => rfl⟩
  · rw [if_pos (nI_lt (by omega) (by omega))]
    exact ⟨fun y => by omega, fun _ => rfl⟩
def symOk (z : Nat) (pr : Ar) (w : Int32) : Prop := syz z < 9 ∧ ¬ pr (syz z) = w
theorem m_putOpr {F j z : Nat} {pr sA : Ar} (hI : IdxOk F) (hj : j < 10) (hz : z < 127) : (symOk z pr (-1) → f_X4_putOperator F (nI j) (nI z) pr sA = some (1, upd sA j (nI (syz z)))) ∧ (¬ symOk z pr (-1) → f_X4_putOperator F (nI j) (nI z) pr sA = some (0, sA)) := by
  unfold f_X4_putOperator f_X4_isDeclared
  rw [hI.1 z hz, Option.bind_some]
  by_cases h1 : syz z < 9
  · rw [syI_ok _ _ h1, if_neg (Int32.not_lt.mpr (nI_pos' (by omega))), gar_n h1 (by omega), nI_clamp (by omega)]
    by_cases h2 : pr (syz z) = -1
    · rw [if_pos h2, Option.bind_some, if_pos rfl]
      exact ⟨fun y => absurd h2 y.2, fun _ => rfl⟩
    · rw [if_neg h2, Option.bind_some, if_neg (show ¬ (1 : Int32) = 0 by decide), gar_n hj (by omega), nI_clamp (by omega)]
      exact ⟨fun _ => rfl, fun y => absurd ⟨h1, h2⟩ y⟩
  · rw [syI_m1 _ _ h1, if_pos (show (-1 : Int32) < 0 by decide)]
    exact ⟨fun y => absurd y.1 h1, fun _ => rfl⟩
theorem m_cl_odd {F p g v L m : Nat} {te md cpr le sA : Ar} {so : Int32} {X : Ar → Ar → Option (Int32 × Ar × Int32 × Ar)} (hT : TK L te md) (hI : IdxOk F) (hg : g ≤ 21) (hp : p + g ≤ L) (hv : 2 * v + 1 < g) :
    (symOk (zz md L (p + (2 * v + 1))) cpr (-1) → f_X5_parseExpression_l31 F (nI p) (nI g) so cpr te (m + 1) (nI (2 * v + 1)) le sA X = f_X5_parseExpression_l31 F (nI p) (nI g) so cpr te m (nI (2 * (v + 1))) le (upd sA v (nI (syz (zz md L (p + (2 * v + 1)))))) X) ∧
    (¬ symOk (zz md L (p + (2 * v + 1))) cpr (-1) → f_X5_parseExpression_l31 F (nI p) (nI g) so cpr te (m + 1) (nI (2 * v + 1)) le sA X = some (0, le, so, sA)) := by
  have hL := hT.1
  rw [f_X5_parseExpression_l31, if_neg (nI_ge hv (by omega)), nI_add, gar_n (by omega) (by omega), k2, pk_rem (by omega) (by omega) (by omega), show (2 * v + 1) % 2 = 1 by omega, if_neg (show ¬ nI 1 = 0 by decide), pk_div (by omega) (by omega) (by omega), show (2 * v + 1) / 2 = v by omega, nI_clamp (by omega), te_zz hT (show p + (2 * v + 1) < L by omega)]
  obtain ⟨a1, a2⟩ := m_putOpr (F := F) (pr := cpr) (sA := sA) (z := zz md L (p + (2 * v + 1))) hI (show v < 10 by omega) (zz_lt hT _)
  constructor
  · intro y
    rw [a1 y, Option.bind_some]
    unfold f_X5_parseExpression_b79
    rw [if_neg (show ¬ (1 : Int32) = 0 by decide), nI_1, show 2 * v + 1 + 1 = 2 * (v + 1) by omega]
  · intro y
    rw [a2 y, Option.bind_some]
    unfold f_X5_parseExpression_b79
    rw [if_pos rfl]
theorem m_cl_even {F p g w L m : Nat} {te md cpr le sA : Ar} {so : Int32} {X : Ar → Ar → Option (Int32 × Ar × Int32 × Ar)} (hT : TK L te md) (hg : g ≤ 21) (hp : p + g ≤ L) (hv : 2 * w < g) :
    (ltr (zz md L (p + 2 * w)) → f_X5_parseExpression_l31 F (nI p) (nI g) so cpr te (m + 1) (nI (2 * w)) le sA X = f_X5_parseExpression_l31 F (nI p) (nI g) so cpr te m (nI (2 * w + 1)) (upd le w (nI (zz md L (p + 2 * w) - 97))) sA X) ∧
    (¬ ltr (zz md L (p + 2 * w)) → f_X5_parseExpression_l31 F (nI p) (nI g) so cpr te (m + 1) (nI (2 * w)) le sA X = some (0, le, so, sA)) := by
  have hL := hT.1
  rw [f_X5_parseExpression_l31, if_neg (nI_ge hv (by omega)), nI_add, gar_n (by omega) (by omega), k2, pk_rem (by omega) (by omega) (by omega), show (2 * w) % 2 = 0 by omega, if_pos (show nI 0 = 0 by decide), pk_div (by omega) (by omega) (by omega), show (2 * w) / 2 = w by omega, nI_clamp (by omega), te_zz hT (show p + 2 * w < L by omega)]
  obtain ⟨a1, a2⟩ := m_putOpd (F := F) (le := le) (z := zz md L (p + 2 * w)) (show w < 11 by omega) (zz_lt hT _)
  constructor
  · intro y
    rw [a1 y, Option.bind_some]
    unfold f_X5_parseExpression_b79
    rw [if_neg (show ¬ (1 : Int32) = 0 by decide), nI_1]
  · intro y
    rw [a2 y, Option.bind_some]
    unfold f_X5_parseExpression_b79
    rw [if_pos rfl]
theorem m_rf_t {F L v at' m : Nat} {te md rp ro rs : Ar} {rn : Int32} {Y : Int32 → Int32 → Ar → Ar → Option (Int32 × Int32 × Ar × Int32 × Ar)} (hT : TK L te md) (ha : at' < 1000) (hz : ¬ zz md L at' = 59) (hv : v < 10) (h1 : symOk (zz md L at') rp (-4)) (h2 : ltr (zz md L (at' + 1))) : f_X8_readExpression_l75 F rn rp md (nI L) (m + 1) (nI v) (nI at') ro rs Y = f_X8_readExpression_l75 F rn rp md (nI L) m (nI (v + 1)) (nI (at' + 2)) (upd ro (v + 1) (nI (zz md L (at' + 1) - 97))) (upd rs v (nI (syz (zz md L at')))) Y := by
  have hL := hT.1
  have hin : at' + 1 < L := zz_in (md := md) (by unfold ltr at h2; omega)
  rw [f_X8_readExpression_l75, show (59 : Int32) = nI 59 by decide, m_tk_f hT (by omega) (by omega) (by omega) hz, Option.bind_some, if_pos rfl]
  simp only []
  rw [m_chAt hT (by omega), Option.bind_some, m_symZ hT, Option.bind_some, syI_ok _ _ h1.1, if_neg (p4_ne (by have := h1.1; omega)), k10, if_neg (fun z => by have := (nI_eq (by omega) (by omega)).mp z; omega), if_pos (nI_pos' (by have := h1.1; omega))]
  unfold f_X8_readExpression_b121
  rw [gar_n h1.1 (by omega), nI_clamp (by have := h1.1; omega), if_neg h1.2, nI_1, m_isOpd hT (by omega), Option.bind_some, decide_eq_true (show 97 ≤ zz md L (at' + 1) ∧ zz md L (at' + 1) ≤ 122 from h2), bI_t, if_neg (show ¬ (1 : Int32) = 0 by decide), gar_n hv (by omega), gar_n (show at' + 1 < 200 by omega) (by omega), nI_1, gar_n (show v + 1 < 11 by omega) (by omega), nI_1, nI_clamp (by omega), nI_clamp (by omega), nI_clamp (by omega), md_zz hT hin, show (97 : Int32) = nI 97 by decide, pk_sub h2.1]
theorem m_rf_f {F L v at' m : Nat} {te md rp ro rs : Ar} {rn : Int32} {Y : Int32 → Int32 → Ar → Ar → Option (Int32 × Int32 × Ar × Int32 × Ar)} (hT : TK L te md) (ha : at' < 1000) (hz : ¬ zz md L at' = 59) (hv : v ≤ 10) (h : ¬ (v < 10 ∧ symOk (zz md L at') rp (-4) ∧ ltr (zz md L (at' + 1)))) : ∃ a b c d, f_X8_readExpression_l75 F rn rp md (nI L) (m + 1) (nI v) (nI at') ro rs Y = some (0, a, b, c, d) := by
  rw [f_X8_readExpression_l75, show (59 : Int32) = nI 59 by decide, m_tk_f hT (by omega) (by omega) (by omega) hz, Option.bind_some, if_pos rfl]
  simp only []
  rw [m_chAt hT (by omega), Option.bind_some, m_symZ hT, Option.bind_some]
  by_cases h1 : syz (zz md L at') < 9
  · rw [syI_ok _ _ h1, if_neg (p4_ne (by omega)), k10]
    by_cases hv2 : v = 10
    · rw [if_pos (by rw [hv2])]; exact ⟨_, _, _, _, rfl⟩
    · rw [if_neg (fun z => by have := (nI_eq (by omega) (by omega)).mp z; omega), if_pos (nI_pos' (by omega))]
      unfold f_X8_readExpression_b121
      rw [gar_n h1 (by omega), nI_clamp (by omega)]
      by_cases h2 : rp (syz (zz md L at')) = -4
      · rw [if_pos h2]; exact ⟨_, _, _, _, rfl⟩
      · rw [if_neg h2, nI_1, m_isOpd hT (by omega), Option.bind_some, decide_eq_false (show ¬ (97 ≤ zz md L (at' + 1) ∧ zz md L (at' + 1) ≤ 122) from fun z => h ⟨by omega, ⟨h1, h2⟩, z⟩), bI_f, if_pos rfl]
        exact ⟨_, _, _, _, rfl⟩
  · rw [syI_m1 _ _ h1, if_pos rfl]; exact ⟨_, _, _, _, rfl⟩
/-- the reference's loop fails where no statement ends at i, or where it ends at a wrong place -/
theorem m_exp_fail {F L i : Nat} {te md rp : Ar} {rn : Int32} {Y : Int32 → Int32 → Ar → Ar → Option (Int32 × Int32 × Ar × Int32 × Ar)} (hT : TK L te md) (hi : i ≤ 200) : ∀ (m v at' : Nat) (ro rs : Ar), at' ≤ i → i - at' < m → v ≤ 10 → (∀ q, at' ≤ q → q < i → ¬ zz md L q = 59) → ((L ≤ i) ∨ (i - at') % 2 = 1 ∨ 20 < i - at' + 2 * v) → (zz md L i = 59 ∨ L ≤ i) → ∃ a b c d, f_X8_readExpression_l75 F rn rp md (nI L) m (nI v) (nI at') ro rs Y = some (0, a, b, c, d) := by
  intro m
  induction m with
  | zero => intro v at' ro rs h1 h2; omega
  | succ m ih =>
    intro v at' ro rs h1 h2 h3 h4 h5 h6
    have hz : ¬ zz md L at' = 59 := by
      intro z
      have := zz_in (md := md) (L := L) (q := at') (by omega)
      rcases Nat.lt_or_ge at' i with e | e
      · exact h4 at' (Nat.le_refl _) e z
      · omega
    by_cases h : v < 10 ∧ symOk (zz md L at') rp (-4) ∧ ltr (zz md L (at' + 1))
    · rw [m_rf_t hT (by omega) hz h.1 h.2.1 h.2.2]
      have e1 := zz_in (md := md) (L := L) (q := at' + 1) (by have := h.2.2.1; omega)
      have e2 : ¬ at' + 1 = i := fun e => by
        rcases h6 with h6 | h6
        · rw [← e] at h6; have := h.2.2.1; omega
        · omega
      have e3 : ¬ at' = i := fun e => by
        rcases h6 with h6 | h6
        · rw [← e] at h6; exact hz h6
        · omega
      exact ih (v + 1) (at' + 2) _ _ (by omega) (by omega) (by omega) (fun q q1 q2 => h4 q (by omega) q2) (by omega) h6
    · exact m_rf_f hT (by omega) hz h3 h
theorem m_exp_loop {F L p i g : Nat} {te md cpr cas rp ra : Ar} {so rn : Int32} {X : Ar → Ar → Option (Int32 × Ar × Int32 × Ar)} {Y : Int32 → Int32 → Ar → Ar → Option (Int32 × Int32 × Ar × Int32 × Ar)} (hT : TK L te md) (hI : IdxOk F) (hD : DP cpr cas rp ra) (hg : g ≤ 21) (hpi : p + g = i) (hi : i < L) (h59 : zz md L i = 59) (hno : ∀ q, p ≤ q → q < i → ¬ zz md L q = 59) : ∀ (u v m1 m2 : Nat) (cle csA ro rs : Ar), g = 2 * v + 1 + 2 * u → 2 * u < m1 → u < m2 → XL v cle ro → XS v csA rs cpr →
    (∃ cle' csA' ro' rs', f_X5_parseExpression_l31 F (nI p) (nI g) so cpr te m1 (nI (2 * v + 1)) cle csA X = X cle' csA' ∧ f_X8_readExpression_l75 F rn rp md (nI L) m2 (nI v) (nI (p + (2 * v + 1))) ro rs Y = Y (nI (v + u)) (nI (i + 1)) ro' rs' ∧ XL (v + u) cle' ro' ∧ XS (v + u) csA' rs' cpr) ∨
    (∃ x1 x2 x3 y1 y2 y3 y4, f_X5_parseExpression_l31 F (nI p) (nI g) so cpr te m1 (nI (2 * v + 1)) cle csA X = some (0, x1, x2, x3) ∧ f_X8_readExpression_l75 F rn rp md (nI L) m2 (nI v) (nI (p + (2 * v + 1))) ro rs Y = some (0, y1, y2, y3, y4)) := by
  have hL := hT.1
  intro u
  induction u with
  | zero =>
    intro v m1 m2 cle csA ro rs h1 h2 h3 h4 h5
    obtain ⟨m1, rfl⟩ : ∃ z, m1 = z + 1 := ⟨m1 - 1, by omega⟩
    obtain ⟨m2, rfl⟩ : ∃ z, m2 = z + 1 := ⟨m2 - 1, by omega⟩
    left
    refine ⟨cle, csA, ro, rs, ?_, ?_, h4, h5⟩
    · rw [f_X5_parseExpression_l31, if_pos (nI_le (by omega) (by omega))]
    · rw [show p + (2 * v + 1) = i by omega, f_X8_readExpression_l75, show (59 : Int32) = nI 59 by decide, m_tk_t hT (by omega) (by omega) (by omega) h59, Option.bind_some, if_neg (show ¬ (1 : Int32) = 0 by decide)]
      rfl
  | succ u ih =>
    intro v m1 m2 cle csA ro rs h1 h2 h3 h4 h5
    obtain ⟨m1, rfl⟩ : ∃ z, m1 = z + 1 + 1 := ⟨m1 - 2, by omega⟩
    obtain ⟨m2, rfl⟩ : ∃ z, m2 = z + 1 := ⟨m2 - 1, by omega⟩
    have hz : ¬ zz md L (p + (2 * v + 1)) = 59 := hno _ (by omega) (by omega)
    obtain ⟨a1, a2⟩ := m_cl_odd (F := F) (v := v) (m := m1 + 1) (cpr := cpr) (le := cle) (sA := csA) (so := so) (X := X) hT hI hg (show p + g ≤ L by omega) (show 2 * v + 1 < g by omega)
    by_cases c1 : symOk (zz md L (p + (2 * v + 1))) cpr (-1)
    · have c2 : symOk (zz md L (p + (2 * v + 1))) rp (-4) := ⟨c1.1, fun z => c1.2 ((hD.iff c1.1).mpr z)⟩
      obtain ⟨b1, b2⟩ := m_cl_even (F := F) (w := v + 1) (m := m1) (cpr := cpr) (le := cle) (sA := upd csA v (nI (syz (zz md L (p + (2 * v + 1)))))) (so := so) (X := X) hT hg (show p + g ≤ L by omega) (show 2 * (v + 1) < g by omega)
      rw [a1 c1]
      by_cases c3 : ltr (zz md L (p + 2 * (v + 1)))
      · have c4 : ltr (zz md L (p + (2 * v + 1) + 1)) := by rw [show p + (2 * v + 1) + 1 = p + 2 * (v + 1) by omega]; exact c3
        rw [b1 c3, m_rf_t hT (by omega) hz (by omega) c2 c4]
        have key := ih (v + 1) m1 m2 (upd cle (v + 1) (nI (zz md L (p + 2 * (v + 1)) - 97))) (upd csA v (nI (syz (zz md L (p + (2 * v + 1)))))) (upd ro (v + 1) (nI (zz md L (p + (2 * v + 1) + 1) - 97))) (upd rs v (nI (syz (zz md L (p + (2 * v + 1)))))) (by omega) (by omega) (by omega) (fun j hj => ?_) (fun j hj => ?_)
        · rw [show p + (2 * (v + 1) + 1) = p + (2 * v + 1) + 2 by omega, show v + 1 + u = v + (u + 1) by omega] at key
          exact key
        · by_cases e : j = v + 1
          · subst e
            rw [pk_us, pk_us, show p + (2 * v + 1) + 1 = p + 2 * (v + 1) by omega]
            exact ⟨_, by have := c3.1; have := c3.2; omega, rfl, rfl⟩
          · rw [pk_un e, pk_un e]; exact h4 j (by omega)
        · by_cases e : j = v
          · subst e
            rw [pk_us, pk_us]
            exact ⟨_, c1.1, rfl, rfl, c1.2⟩
          · rw [pk_un e, pk_un e]; exact h5 j (by omega)
      · right
        rw [b2 c3]
        obtain ⟨y1, y2, y3, y4, e⟩ := m_rf_f (F := F) (m := m2) (v := v) (at' := p + (2 * v + 1)) (rp := rp) (ro := ro) (rs := rs) (rn := rn) (Y := Y) hT (by omega) hz (by omega) (fun z => c3 (by have := z.2.2; rw [show p + (2 * v + 1) + 1 = p + 2 * (v + 1) by omega] at this; exact this))
        exact ⟨_, _, _, _, _, _, _, rfl, e⟩
    · right
      rw [a2 c1]
      obtain ⟨y1, y2, y3, y4, e⟩ := m_rf_f (F := F) (m := m2) (v := v) (at' := p + (2 * v + 1)) (rp := rp) (ro := ro) (rs := rs) (rn := rn) (Y := Y) hT (by omega) hz (by omega) (fun z => c1 ⟨z.2.1.1, fun y => z.2.1.2 ((hD.iff z.2.1.1).mp y)⟩)
      exact ⟨_, _, _, _, _, _, _, rfl, e⟩
/-- the words behind the first letter -/
def xprOk (zf : Nat → Nat) (q : Nat) : Prop := zf q = 120 ∧ zf (q + 1) = 112 ∧ zf (q + 1 + 1) = 114 ∧ ltr (zf (q + 1 + 1 + 1))
theorem m_rexp_t {F L q : Nat} {te md rp ro rs : Ar} (hT : TK L te md) (hq : q < 1000) (h : xprOk (zz md L) q) : f_X8_readExpression F (nI q) ro (-4) rp rs md (nI L) = f_X8_readExpression_l75 F (-4) rp md (nI L) F (nI 0) (nI (q + 1 + 1 + 1 + 1)) (upd ro 0 (nI (zz md L (q + 1 + 1 + 1) - 97))) rs (fun v1 md_at md_readOperands md_readSymbols => (some (1, md_at, md_readOperands, v1, md_readSymbols))) := by
  have hL := hT.1
  obtain ⟨h1, h2, h3, h4⟩ := h
  have hin : q + 1 + 1 + 1 < L := zz_in (md := md) (by unfold ltr at h4; omega)
  unfold f_X8_readExpression
  rw [if_pos rfl, show (120 : Int32) = nI 120 by decide, m_tk_t hT (by omega) (by omega) (by omega) h1, Option.bind_some, if_neg (show ¬ (1 : Int32) = 0 by decide)]
  simp only []
  rw [show (112 : Int32) = nI 112 by decide, m_tk_t hT (by omega) (by omega) (by omega) h2, Option.bind_some, if_neg (show ¬ (1 : Int32) = 0 by decide)]
  simp only []
  rw [show (114 : Int32) = nI 114 by decide, m_tk_t hT (by omega) (by omega) (by omega) h3, Option.bind_some, if_neg (show ¬ (1 : Int32) = 0 by decide)]
  simp only []
  rw [m_isOpd hT (by omega), Option.bind_some, decide_eq_true (show 97 ≤ zz md L (q + 1 + 1 + 1) ∧ zz md L (q + 1 + 1 + 1) ≤ 122 from h4), bI_t, if_neg (show ¬ (1 : Int32) = 0 by decide), gar_n (by omega) (by omega), nI_1, nI_clamp (by omega), md_zz hT hin, show (97 : Int32) = nI 97 by decide, pk_sub h4.1, k0, gar_n (by omega) (by omega), nI_clamp (by omega)]
theorem m_rexp_f {F L q : Nat} {te md rp ro rs : Ar} {rn : Int32} (hT : TK L te md) (hq : q < 1000) (h : ¬ (rn = -4 ∧ xprOk (zz md L) q)) : ∃ a b c d, f_X8_readExpression F (nI q) ro rn rp rs md (nI L) = some (0, a, b, c, d) := by
  unfold f_X8_readExpression
  by_cases h0 : rn = -4
  · rw [if_pos h0, show (120 : Int32) = nI 120 by decide]
    by_cases h1 : zz md L q = 120
    · rw [m_tk_t hT (by omega) (by omega) (by omega) h1, Option.bind_some, if_neg (show ¬ (1 : Int32) = 0 by decide)]
      simp only []
      rw [show (112 : Int32) = nI 112 by decide]
      by_cases h2 : zz md L (q + 1) = 112
      · rw [m_tk_t hT (by omega) (by omega) (by omega) h2, Option.bind_some, if_neg (show ¬ (1 : Int32) = 0 by decide)]
        simp only []
        rw [show (114 : Int32) = nI 114 by decide]
        by_cases h3 : zz md L (q + 1 + 1) = 114
        · rw [m_tk_t hT (by omega) (by omega) (by omega) h3, Option.bind_some, if_neg (show ¬ (1 : Int32) = 0 by decide)]
          simp only []
          rw [m_isOpd hT (by omega), Option.bind_some, decide_eq_false (show ¬ (97 ≤ zz md L (q + 1 + 1 + 1) ∧ zz md L (q + 1 + 1 + 1) ≤ 122) from fun z => h ⟨h0, h1, h2, h3, z⟩), bI_f, if_pos rfl]
          exact ⟨_, _, _, _, rfl⟩
        · rw [m_tk_f hT (by omega) (by omega) (by omega) h3, Option.bind_some, if_pos rfl]
          exact ⟨_, _, _, _, rfl⟩
      · rw [m_tk_f hT (by omega) (by omega) (by omega) h2, Option.bind_some, if_pos rfl]
        exact ⟨_, _, _, _, rfl⟩
    · rw [m_tk_f hT (by omega) (by omega) (by omega) h1, Option.bind_some, if_pos rfl]
      exact ⟨_, _, _, _, rfl⟩
  · rw [if_neg h0]
    exact ⟨_, _, _, _, rfl⟩
