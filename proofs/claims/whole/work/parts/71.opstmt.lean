/-! 71: the op statement, on both sides -/
/-- an op statement behind its first letter -/
def opOk (zf : Nat → Nat) (q : Nat) : Prop := syz (zf (q + 1)) < 9 ∧ (48 ≤ zf (q + 1 + 1) ∧ zf (q + 1 + 1) ≤ 57) ∧ asz (zf (q + 1 + 2)) < 3
theorem p4_ne {n : Nat} (h : n < 2 ^ 31) : ¬ nI n = -4 := nI_not_m4 n h
theorem m_b80 {F L q : Nat} {te md ra rp : Ar} (hT : TK L te md) (hq : q < 1000) :
    (opOk (zz md L) q → f_X8_readOp_b80 F (syI (zz md L (q + 1)) (-4)) (chA md L (q + 1 + 1) - 48) (asI (zz md L (q + 1 + 2)) (-4)) (nI (q + 1)) ra rp md (nI L) = if zz md L (q + 1 + 3) = 59 then some (1, nI (q + 1 + 3 + 1), upd ra (syz (zz md L (q + 1))) (nI (asz (zz md L (q + 1 + 2)))), upd rp (syz (zz md L (q + 1))) (nI (zz md L (q + 1 + 1) - 48))) else some (0, nI (q + 1 + 3), upd ra (syz (zz md L (q + 1))) (nI (asz (zz md L (q + 1 + 2)))), upd rp (syz (zz md L (q + 1))) (nI (zz md L (q + 1 + 1) - 48)))) ∧
    (¬ opOk (zz md L) q → f_X8_readOp_b80 F (syI (zz md L (q + 1)) (-4)) (chA md L (q + 1 + 1) - 48) (asI (zz md L (q + 1 + 2)) (-4)) (nI (q + 1)) ra rp md (nI L) = some (0, nI (q + 1), ra, rp)) := by
  unfold f_X8_readOp_b80
  constructor
  · rintro ⟨h1, h2, h3⟩
    have h4 : chA md L (q + 1 + 1) - 48 = nI (zz md L (q + 1 + 1) - 48) := by
      rcases ch_cases hT (q + 1 + 1) with ⟨-, c2, -⟩ | ⟨-, -, -, c4, -⟩
      · omega
      · rw [c4, show (48 : Int32) = nI 48 by decide, pk_sub h2.1]
    rw [syI_ok _ _ h1, if_neg (p4_ne (by omega)), m_digZ hT, Option.bind_some, decide_eq_true h2, bI_t, if_neg (show ¬ (1 : Int32) = 0 by decide), asI_ok _ _ h3, if_neg (p4_ne (by omega)), h4]
    unfold f_X8_declare
    rw [gar_n h1 (by omega), gar_n h1 (by omega), Option.bind_some, nI_clamp (by omega), na3, show (59 : Int32) = nI 59 by decide]
    by_cases h5 : zz md L (q + 1 + 3) = 59
    · rw [if_pos h5, m_tk_t hT (by omega) (by omega) (by omega) h5, Option.bind_some]
      exact gbo_ok (Or.inr rfl)
    · rw [if_neg h5, m_tk_f hT (by omega) (by omega) (by omega) h5, Option.bind_some]
      exact gbo_ok (Or.inl rfl)
  · intro hn
    by_cases h1 : syz (zz md L (q + 1)) < 9
    · rw [syI_ok _ _ h1, if_neg (p4_ne (by omega)), m_digZ hT, Option.bind_some]
      by_cases h2 : 48 ≤ zz md L (q + 1 + 1) ∧ zz md L (q + 1 + 1) ≤ 57
      · have h3 : ¬ asz (zz md L (q + 1 + 2)) < 3 := fun z => hn ⟨h1, h2, z⟩
        rw [decide_eq_true h2, bI_t, if_neg (show ¬ (1 : Int32) = 0 by decide), asI_m1 _ _ h3, if_pos rfl]
      · rw [decide_eq_false h2, bI_f, if_pos rfl]
    · rw [syI_m1 _ _ h1, if_pos rfl]
theorem m_readOp_eq {F L q : Nat} {te md ra rp : Ar} (hT : TK L te md) (hq : q < 1000) : f_X8_readOp F (nI q) ra rp md (nI L) = if zz md L q = 112 then f_X8_readOp_b80 F (syI (zz md L (q + 1)) (-4)) (chA md L (q + 1 + 1) - 48) (asI (zz md L (q + 1 + 2)) (-4)) (nI (q + 1)) ra rp md (nI L) else some (0, nI q, ra, rp) := by
  unfold f_X8_readOp
  rw [show (112 : Int32) = nI 112 by decide]
  by_cases h : zz md L q = 112
  · rw [if_pos h, m_tk_t hT (by omega) (by omega) (by omega) h, Option.bind_some, if_neg (show ¬ (1 : Int32) = 0 by decide)]
    simp only []
    rw [m_chAt hT (by omega), Option.bind_some, m_symZ hT, Option.bind_some, nI_1, m_chAt hT (by omega), Option.bind_some, na2, m_chAt hT (by omega), Option.bind_some]
    exact (m_asS (fun s => f_X8_readOp_b80 F (syI (zz md L (q + 1)) (-4)) (chA md L (q + 1 + 1) - 48) s (nI (q + 1)) ra rp md (nI L)) _).trans (by rw [m_asZ hT])
  · rw [if_neg h, m_tk_f hT (by omega) (by omega) (by omega) h, Option.bind_some, if_pos rfl]
/-- the class's declaration, from p to i -/
theorem m_decl {F L p i : Nat} {te md cas cpr : Ar} (hT : TK L te md) (hI : IdxOk F) (hp : p ≤ i) (hi : i ≤ L) :
    (i = p + 3 → opOk (zz md L) (p - 1) → 0 < p → f_X5_parseDeclaration F (nI p) (nI i) cas cpr te = some (1, upd cas (syz (zz md L p)) (nI (asz (zz md L (p + 2)))), upd cpr (syz (zz md L p)) (nI (zz md L (p + 1) - 48)))) ∧
    ((¬ i = p + 3 ∨ (0 < p ∧ ¬ opOk (zz md L) (p - 1))) → f_X5_parseDeclaration F (nI p) (nI i) cas cpr te = some (0, cas, cpr)) := by
  have hL := hT.1
  have body : i = p + 3 → f_X5_parseDeclaration F (nI p) (nI i) cas cpr te = (if syI (zz md L p) (-1) < 0 then some (0, cas, cpr) else if nI (zz md L (p + 1)) < 48 then some (0, cas, cpr) else if 57 < nI (zz md L (p + 1)) then some (0, cas, cpr) else if 0 ≤ asI (zz md L (p + 2)) (-1) then gar (syI (zz md L p) (-1)) 9 (gar (syI (zz md L p) (-1)) 9 (some (1, upd cas (Int32.toNatClampNeg (syI (zz md L p) (-1))) (asI (zz md L (p + 2)) (-1)), upd cpr (Int32.toNatClampNeg (syI (zz md L p) (-1))) (nI (zz md L (p + 1)) - 48)))) else some (0, cas, cpr)) := by
    intro e
    unfold f_X5_parseDeclaration
    rw [pk_sub hp, show i - p = 3 by omega, if_pos (show nI 3 = 3 by decide), gar_n (by omega) (by omega), nI_clamp (by omega), te_zz hT (show p < L by omega), hI.1 _ (zz_lt hT p), Option.bind_some, nI_1, na2, gar_n (by omega) (by omega), gar_n (by omega) (by omega), nI_clamp (by omega), nI_clamp (by omega), te_zz hT (show p + 2 < L by omega), te_zz hT (show p + 1 < L by omega), hI.2 _ (zz_lt hT (p + 2)), Option.bind_some]
  have hz1 := zz_lt hT (p + 1)
  constructor
  · rintro e ⟨h1, h2, h3⟩ h0
    rw [show p - 1 + 1 = p by omega] at h1 h2 h3
    rw [body e, syI_ok _ _ h1, asI_ok _ _ h3, if_neg (Int32.not_lt.mpr (nI_pos' (by omega))), show (48 : Int32) = nI 48 by decide, if_neg (nI_nlt h2.1 (by omega)), show (57 : Int32) = nI 57 by decide, if_neg (nI_nlt h2.2 (by omega)), if_pos (nI_pos' (by omega)), gar_n h1 (by omega), gar_n h1 (by omega), nI_clamp (by omega), pk_sub h2.1]
  · intro hn
    by_cases e : i = p + 3
    · rcases hn with hn | ⟨h0, hn⟩
      · exact absurd e hn
      · rw [body e]
        by_cases h1 : syz (zz md L p) < 9
        · rw [syI_ok _ _ h1, if_neg (Int32.not_lt.mpr (nI_pos' (by omega)))]
          by_cases h2 : 48 ≤ zz md L (p + 1)
          · rw [show (48 : Int32) = nI 48 by decide, if_neg (nI_nlt h2 (by omega))]
            by_cases h3 : zz md L (p + 1) ≤ 57
            · rw [show (57 : Int32) = nI 57 by decide, if_neg (nI_nlt h3 (by omega))]
              have h4 : ¬ asz (zz md L (p + 2)) < 3 := fun z => hn ⟨by rw [show p - 1 + 1 = p by omega]; exact h1, by rw [show p - 1 + 1 = p by omega]; exact ⟨h2, h3⟩, by rw [show p - 1 + 1 = p by omega]; exact z⟩
              rw [asI_m1 _ _ h4, if_neg (show ¬ (0 : Int32) ≤ -1 by decide)]
            · rw [show (57 : Int32) = nI 57 by decide, if_pos (nI_lt (by omega) (by omega))]
          · rw [show (48 : Int32) = nI 48 by decide, if_pos (nI_lt (by omega) (by omega))]
        · rw [syI_m1 _ _ h1, if_pos (show (-1 : Int32) < 0 by decide)]
    · unfold f_X5_parseDeclaration
      rw [pk_sub hp, if_neg (fun z => by have := (nI_eq (by omega) (by omega)).mp (z.trans k3); omega)]
