/-! 73: statements, and the whole text, on both sides -/
def RDX (co : Int32) (cpr cas csA cle : Ar) (rn : Int32) (rp ra rs ro : Ar) : Prop := DP cpr cas rp ra ∧ ((co = 0 ∧ rn = -4) ∨ ∃ n, n ≤ 10 ∧ co = nI (n + 1) ∧ rn = nI n ∧ XL n cle ro ∧ XS n csA rs cpr)
theorem m_rop_t {F L q : Nat} {te md ra rp : Ar} (hT : TK L te md) (hq : q < 1000) (h1 : zz md L q = 112) (h2 : opOk (zz md L) q) (h3 : zz md L (q + 1 + 3) = 59) : f_X8_readOp F (nI q) ra rp md (nI L) = some (1, nI (q + 1 + 3 + 1), upd ra (syz (zz md L (q + 1))) (nI (asz (zz md L (q + 1 + 2)))), upd rp (syz (zz md L (q + 1))) (nI (zz md L (q + 1 + 1) - 48))) := by
  rw [m_readOp_eq hT hq, if_pos h1, (m_b80 hT hq).1 h2, if_pos h3]
theorem m_rop_f {F L q : Nat} {te md ra rp : Ar} (hT : TK L te md) (hq : q < 1000) (h : ¬ (zz md L q = 112 ∧ opOk (zz md L) q ∧ zz md L (q + 1 + 3) = 59)) : ∃ a b c, f_X8_readOp F (nI q) ra rp md (nI L) = some (0, a, b, c) := by
  rw [m_readOp_eq hT hq]
  by_cases h1 : zz md L q = 112
  · rw [if_pos h1]
    by_cases h2 : opOk (zz md L) q
    · rw [(m_b80 hT hq).1 h2, if_neg (fun z => h ⟨h1, h2, z⟩)]; exact ⟨_, _, _, rfl⟩
    · rw [(m_b80 hT hq).2 h2]; exact ⟨_, _, _, rfl⟩
  · rw [if_neg h1]; exact ⟨_, _, _, rfl⟩
section L9
variable {F L s m : Nat} {te md ra ro rp rs : Ar} {rn : Int32} {Y : Int32 → Ar → Ar → Int32 → Ar → Ar → Option (Int32 × Int32 × Ar × Ar × Int32 × Ar × Ar)}
theorem l9_op_t (hT : TK L te md) (hs : s < L) (hz : zz md L s = 111) {a : Int32} {b c : Ar} (h : f_X8_readOp F (nI (s + 1)) ra rp md (nI L) = some (1, a, b, c)) : f_X8_read_l9 F md (nI L) (m + 1) (nI s) ra ro rn rp rs Y = f_X8_read_l9 F md (nI L) m a b ro rn c rs Y := by
  have hL := hT.1
  rw [f_X8_read_l9, if_neg (nI_ge hs (by omega)), gar_n (by omega) (by omega), nI_clamp (by omega), md_zz hT hs, hz, if_pos (show nI 111 = 111 by decide), nI_1, h, Option.bind_some]
  unfold f_X8_read_b76
  rw [if_neg (show ¬ (1 : Int32) = 0 by decide)]
theorem l9_op_f (hT : TK L te md) (hs : s < L) (hz : zz md L s = 111) (h : ∃ a b c, f_X8_readOp F (nI (s + 1)) ra rp md (nI L) = some (0, a, b, c)) : ∃ a b c d e f, f_X8_read_l9 F md (nI L) (m + 1) (nI s) ra ro rn rp rs Y = some (nI s, a, b, c, d, e, f) := by
  have hL := hT.1
  obtain ⟨a, b, c, h⟩ := h
  rw [f_X8_read_l9, if_neg (nI_ge hs (by omega)), gar_n (by omega) (by omega), nI_clamp (by omega), md_zz hT hs, hz, if_pos (show nI 111 = 111 by decide), nI_1, h, Option.bind_some]
  unfold f_X8_read_b76
  rw [if_pos rfl]
  exact ⟨_, _, _, _, _, _, rfl⟩
theorem l9_ex_t (hT : TK L te md) (hs : s < L) (hz : zz md L s = 101) {a d : Int32} {b c : Ar} (h : f_X8_readExpression F (nI (s + 1)) ro rn rp rs md (nI L) = some (1, a, b, d, c)) : f_X8_read_l9 F md (nI L) (m + 1) (nI s) ra ro rn rp rs Y = f_X8_read_l9 F md (nI L) m a ra b d rp c Y := by
  have hL := hT.1
  rw [f_X8_read_l9, if_neg (nI_ge hs (by omega)), gar_n (by omega) (by omega), nI_clamp (by omega), md_zz hT hs, hz, if_neg (show ¬ nI 101 = 111 by decide), if_pos (show nI 101 = 101 by decide), nI_1, h, Option.bind_some, if_neg (show ¬ (1 : Int32) = 0 by decide)]
  unfold f_X8_read_b76
  rw [if_neg (show ¬ (1 : Int32) = 0 by decide)]
theorem l9_ex_f (hT : TK L te md) (hs : s < L) (hz : zz md L s = 101) (h : ∃ a b c d, f_X8_readExpression F (nI (s + 1)) ro rn rp rs md (nI L) = some (0, a, b, c, d)) : ∃ a b c d e f, f_X8_read_l9 F md (nI L) (m + 1) (nI s) ra ro rn rp rs Y = some (nI s, a, b, c, d, e, f) := by
  have hL := hT.1
  obtain ⟨a, b, c, d, h⟩ := h
  rw [f_X8_read_l9, if_neg (nI_ge hs (by omega)), gar_n (by omega) (by omega), nI_clamp (by omega), md_zz hT hs, hz, if_neg (show ¬ nI 101 = 111 by decide), if_pos (show nI 101 = 101 by decide), nI_1, h, Option.bind_some, if_pos rfl]
  unfold f_X8_read_b75 f_X8_read_b76
  rw [if_pos rfl]
  exact ⟨_, _, _, _, _, _, rfl⟩
theorem l9_else (hT : TK L te md) (hs : s < L) (h1 : ¬ zz md L s = 111) (h2 : ¬ zz md L s = 101) : ∃ a b c d e f, f_X8_read_l9 F md (nI L) (m + 1) (nI s) ra ro rn rp rs Y = some (nI s, a, b, c, d, e, f) := by
  have hL := hT.1
  have hz := zz_lt hT s
  rw [f_X8_read_l9, if_neg (nI_ge hs (by omega)), gar_n (by omega) (by omega), nI_clamp (by omega), md_zz hT hs, show (111 : Int32) = nI 111 by decide, if_neg (fun z => h1 ((nI_eq (by omega) (by omega)).mp z)), show (101 : Int32) = nI 101 by decide, if_neg (fun z => h2 ((nI_eq (by omega) (by omega)).mp z))]
  unfold f_X8_read_b75 f_X8_read_b76
  rw [if_pos rfl]
  exact ⟨_, _, _, _, _, _, rfl⟩
/-- a statement without its end fails in the reference -/
theorem m_unterm (hT : TK L te md) (hF : 300 < F) (hs : s < L) (hno : ∀ q, s ≤ q → q < L → ¬ zz md L q = 59) : ∃ a b c d e f, f_X8_read_l9 F md (nI L) (m + 1) (nI s) ra ro rn rp rs Y = some (nI s, a, b, c, d, e, f) := by
  have hL := hT.1
  by_cases h1 : zz md L s = 111
  · refine l9_op_f hT hs h1 (m_rop_f hT (by omega) (fun z => ?_))
    have := zz_in (md := md) (L := L) (q := s + 1 + 1 + 3) (by omega)
    exact hno _ (by omega) this z.2.2
  · by_cases h2 : zz md L s = 101
    · refine l9_ex_f hT hs h2 ?_
      by_cases h3 : rn = -4 ∧ xprOk (zz md L) (s + 1)
      · obtain ⟨rfl, h4⟩ := h3
        have hin : s + 1 + 1 + 1 + 1 < L := zz_in (md := md) (by have := h4.2.2.2; unfold ltr at this; omega)
        rw [m_rexp_t hT (by omega) h4]
        exact m_exp_fail (i := L) hT hL F 0 (s + 1 + 1 + 1 + 1 + 1) _ _ (by omega) (by omega) (by omega) (fun q q1 q2 => hno q (by omega) q2) (Or.inl (Nat.le_refl _)) (Or.inr (Nat.le_refl _))
      · exact m_rexp_f hT (by omega) h3
    · exact l9_else hT hs h1 h2
end L9
/-- one statement, from s to its end i -/
theorem m_stmt {F L s i : Nat} {te md cas cle cpr csA ra ro rp rs : Ar} {co rn : Int32} (hT : TK L te md) (hI : IdxOk F) (hF : 300 < F) (hs : s ≤ i) (hi : i < L) (h59 : zz md L i = 59) (hno : ∀ q, s ≤ q → q < i → ¬ zz md L q = 59) (hR : RDX co cpr cas csA cle rn rp ra rs ro) :
    (∃ cas' cle' co' cpr' csA' ra' ro' rn' rp' rs', f_X5_parseStatement F (nI s) (nI i) cas cle co cpr csA te = some (1, cas', cle', co', cpr', csA') ∧ (∀ m Y, f_X8_read_l9 F md (nI L) (m + 1) (nI s) ra ro rn rp rs Y = f_X8_read_l9 F md (nI L) m (nI (i + 1)) ra' ro' rn' rp' rs' Y) ∧ RDX co' cpr' cas' csA' cle' rn' rp' ra' rs' ro') ∨
    ((∃ a b c d e, f_X5_parseStatement F (nI s) (nI i) cas cle co cpr csA te = some (0, a, b, c, d, e)) ∧ ∀ m Y, ∃ a b c d e f, f_X8_read_l9 F md (nI L) (m + 1) (nI s) ra ro rn rp rs Y = some (nI s, a, b, c, d, e, f)) := by
  have hL := hT.1
  obtain ⟨hD, hx⟩ := hR
  unfold f_X5_parseStatement
  rw [m_wordO hT (by omega) hs (by omega), Option.bind_some, m_wordE hT (by omega) hs (by omega), Option.bind_some, bI_ite, bI_ite]
  by_cases h1 : zz md L s = 111
  · have e1 : ¬ s = i := fun e => by rw [e] at h1; omega
    by_cases h2 : zz md L (s + 1) = 112
    · have e2 : ¬ s + 1 = i := fun e => by rw [e] at h2; omega
      rw [decide_eq_true (⟨by omega, h1, h2⟩ : 2 ≤ i - s ∧ zz md L s = 111 ∧ zz md L (s + 1) = 112)]
      simp only [if_true]
      rw [na2]
      obtain ⟨d1, d2⟩ := m_decl (F := F) (p := s + 2) (i := i) (cas := cas) (cpr := cpr) hT hI (by omega) (by omega)
      rw [show s + 2 - 1 = s + 1 by omega] at d1 d2
      by_cases h3 : opOk (zz md L) (s + 1)
      · obtain ⟨o1, o2, o3⟩ := id h3
        have e3 : ¬ s + 1 + 1 = i := fun e => by rw [e, h59] at o1; exact absurd o1 (by decide)
        have e4 : ¬ s + 1 + 1 + 1 = i := fun e => by rw [e, h59] at o2; omega
        have e5 : ¬ s + 1 + 1 + 2 = i := fun e => by rw [e, h59] at o3; exact absurd o3 (by decide)
        by_cases h4 : zz md L (s + 1 + 1 + 3) = 59
        · have e6 : i = s + 2 + 3 := by
            rcases Nat.lt_or_ge (s + 1 + 1 + 3) i with e | e
            · exact absurd h4 (hno _ (by omega) e)
            · omega
          left
          rw [d1 e6 h3 (by omega), Option.bind_some, gbo_ok (Or.inr rfl)]
          refine ⟨upd cas (syz (zz md L (s + 2))) (nI (asz (zz md L (s + 2 + 2)))), cle, co, upd cpr (syz (zz md L (s + 2))) (nI (zz md L (s + 2 + 1) - 48)), csA, upd ra (syz (zz md L (s + 1 + 1))) (nI (asz (zz md L (s + 1 + 1 + 2)))), ro, rn, upd rp (syz (zz md L (s + 1 + 1))) (nI (zz md L (s + 1 + 1 + 1) - 48)), rs, rfl, fun m Y => ?_, ?_, ?_⟩
          · rw [l9_op_t hT (by omega) h1 (m_rop_t hT (by omega) h2 h3 h4), show s + 1 + 1 + 3 + 1 = i + 1 by omega]
          · intro t ht
            by_cases e : t = syz (zz md L (s + 2))
            · right
              subst e
              exact ⟨zz md L (s + 2 + 1) - 48, asz (zz md L (s + 2 + 2)), by have := o2.2; rw [show s + 1 + 1 + 1 = s + 2 + 1 by omega] at this; omega, o3, pk_us, pk_us, pk_us, pk_us⟩
            · rw [pk_un e, pk_un e, pk_un e, pk_un e]
              exact hD t ht
          · rcases hx with hx | ⟨n, x1, x2, x3, x4, x5⟩
            · exact Or.inl hx
            · refine Or.inr ⟨n, x1, x2, x3, x4, fun j hj => ?_⟩
              obtain ⟨t, t1, t2, t3, t4⟩ := x5 j hj
              refine ⟨t, t1, t2, t3, ?_⟩
              by_cases e : t = syz (zz md L (s + 2))
              · subst e; rw [pk_us]; exact nI_not_m1 _ (by have := zz_lt hT (s + 2 + 1); omega)
              · rw [pk_un e]; exact t4
        · right
          rw [d2 (Or.inl (fun e => h4 (by rw [show s + 1 + 1 + 3 = i by omega]; exact h59))), Option.bind_some, gbo_ok (Or.inl rfl)]
          exact ⟨⟨_, _, _, _, _, rfl⟩, fun m Y => l9_op_f hT (by omega) h1 (m_rop_f hT (by omega) (fun z => h4 z.2.2))⟩
      · right
        rw [d2 (Or.inr ⟨by omega, h3⟩), Option.bind_some, gbo_ok (Or.inl rfl)]
        exact ⟨⟨_, _, _, _, _, rfl⟩, fun m Y => l9_op_f hT (by omega) h1 (m_rop_f hT (by omega) (fun z => h3 z.2.1))⟩
    · right
      rw [decide_eq_false (fun z : 2 ≤ i - s ∧ zz md L s = 111 ∧ zz md L (s + 1) = 112 => h2 z.2.2), decide_eq_false (fun z : 4 ≤ i - s ∧ zz md L s = 101 ∧ zz md L (s + 1) = 120 ∧ zz md L (s + 2) = 112 ∧ zz md L (s + 3) = 114 => by omega)]
      simp only [Bool.false_eq_true, if_false]
      exact ⟨⟨_, _, _, _, _, rfl⟩, fun m Y => l9_op_f hT (by omega) h1 (m_rop_f hT (by omega) (fun z => h2 z.1))⟩
  · rw [decide_eq_false (fun z : 2 ≤ i - s ∧ zz md L s = 111 ∧ zz md L (s + 1) = 112 => h1 z.2.1)]
    simp only [Bool.false_eq_true, if_false]
    by_cases h2 : zz md L s = 101
    · have e1 : ¬ s = i := fun e => by rw [e] at h2; omega
      by_cases h3 : zz md L (s + 1) = 120 ∧ zz md L (s + 2) = 112 ∧ zz md L (s + 3) = 114
      · have e2 : ¬ s + 1 = i := fun e => by rw [e] at h3; omega
        have e3 : ¬ s + 2 = i := fun e => by rw [e] at h3; omega
        have e4 : ¬ s + 3 = i := fun e => by rw [e] at h3; omega
        rw [decide_eq_true (⟨by omega, h2, h3⟩ : 4 ≤ i - s ∧ zz md L s = 101 ∧ zz md L (s + 1) = 120 ∧ zz md L (s + 2) = 112 ∧ zz md L (s + 3) = 114)]
        simp only [if_true]
        rw [na4]
        unfold f_X5_parseExpression f_X4_hasExpression
        rcases hx with ⟨rfl, rfl⟩ | ⟨n, x1, rfl, rfl, x4, x5⟩
        · rw [if_pos (show (0 : Int32) ≤ 0 by decide), Option.bind_some, if_pos rfl, pk_sub (by omega), k2, pk_rem (by omega) (by omega) (by omega), pk_div (by omega) (by omega) (by omega)]
          have hfail : ((i - (s + 4)) % 2 = 0 ∨ 21 < i - (s + 4) ∨ ¬ ltr (zz md L (s + 4))) → ∀ m Y, ∃ a b c d e f, f_X8_read_l9 F md (nI L) (m + 1) (nI s) ra ro (-4) rp rs Y = some (nI s, a, b, c, d, e, f) := by
            intro hc m Y
            refine l9_ex_f hT (by omega) h2 ?_
            by_cases h4 : ltr (zz md L (s + 4))
            · have e5 : ¬ s + 4 = i := fun e => by rw [e] at h4; unfold ltr at h4; omega
              rw [m_rexp_t hT (by omega) (show xprOk (zz md L) (s + 1) from ⟨h3.1, h3.2.1, h3.2.2, h4⟩)]
              refine m_exp_fail (i := i) hT (by omega) F 0 (s + 1 + 1 + 1 + 1 + 1) _ _ (by omega) (by omega) (by omega) (fun q q1 q2 => hno q (by omega) q2) ?_ (Or.inl h59)
              rcases hc with hc | hc | hc
              · exact Or.inr (Or.inl (by omega))
              · exact Or.inr (Or.inr (by omega))
              · exact absurd h4 hc
            · exact m_rexp_f hT (by omega) (fun z => h4 z.2.2.2.2)
          by_cases c1 : (i - (s + 4)) % 2 = 0
          · right
            rw [c1, if_pos (show nI 0 = 0 by decide), Option.bind_some, if_pos rfl]
            exact ⟨⟨_, _, _, _, _, rfl⟩, hfail (Or.inl c1)⟩
          · rw [show (i - (s + 4)) % 2 = 1 by omega, if_neg (show ¬ nI 1 = 0 by decide), show (21 : Int32) = nI 21 by decide]
            by_cases c2 : i - (s + 4) ≤ 21
            · rw [if_pos (nI_le c2 (by omega))]
              obtain ⟨g1, g2⟩ := m_cl_even (F := F) (p := s + 4) (g := i - (s + 4)) (w := 0) (m := F - 1) (cpr := cpr) (le := cle) (sA := csA) (so := 0) (X := fun se_letters se_symbols => some (1, se_letters, nI ((i - (s + 4)) / 2) + 1, se_symbols)) hT c2 (by omega) (by omega)
              rw [show F - 1 + 1 = F by omega, show 2 * 0 = 0 from rfl, show s + 4 + 0 = s + 4 from rfl] at g1 g2
              by_cases c3 : ltr (zz md L (s + 4))
              · have hxp : xprOk (zz md L) (s + 1) := ⟨h3.1, h3.2.1, h3.2.2, c3⟩
                have key := m_exp_loop (F := F) (p := s + 4) (i := i) (g := i - (s + 4)) (so := 0) (rn := -4) (X := fun se_letters se_symbols => some (1, se_letters, nI ((i - (s + 4)) / 2) + 1, se_symbols)) (Y := fun v1 md_at md_readOperands md_readSymbols => (some (1, md_at, md_readOperands, v1, md_readSymbols))) hT hI hD c2 (by omega) hi h59 (fun q q1 q2 => hno q (by omega) q2) ((i - (s + 4)) / 2) 0 (F - 1) F (upd cle 0 (nI (zz md L (s + 4) - 97))) csA (upd ro 0 (nI (zz md L (s + 4) - 97))) rs (by omega) (by omega) (by omega) (fun j hj => by rw [show j = 0 by omega, pk_us, pk_us]; exact ⟨_, by have := c3.1; have := c3.2; omega, rfl, rfl⟩) (fun j hj => by omega)
                rw [show s + 4 + (2 * 0 + 1) = s + 1 + 1 + 1 + 1 + 1 by omega, show 0 + (i - (s + 4)) / 2 = (i - (s + 4)) / 2 by omega] at key
                rw [← k0] at g1
                rw [g1 c3]
                rcases key with ⟨cle', csA', ro', rs', y1, y2, y3, y4⟩ | ⟨x1, x2, x3, y1, y2, y3, y4, z1, z2⟩
                · left
                  rw [y1, Option.bind_some, nI_1]
                  simp only []
                  rw [if_neg (show ¬ (1 : Int32) = 0 by decide)]
                  exact ⟨cas, cle', nI ((i - (s + 4)) / 2 + 1), cpr, csA', ra, ro', nI ((i - (s + 4)) / 2), rp, rs', rfl, fun m Y => l9_ex_t hT (by omega) h2 ((m_rexp_t hT (by omega) hxp).trans y2), hD, Or.inr ⟨(i - (s + 4)) / 2, by omega, rfl, rfl, y3, y4⟩⟩
                · right
                  rw [z1, Option.bind_some, if_pos rfl]
                  exact ⟨⟨_, _, _, _, _, rfl⟩, fun m Y => l9_ex_f hT (by omega) h2 ⟨_, _, _, _, (m_rexp_t hT (by omega) hxp).trans z2⟩⟩
              · right
                rw [← k0] at g2
                rw [g2 c3, Option.bind_some, if_pos rfl]
                exact ⟨⟨_, _, _, _, _, rfl⟩, hfail (Or.inr (Or.inr c3))⟩
            · right
              rw [if_neg (nI_ge (by omega) (by omega)), Option.bind_some, if_pos rfl]
              exact ⟨⟨_, _, _, _, _, rfl⟩, hfail (Or.inr (Or.inl (by omega)))⟩
        · right
          rw [if_neg (show ¬ nI (n + 1) ≤ 0 by rw [k0]; exact nI_ge (by omega) (by omega)), Option.bind_some, if_neg (show ¬ (1 : Int32) = 0 by decide), Option.bind_some, if_pos rfl]
          exact ⟨⟨_, _, _, _, _, rfl⟩, fun m Y => l9_ex_f hT (by omega) h2 (m_rexp_f hT (by omega) (fun z => p4_ne (by omega) z.1))⟩
      · right
        rw [decide_eq_false (fun z : 4 ≤ i - s ∧ zz md L s = 101 ∧ zz md L (s + 1) = 120 ∧ zz md L (s + 2) = 112 ∧ zz md L (s + 3) = 114 => h3 z.2.2)]
        simp only [Bool.false_eq_true, if_false]
        exact ⟨⟨_, _, _, _, _, rfl⟩, fun m Y => l9_ex_f hT (by omega) h2 (m_rexp_f hT (by omega) (fun z => h3 ⟨z.2.1, z.2.2.1, z.2.2.2.1⟩))⟩
    · right
      rw [decide_eq_false (fun z : 4 ≤ i - s ∧ zz md L s = 101 ∧ zz md L (s + 1) = 120 ∧ zz md L (s + 2) = 112 ∧ zz md L (s + 3) = 114 => h2 z.2.1)]
      simp only [Bool.false_eq_true, if_false]
      exact ⟨⟨_, _, _, _, _, rfl⟩, fun m Y => l9_else hT (by omega) h1 h2⟩
