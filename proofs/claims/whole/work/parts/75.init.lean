/-! 75: load; both constructors -/
theorem q_load {F L n h : Nat} {te md : Ar} {tl my : Int32} {e0F : Ar} {e0p : Int32} {e0V e1F : Ar} {e1p : Int32} {e1V e2F : Ar} {e2p : Int32} {e2V e3F : Ar} {e3p : Int32} {e3V hist : Ar} {so : Int32} {pr as sA le : Ar} {mo : Int32} {mp ma mS mO : Ar} {pl : Int32} {stF av now : Ar} (hT : TX L tl te my md) (hI : IdxOk F) (hF : 300 < F) (hE : SE n so pr as sA le mo mp ma mS mO) (hh : h ≤ 4) (hX : HX h e0F e0p e0V e1F e1p e1V e2F e2p e2V e3F e3p e3V hist) (hS : SX pl stF av now) (cas cle : Ar) (co : Int32) (cpr csA : Ar) (a0 : Int32) (ra ro : Ar) (rn : Int32) (rp rs : Ar) :
    ∃ (a : Int32) (cas' cle' : Ar) (co' : Int32) (cpr' csA' : Ar) (k : Nat) (as' le' : Ar) (so' : Int32) (pr' sA' : Ar) (pl' : Int32) (av' ma' : Ar) (at' : Int32) (now' mO' : Ar) (mo' : Int32) (mp' ra' ro' : Ar) (rn' : Int32) (rp' rs' mS' : Ar) (n' : Nat),
      f_X7_load F cas cle co cpr csA (nI h) as le so pr sA pl av te tl = some (a, cas', cle', co', cpr', csA', nI k, as', le', so', pr', sA', pl', av') ∧ f_X8_load F ma a0 (nI h) now mO mo mp ra ro rn rp rs mS md my = some (a, ma', at', nI k, now', mO', mo', mp', ra', ro', rn', rp', rs', mS') ∧ k ≤ 4 ∧ HX k e0F e0p e0V e1F e1p e1V e2F e2p e2V e3F e3p e3V hist ∧ SE n' so' pr' as' sA' le' mo' mp' ma' mS' mO' ∧ SX pl' stF av' now' := by
  have hK := hT.tk
  obtain ⟨hL, rfl, rfl, -⟩ := hT
  obtain ⟨a, cas', cle', co', cpr', csA', at', ra', ro', rn', rp', rs', y1, y2, y3⟩ := m_parse hK hI hF cas cle co cpr csA a0 ra ro rn rp rs
  unfold f_X7_load f_X8_load
  rw [y2, Option.bind_some]
  simp only []
  by_cases h1 : a = -4
  · obtain ⟨hD, hx⟩ := y3 h1
    subst h1
    rw [if_pos rfl]
    rcases hx with ⟨rfl, rfl⟩ | ⟨m, x1, rfl, rfl, x4, x5⟩
    · rw [if_pos rfl]
      unfold f_X7_takeSetup f_X4_hasExpression
      rw [y1, Option.bind_some, if_pos rfl, if_pos (show (0 : Int32) ≤ 0 by decide), Option.bind_some, if_pos rfl, Option.bind_some, if_pos rfl]
      exact ⟨_, _, _, _, _, _, h, _, _, _, _, _, _, _, _, _, _, _, _, _, _, _, _, _, _, _, n, rfl, rfl, hh, hX, hE, hS⟩
    · obtain ⟨as', le', pr', sA', av', t1, t2, t3, t4, t5⟩ := m_take (F := F) (hi := nI h) (as := as) (le := le) (so := so) (pr := pr) (sA := sA) (pl := pl) (av := av) (by omega) x1 y1
      obtain ⟨ma', now', mO', mp', mS', i1, i2, i3, i4, i5, i6⟩ := m_install (F := F) (ma := ma) (ed := nI h) (now := now) (mO := mO) (mo := mo) (mp := mp) (ra := ra') (ro := ro') (rp := rp') (rs := rs') (mS := mS) (by omega) x1
      rw [if_neg (p4_ne (by omega)), i1, Option.bind_some, t1, Option.bind_some, if_neg (show ¬ (1 : Int32) = 0 by decide)]
      simp only []
      rw [m_operators x1, Option.bind_some]
      refine ⟨nI m, _, _, _, _, _, 0, as', le', nI (m + 1), pr', sA', 0, av', ma', _, now', mO', nI m, mp', _, _, _, _, _, mS', m, by rw [← k0], by rw [← k0], by omega, ⟨fun z => by omega, fun z => by omega, fun z => by omega, fun z => by omega⟩, SE_of x1 hD x4 x5 t2 t3 t4 i2 i3 i4, SX_new i5 t5 i6⟩
  · rw [if_neg h1]
    unfold f_X7_takeSetup
    rw [y1, Option.bind_some, if_neg h1, Option.bind_some, if_pos rfl]
    exact ⟨_, _, _, _, _, _, h, _, _, _, _, _, _, _, _, _, _, _, _, _, _, _, _, _, _, _, n, rfl, rfl, hh, hX, hE, hS⟩
