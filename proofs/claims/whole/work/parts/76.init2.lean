/-! 76: both constructors, run by the kernel -/
def iP (t : Nat) : Int32 := if t = 0 ∨ t = 1 then 4 else if t = 2 then 6 else if t = 7 then 2 else -1
def iA (t : Nat) : Int32 := if t = 7 then 2 else 0
def iS (i : Nat) : Nat := if i = 0 then 1 else if i = 1 then 2 else if i = 2 then 0 else 7
def okC (tl hi so pl : Int32) (pr as sA le av : Ar) : Prop := tl = 0 ∧ hi = 0 ∧ so = 5 ∧ pl = 0 ∧ (∀ t, t < 9 → pr t = iP t) ∧ (∀ t, t < 9 → iP t = -1 ∨ as t = iA t) ∧ (∀ i, i < 4 → sA i = nI (iS i)) ∧ (∀ i, i < 5 → le i = nI i) ∧ (∀ t, t < 26 → av t = nI (t + 1))
def okM (my ed mo : Int32) (now mp ma mS mO : Ar) : Prop := my = 0 ∧ ed = 0 ∧ mo = 4 ∧ now 0 = 0 ∧ (∀ t, t < 9 → mp t = if iP t = -1 then -4 else iP t) ∧ (∀ t, t < 9 → iP t = -1 ∨ ma t = iA t) ∧ (∀ i, i < 4 → mS i = nI (iS i)) ∧ (∀ i, i < 5 → mO i = nI i) ∧ (∀ t, t < 26 → now (25 + t) = nI (t + 1))
def allB (f : Nat → Bool) : Nat → Bool
  | 0 => true
  | n + 1 => f n && allB f n
theorem allB_sp {f : Nat → Bool} : ∀ (n : Nat), (allB f n = true) = (∀ t, t < n → f t = true) := by
  intro n
  induction n with
  | zero => exact propext ⟨fun _ t h => by omega, fun _ => rfl⟩
  | succ n ih =>
    rw [allB, Bool.and_eq_true, ih]
    refine propext ⟨fun h t ht => ?_, fun h => ⟨h n (by omega), fun t ht => h t (by omega)⟩⟩
    by_cases e : t = n
    · rw [e]; exact h.1
    · exact h.2 t (by omega)
def chC (o : Option ((Nat → Int64) × (Ar) × (Ar) × (Int32) × (Ar) × (Ar) × (Ar) × (Int32) × (Ar) × (Ar) × (Int32) × (Ar) × (Ar) × (Int32) × (Ar) × (Ar) × (Int32) × (Ar) × (Ar) × (Ar) × (Int32) × (Ar) × (Ar) × (Int32) × (Ar) × (Ar) × (Int32) × (Ar) × (Ar) × (Ar) × (Int32) × (Ar) × (Ar) × (Int32) × (Ar) × (Int32) × (Ar) × (Ar) × (Nat → Int64) × (Ar))) : Bool := match o with
  | none => false
  | some (bx, cas, cle, co, cpr, csA, e0F, e0p, e0V, e1F, e1p, e1V, e2F, e2p, e2V, e3F, e3p, e3V, cnt, lf, fop, rt, ro, hi, as, le, so, pr, sA, stF, pl, av, te, tl, tal, top, trk, trb, trs, tro) => decide (tl = 0) && decide (hi = 0) && decide (so = 5) && decide (pl = 0) && allB (fun t => decide (pr t = iP t)) 9 && allB (fun t => decide (iP t = -1 ∨ as t = iA t)) 9 && allB (fun i => decide (sA i = nI (iS i))) 4 && allB (fun i => decide (le i = nI i)) 5 && allB (fun t => decide (av t = nI (t + 1))) 26
def chM (o : Option ((Ar) × (Int32) × (Ar) × (Int32) × (Ar) × (Ar) × (Ar) × (Ar) × (Ar) × (Int32) × (Ar) × (Ar) × (Ar) × (Ar) × (Ar) × (Ar) × (Int32) × (Ar) × (Ar) × (Nat → Int64) × (Ar) × (Ar) × (Ar) × (Ar) × (Ar) × (Int32) × (Nat → Int64))) : Bool := match o with
  | none => false
  | some (ma, a0, di, ed, hO, hist, lO, now, mO, mo, pO, pre, mp, mrk, rA, rO, rn, rP, rS, mres, sO, stk, mS, md, mtr, my, vals) => decide (my = 0) && decide (ed = 0) && decide (mo = 4) && decide (now 0 = 0) && allB (fun t => decide (mp t = if iP t = -1 then -4 else iP t)) 9 && allB (fun t => decide (iP t = -1 ∨ ma t = iA t)) 9 && allB (fun i => decide (mS i = nI (iS i))) 4 && allB (fun i => decide (mO i = nI i)) 5 && allB (fun t => decide (now (25 + t) = nI (t + 1))) 26
theorem init_C : chC (f_X7_init 4000) = true := by decide +kernel
theorem init_M : chM (f_X8_init 4000) = true := by decide +kernel
theorem q_initC : ∃ (bx : Nat → Int64) (cas : Ar) (cle : Ar) (co : Int32) (cpr : Ar) (csA : Ar) (e0F : Ar) (e0p : Int32) (e0V : Ar) (e1F : Ar) (e1p : Int32) (e1V : Ar) (e2F : Ar) (e2p : Int32) (e2V : Ar) (e3F : Ar) (e3p : Int32) (e3V : Ar) (cnt : Ar) (lf : Ar) (fop : Int32) (rt : Ar) (ro : Ar) (hi : Int32) (as : Ar) (le : Ar) (so : Int32) (pr : Ar) (sA : Ar) (stF : Ar) (pl : Int32) (av : Ar) (te : Ar) (tl : Int32) (tal : Ar) (top : Int32) (trk : Ar) (trb : Ar) (trs : Nat → Int64) (tro : Ar), f_X7_init 4000 = some (bx, cas, cle, co, cpr, csA, e0F, e0p, e0V, e1F, e1p, e1V, e2F, e2p, e2V, e3F, e3p, e3V, cnt, lf, fop, rt, ro, hi, as, le, so, pr, sA, stF, pl, av, te, tl, tal, top, trk, trb, trs, tro) ∧ okC tl hi so pl pr as sA le av := by
  have h := init_C
  cases e : f_X7_init 4000 with
  | none => rw [e] at h; cases h
  | some o =>
    rw [e] at h
    obtain ⟨bx, cas, cle, co, cpr, csA, e0F, e0p, e0V, e1F, e1p, e1V, e2F, e2p, e2V, e3F, e3p, e3V, cnt, lf, fop, rt, ro, hi, as, le, so, pr, sA, stF, pl, av, te, tl, tal, top, trk, trb, trs, tro⟩ := o
    exact ⟨bx, cas, cle, co, cpr, csA, e0F, e0p, e0V, e1F, e1p, e1V, e2F, e2p, e2V, e3F, e3p, e3V, cnt, lf, fop, rt, ro, hi, as, le, so, pr, sA, stF, pl, av, te, tl, tal, top, trk, trb, trs, tro, rfl, by unfold okC; simpa only [chC, Bool.and_eq_true, allB_sp, decide_eq_true_eq, and_assoc] using h⟩
theorem q_initM : ∃ (ma : Ar) (a0 : Int32) (di : Ar) (ed : Int32) (hO : Ar) (hist : Ar) (lO : Ar) (now : Ar) (mO : Ar) (mo : Int32) (pO : Ar) (pre : Ar) (mp : Ar) (mrk : Ar) (rA : Ar) (rO : Ar) (rn : Int32) (rP : Ar) (rS : Ar) (mres : Nat → Int64) (sO : Ar) (stk : Ar) (mS : Ar) (md : Ar) (mtr : Ar) (my : Int32) (vals : Nat → Int64), f_X8_init 4000 = some (ma, a0, di, ed, hO, hist, lO, now, mO, mo, pO, pre, mp, mrk, rA, rO, rn, rP, rS, mres, sO, stk, mS, md, mtr, my, vals) ∧ okM my ed mo now mp ma mS mO := by
  have h := init_M
  cases e : f_X8_init 4000 with
  | none => rw [e] at h; cases h
  | some o =>
    rw [e] at h
    obtain ⟨ma, a0, di, ed, hO, hist, lO, now, mO, mo, pO, pre, mp, mrk, rA, rO, rn, rP, rS, mres, sO, stk, mS, md, mtr, my, vals⟩ := o
    exact ⟨ma, a0, di, ed, hO, hist, lO, now, mO, mo, pO, pre, mp, mrk, rA, rO, rn, rP, rS, mres, sO, stk, mS, md, mtr, my, vals, rfl, by unfold okM; simpa only [chM, Bool.and_eq_true, allB_sp, decide_eq_true_eq, and_assoc] using h⟩
theorem k5' : (5 : Int32) = nI (4 + 1) := by decide
theorem iP_ok : ∀ t, t < 9 → iP t = -1 ∨ (¬ iP t = -1 ∧ ∃ z, z < 3 ∧ iA t = nI z) := by decide +kernel
theorem iS_ok : ∀ i, i < 4 → iS i < 9 ∧ ¬ iP (iS i) = -1 := by decide +kernel
theorem init_rel {tl hi so pl : Int32} {pr as sA le av stF : Ar} {my ed mo : Int32} {now mp ma mS mO : Ar} (hC : okC tl hi so pl pr as sA le av) (hM : okM my ed mo now mp ma mS mO) : tl = nI 0 ∧ my = nI 0 ∧ hi = nI 0 ∧ ed = nI 0 ∧ SE 4 so pr as sA le mo mp ma mS mO ∧ SX pl stF av now := by
  obtain ⟨c1, c2, c3, c4, c5, c6, c7, c8, c9⟩ := hC
  obtain ⟨m1, m2, m3, m4, m5, m6, m7, m8, m9⟩ := hM
  refine ⟨by rw [c1, k0], by rw [m1, k0], by rw [c2, k0], by rw [m2, k0], ⟨by omega, by rw [c3, k5'], by rw [m3, k4], ⟨iS, fun i hi => ?_⟩, fun i hi => by rw [c7 i hi, m7 i hi], fun i hi => ⟨i, by omega, c8 i (by omega)⟩, fun i hi => by rw [m8 i (by omega), c8 i (by omega)], fun t ht => ?_⟩, ?_⟩
  · obtain ⟨s1, s2⟩ := iS_ok i hi
    have hz : ∃ z, z < 3 ∧ iA (iS i) = nI z := by
      rcases iP_ok _ s1 with h | h
      · exact absurd h s2
      · exact h.2
    refine ⟨m7 i hi, s1, ?_, ?_, ?_⟩
    · rw [m5 _ s1, if_neg s2, c5 _ s1]
    · rw [(m6 _ s1).resolve_left s2, (c6 _ s1).resolve_left s2]
    · rw [(c6 _ s1).resolve_left s2]; exact hz
  · rw [c5 t ht, m5 t ht]
    by_cases h : iP t = -1
    · exact Or.inl ⟨h, if_pos h⟩
    · exact Or.inr ⟨h, if_neg h⟩
  · rw [c4]
    exact SX_new (m4.trans k0) c9 m9
