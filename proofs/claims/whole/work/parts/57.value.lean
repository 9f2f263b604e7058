/-! 57: values -/
def VOK (x : Int64) : Prop := (∃ y : Int32, x = y.toInt64) ∨ x = 1099511627776 ∨ x = 2199023255552
def flB (x : Int64) : Bool := decide (x = 1099511627776) || decide (x = 2199023255552)
theorem i32_rng (y : Int32) : -2147483648 ≤ y.toInt ∧ y.toInt ≤ 2147483647 := by
  have h1 := Int32.le_toInt y
  have h2 := Int32.toInt_lt y
  omega
theorem m_failC {F : Nat} {x : Int64} : f_X6_isFailure F x = some (bI (flB x)) := by
  unfold f_X6_isFailure flB
  by_cases h : x = 1099511627776
  · rw [if_pos ((lg_cmp_eq _ _).mpr h), decide_eq_true h]; rfl
  · rw [if_neg (fun z => h ((lg_cmp_eq _ _).mp z)), decide_eq_false h, Bool.false_or]
    by_cases h2 : x = 2199023255552
    · rw [if_pos ((lg_cmp_eq _ _).mpr h2), decide_eq_true h2]; rfl
    · rw [if_neg (fun z => h2 ((lg_cmp_eq _ _).mp z)), decide_eq_false h2]; rfl
theorem i64_ne {y : Int32} {c : Int64} (h : c.toInt < -2147483648 ∨ 2147483647 < c.toInt) : y.toInt64 ≠ c := by
  intro e
  have h1 := i32_rng y
  have h2 : y.toInt64.toInt = c.toInt := by rw [e]
  rw [Int32.toInt_toInt64] at h2
  omega
theorem m_failM {F : Nat} {x : Int64} (h : VOK x) : f_X8_isFailure F x = some (bI (flB x)) := by
  unfold f_X8_isFailure flB
  rcases h with ⟨y, rfl⟩ | rfl | rfl
  · have hr := i32_rng y
    rw [if_pos ((lg_cmp_lt _ _).mpr (Int64.lt_iff_toInt_lt.mpr (by rw [Int32.toInt_toInt64, show (1099511627776 : Int64).toInt = 1099511627776 by decide]; omega))), decide_eq_false (i64_ne (Or.inr (by decide))), decide_eq_false (i64_ne (Or.inr (by decide)))]
    rfl
  · rfl
  · rfl
theorem m_fit {F : Nat} {x : Int64} : f_X8_fit F x = f_X6_intOrOverflow F x := by
  unfold f_X8_fit f_X6_intOrOverflow
  have e1 : (-2147483648 : Int64).toInt = -2147483648 := by decide
  have e2 : (2147483647 : Int64).toInt = 2147483647 := by decide
  by_cases h1 : x < -2147483648
  · have h1' := Int64.lt_iff_toInt_lt.mp h1
    rw [e1] at h1'
    rw [if_pos ((lg_cmp_lt _ _).mpr h1), if_neg (fun z => i64_ne (y := x.toInt32) (c := x) (Or.inl h1') ((lg_cmp_eq _ _).mp z).symm)]
  · rw [if_neg (fun z => h1 ((lg_cmp_lt _ _).mp z))]
    by_cases h2 : x ≤ 2147483647
    · have h2' := Int64.le_iff_toInt_le.mp h2
      rw [e2] at h2'
      have h1' : ¬ x.toInt < -2147483648 := fun z => h1 (Int64.lt_iff_toInt_lt.mpr (by rw [e1]; exact z))
      rw [if_pos ((lg_cmp_le _ _).mpr h2), if_pos]
      refine (lg_cmp_eq _ _).mpr (Int64.toInt_inj.mp ?_)
      rw [Int32.toInt_toInt64, Int64.toInt_toInt32]
      exact (Int.bmod_eq_of_le (by omega) (by omega)).symm
    · have h2' : ¬ x.toInt ≤ 2147483647 := fun z => h2 (Int64.le_iff_toInt_le.mpr (by rw [e2]; exact z))
      rw [if_neg (fun z => h2 ((lg_cmp_le _ _).mp z)), if_neg (fun z => i64_ne (y := x.toInt32) (c := x) (Or.inr (by omega)) ((lg_cmp_eq _ _).mp z).symm)]
def ioo (x : Int64) : Int64 := if x = x.toInt32.toInt64 then x else 1099511627776
theorem m_ioo {F : Nat} {x : Int64} : f_X6_intOrOverflow F x = some (ioo x) := by
  unfold f_X6_intOrOverflow ioo
  by_cases h : x = x.toInt32.toInt64
  · rw [if_pos ((lg_cmp_eq _ _).mpr h), if_pos h]
  · rw [if_neg (fun z => h ((lg_cmp_eq _ _).mp z)), if_neg h]
theorem ioo_ok (x : Int64) : VOK (ioo x) := by
  unfold ioo
  by_cases h : x = x.toInt32.toInt64
  · rw [if_pos h]; exact Or.inl ⟨_, h⟩
  · rw [if_neg h]; exact Or.inr (Or.inl rfl)
def cmb (s : Int32) (x y : Int64) : Int64 :=
  if s = 0 then ioo (x + y) else if s = 1 then ioo (x - y) else if s = 2 then ioo (x * y)
  else if s = 3 then (if y = 0 then 2199023255552 else ioo (x / y)) else if s = 4 then (if y = 0 then 2199023255552 else x - x / y * y)
  else if s = 5 then x &&& y else if s = 6 then x ||| y else if s = 7 then (if y ≤ x then 0 else 1) else (if x = y then 1 else 0)
theorem m_combine {F : Nat} {s : Int32} {x y : Int64} : f_X6_combine F s x y = some (cmb s x y) := by
  unfold f_X6_combine cmb
  rw [m_ioo, m_ioo, m_ioo, m_ioo, Option.bind_some, Option.bind_some, Option.bind_some, Option.bind_some]
  by_cases h0 : s = 0
  · rw [if_pos h0, if_pos h0]
  · rw [if_neg h0, if_neg h0]
    by_cases h1 : s = 1
    · rw [if_pos h1, if_pos h1]
    · rw [if_neg h1, if_neg h1]
      by_cases h2 : s = 2
      · rw [if_pos h2, if_pos h2]
      · rw [if_neg h2, if_neg h2]
        by_cases h3 : s = 3
        · rw [if_pos h3, if_pos h3]
          by_cases z : y = 0
          · rw [if_pos ((lg_cmp_eq _ _).mpr z), if_pos z]
          · rw [if_neg (fun w => z ((lg_cmp_eq _ _).mp w)), if_neg z, gnz_ok z]
        · rw [if_neg h3, if_neg h3]
          by_cases h4 : s = 4
          · rw [if_pos h4, if_pos h4]
            by_cases z : y = 0
            · rw [if_pos ((lg_cmp_eq _ _).mpr z), if_pos z]
            · rw [if_neg (fun w => z ((lg_cmp_eq _ _).mp w)), if_neg z, gnz_ok z]
          · rw [if_neg h4, if_neg h4]
            by_cases h5 : s = 5
            · rw [if_pos h5, if_pos h5]
            · rw [if_neg h5, if_neg h5]
              by_cases h6 : s = 6
              · rw [if_pos h6, if_pos h6]
              · rw [if_neg h6, if_neg h6]
                by_cases h7 : s = 7
                · rw [if_pos h7, if_pos h7]
                  by_cases z : y ≤ x
                  · rw [if_pos ((lg_cmp_ge _ _).mpr z), if_pos z]
                  · rw [if_neg (fun w => z ((lg_cmp_ge _ _).mp w)), if_neg z]
                · rw [if_neg h7, if_neg h7]
                  by_cases z : x = y
                  · rw [if_pos ((lg_cmp_eq _ _).mpr z), if_pos z]
                  · rw [if_neg (fun w => z ((lg_cmp_eq _ _).mp w)), if_neg z]
theorem m_apply8 {F : Nat} {s : Int32} {x y : Int64} : f_X8_apply F s x y = some (cmb s x y) := by
  rw [← m_combine (F := F)]
  unfold f_X8_apply f_X6_combine
  rw [m_fit, m_fit, m_fit, m_fit]
theorem rem_ok (a b : Int32) (hb : b.toInt64 ≠ 0) : ∃ y : Int32, a.toInt64 - a.toInt64 / b.toInt64 * b.toInt64 = y.toInt64 := by
  have ha := i32_rng a
  have hb2 := i32_rng b
  have hz : b.toInt ≠ 0 := by
    intro e
    apply hb
    apply Int64.toInt_inj.mp
    rw [Int32.toInt_toInt64, e]
    rfl
  have hd : (a.toInt64 / b.toInt64).toInt = (a.toInt.tdiv b.toInt) := by
    rw [Int64.toInt_div, Int32.toInt_toInt64, Int32.toInt_toInt64]
    have h1 : (a.toInt.tdiv b.toInt).natAbs ≤ a.toInt.natAbs := by
      rw [Int.natAbs_tdiv]; exact Nat.div_le_self _ _
    exact Int.bmod_eq_of_le (by omega) (by omega)
  have hm := Int.tmod_add_tdiv_mul a.toInt b.toInt
  have h2 : (a.toInt.tmod b.toInt).natAbs ≤ a.toInt.natAbs := by
    rw [Int.natAbs_tmod]; exact Nat.mod_le _ _
  have h4 : (a.toInt.tmod b.toInt).natAbs < b.toInt.natAbs := by
    rw [Int.natAbs_tmod]; exact Nat.mod_lt _ (by omega)
  have h3 : a.toInt.tdiv b.toInt * b.toInt = a.toInt - a.toInt.tmod b.toInt := by omega
  refine ⟨Int32.ofInt (a.toInt.tmod b.toInt), Int64.toInt_inj.mp ?_⟩
  rw [Int64.toInt_sub, Int64.toInt_mul, hd, Int32.toInt_toInt64, Int32.toInt_toInt64, Int32.toInt_toInt64, h3, show (a.toInt - a.toInt.tmod b.toInt).bmod (2 ^ 64) = a.toInt - a.toInt.tmod b.toInt from Int.bmod_eq_of_le (by omega) (by omega), show (a.toInt - (a.toInt - a.toInt.tmod b.toInt)).bmod (2 ^ 64) = a.toInt - (a.toInt - a.toInt.tmod b.toInt) from Int.bmod_eq_of_le (by omega) (by omega), Int32.toInt_ofInt_of_le (by omega) (by omega)]
  omega
theorem cmb_ok (s : Int32) (a b : Int32) : VOK (cmb s a.toInt64 b.toInt64) := by
  unfold cmb
  have z0 : VOK 0 := Or.inl ⟨0, by decide⟩
  have z1 : VOK 1 := Or.inl ⟨1, by decide⟩
  have zf : VOK 2199023255552 := Or.inr (Or.inr rfl)
  repeat' split
  all_goals first
    | exact ioo_ok _
    | exact zf
    | exact z0
    | exact z1
    | exact Or.inl ⟨a &&& b, (Int32.toInt64_and a b).symm⟩
    | exact Or.inl ⟨a ||| b, (Int32.toInt64_or a b).symm⟩
    | (rename_i h; exact Or.inl (rem_ok a b h))
/-- an operator's value -/
def nV (s : Int32) (x y : Int64) : Int64 := if flB x then x else if flB y then y else cmb s x y
theorem nV_ok {s : Int32} {x y : Int64} (hx : VOK x) (hy : VOK y) : VOK (nV s x y) := by
  unfold nV
  cases h1 : flB x with
  | true => simp only [if_true]; exact hx
  | false =>
    simp only [Bool.false_eq_true, if_false]
    cases h2 : flB y with
    | true => simp only [if_true]; exact hy
    | false =>
      simp only [Bool.false_eq_true, if_false]
      have z : ∀ w, VOK w → flB w = false → ∃ y : Int32, w = y.toInt64 := by
        intro w hw hf
        rcases hw with h | h | h
        · exact h
        · rw [h] at hf; cases hf
        · rw [h] at hf; cases hf
      obtain ⟨a, rfl⟩ := z x hx h1
      obtain ⟨b, rfl⟩ := z y hy h2
      exact cmb_ok s a b
/-- a span's value -/
def ev (P D : PT) (sA : Ar) (lv : Nat → Int64) : Nat → Nat → Nat → Nat → Nat → Int64
  | 0, lo, _, _, _ => lv lo
  | f + 1, lo, hi, c, k => if lo < hi then nV (sA (tQ P D lo hi c k)) (ev P D sA lv f lo (tQ P D lo hi c k) (1 + 2 * tQ P D lo hi c k) (tL P D lo hi c k)) (ev P D sA lv f (tQ P D lo hi c k + 1) hi (2 + 2 * tQ P D lo hi c k) (tR P D lo hi c k)) else lv lo
theorem ev_ok {P D : PT} {sA : Ar} {lv : Nat → Int64} (hl : ∀ i, VOK (lv i)) : ∀ (f lo hi c k : Nat), VOK (ev P D sA lv f lo hi c k) := by
  intro f
  induction f with
  | zero => intro lo hi c k; exact hl lo
  | succ f ih =>
    intro lo hi c k
    rw [ev]
    by_cases h : lo < hi
    · rw [if_pos h]; exact nV_ok (ih _ _ _ _) (ih _ _ _ _)
    · rw [if_neg h]; exact hl lo
theorem ev_fuel {P D : PT} {sA : Ar} {lv : Nat → Int64} : ∀ (f f' lo hi c k : Nat), VT P D lo hi c k → hi - lo ≤ f → hi - lo ≤ f' → ev P D sA lv f lo hi c k = ev P D sA lv f' lo hi c k := by
  intro f
  induction f with
  | zero =>
    intro f' lo hi c k hv h1 h2
    cases f' with
    | zero => rfl
    | succ f' => rw [ev, ev, if_neg (by omega)]
  | succ f ih =>
    intro f' lo hi c k hv h1 h2
    by_cases h : lo < hi
    · cases f' with
      | zero => omega
      | succ f' =>
        obtain ⟨b1, b2, b3, b4, b5, b6, b7, b8⟩ := vt_all h hv
        rw [ev, ev, if_pos h, if_pos h, ih f' _ _ _ _ b7 (by omega) (by omega), ih f' _ _ _ _ b8 (by omega) (by omega)]
    · cases f' with
      | zero => rw [ev, ev, if_neg h]
      | succ f' => rw [ev, ev, if_neg h, if_neg h]
/-- unfold a located span's value -/
theorem ev_nd {P D : PT} {sA : Ar} {lv : Nat → Int64} {a b q c k : Nat} (h : a < b) (hb : b ≤ 10) (hv : VT P D a b c k) (hq : tQ P D a b c k = q) : ev P D sA lv 10 a b c k = nV (sA q) (ev P D sA lv 10 a q (1 + 2 * q) (tL P D a b c k)) (ev P D sA lv 10 (q + 1) b (2 + 2 * q) (tR P D a b c k)) := by
  obtain ⟨b1, b2, b3, b4, b5, b6, b7, b8⟩ := vt_all h hv
  rw [ev, if_pos h, hq]
  rw [hq] at b7 b8 b1 b2
  rw [ev_fuel 9 10 _ _ _ _ b7 (by omega) (by omega), ev_fuel 9 10 _ _ _ _ b8 (by omega) (by omega)]
