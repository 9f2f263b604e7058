/-! 66: what edits change, on both sides; the history -/
theorem n1a (a : Nat) : (1 : Int32) + nI a = nI (1 + a) := by rw [k1, nI_add]
theorem na2 (a : Nat) : nI a + 2 = nI (a + 2) := by rw [k2, nI_add]
theorem na3 (a : Nat) : nI a + 3 = nI (a + 3) := by rw [k3, nI_add]
theorem na4 (a : Nat) : nI a + 4 = nI (a + 4) := by rw [k4, nI_add]
theorem n4m (a : Nat) : (4 : Int32) * nI a = nI (4 * a) := by rw [k4, pk_mul]
theorem n51m (a : Nat) : (51 : Int32) * nI a = nI (51 * a) := by rw [k51, pk_mul]
theorem na51 (a : Nat) : nI a + 51 = nI (a + 51) := by rw [k51, nI_add]
theorem g051 {α : Type} (x : Option α) : gar 0 51 x = x := by rw [k0]; exact gar_n (by omega) (by omega)
theorem c00 : Int32.toNatClampNeg 0 = 0 := by decide
theorem c06 : Int32.toNatClampNeg 6 = 6 := by decide
theorem c26 : Int32.toNatClampNeg 26 = 26 := by decide
/-- the present pipeline and variables, on both sides -/
def ST (K : Nat) (fl : Nat → FL) (pl : Int32) (stF av now : Ar) : Prop := K ≤ 6 ∧ pl = nI K ∧ now 0 = nI K ∧ (∀ i, i < K → stF i = fcode (fl i) ∧ okF (fl i)) ∧ NowF now fl K ∧ (∀ j, j < 26 → now (25 + j) = av j)
def SX (pl : Int32) (stF av now : Ar) : Prop := ∃ K fl, ST K fl pl stF av now
theorem SX.congr {pl : Int32} {f g v w a b : Ar} (h : SX pl f v a) (hf : ∀ i, i < 6 → g i = f i) (hv : ∀ i, i < 26 → w i = v i) (ha : ∀ i, i < 51 → b i = a i) : SX pl g w b := by
  obtain ⟨K, fl, h1, h2, h3, h4, h5, h6⟩ := h
  refine ⟨K, fl, h1, h2, by rw [ha 0 (by omega)]; exact h3, fun i hi => ⟨by rw [hf i (by omega)]; exact (h4 i hi).1, (h4 i hi).2⟩, fun i hi => ?_, fun j hj => by rw [ha _ (by omega), hv j hj]; exact h6 j hj⟩
  obtain ⟨n0, n1, n2, n3, n4⟩ := h5 i hi
  exact ⟨n0, by rw [ha _ (by omega)]; exact n1, by rw [ha _ (by omega)]; exact n2, by rw [ha _ (by omega)]; exact n3, by rw [ha _ (by omega)]; exact n4⟩
def HX (h : Nat) (e0F : Ar) (e0p : Int32) (e0V : Ar) (e1F : Ar) (e1p : Int32) (e1V : Ar) (e2F : Ar) (e2p : Int32) (e2V : Ar) (e3F : Ar) (e3p : Int32) (e3V : Ar) (hist : Ar) : Prop :=
  (0 < h → SX e0p e0F e0V (fun i => hist i)) ∧ (1 < h → SX e1p e1F e1V (fun i => hist (51 + i))) ∧ (2 < h → SX e2p e2F e2V (fun i => hist (102 + i))) ∧ (3 < h → SX e3p e3F e3V (fun i => hist (153 + i)))
theorem cpyF {f g : Ar} {i : Nat} (h : i < 6) : va_cpy f g (Int32.toNatClampNeg 0) (Int32.toNatClampNeg 0) (Int32.toNatClampNeg 6) i = f i := by rw [c00, c06]; exact sb_cpy0 h
theorem cpyV {f g : Ar} {i : Nat} (h : i < 26) : va_cpy f g (Int32.toNatClampNeg 0) (Int32.toNatClampNeg 0) (Int32.toNatClampNeg 26) i = f i := by rw [c00, c26]; exact sb_cpy0 h
theorem m_push50 {F h : Nat} {now : Ar} (hh : h ≤ 3) : ∀ (m v : Nat) (hist : Ar) (X : Ar → Option (Int32 × Ar)), v ≤ 51 → 51 - v < m → ∃ hist', f_X8_push_l50 F (nI h) now m (nI v) hist X = X hist' ∧ (∀ i, v ≤ i → i < 51 → hist' (51 * h + i) = now i) ∧ (∀ j, j < 51 * h + v → hist' j = hist j) := by
  intro m
  induction m with
  | zero => intro v hist X h1 h2; omega
  | succ m ih =>
    intro v hist X h1 h2
    rw [f_X8_push_l50]
    by_cases hz : 51 ≤ v
    · rw [k51, if_pos (nI_le hz (by omega))]
      exact ⟨hist, rfl, fun i h3 h4 => by omega, fun j _ => rfl⟩
    · rw [n51m, k51, if_neg (nI_ge (by omega) (by omega)), gar_n (by omega) (by omega), nI_add, gar_n (by omega) (by omega), nI_clamp (by omega), nI_clamp (by omega), nI_1]
      obtain ⟨hist', e1, e2, e3⟩ := ih (v + 1) (upd hist (51 * h + v) (now v)) X (by omega) (by omega)
      refine ⟨hist', e1, fun i h3 h4 => ?_, fun j hj => ?_⟩
      · by_cases e : i = v
        · subst e; rw [e3 _ (by omega), pk_us]
        · exact e2 i (by omega) h4
      · rw [e3 j (by omega), pk_un (by omega)]
theorem m_push10 {F : Nat} : ∀ (m v : Nat) (hist : Ar) (X : Ar → Option (Int32 × Ar)), v ≤ 153 → 153 - v < m → ∃ hist', f_X8_push_l10 F m (nI v) hist X = X hist' ∧ (∀ j, v ≤ j → j < 153 → hist' j = hist (j + 51)) ∧ (∀ j, j < v → hist' j = hist j) := by
  intro m
  induction m with
  | zero => intro v hist X h1 h2; omega
  | succ m ih =>
    intro v hist X h1 h2
    rw [f_X8_push_l10]
    by_cases hz : 153 ≤ v
    · rw [k153, if_pos (nI_le hz (by omega))]
      exact ⟨hist, rfl, fun i h3 h4 => by omega, fun j _ => rfl⟩
    · rw [k153, if_neg (nI_ge (by omega) (by omega)), na51, gar_n (by omega) (by omega), gar_n (by omega) (by omega), nI_clamp (by omega), nI_clamp (by omega), nI_1]
      obtain ⟨hist', e1, e2, e3⟩ := ih (v + 1) (upd hist v (hist (v + 51))) X (by omega) (by omega)
      refine ⟨hist', e1, fun j h3 h4 => ?_, fun j hj => ?_⟩
      · by_cases e : j = v
        · subst e; rw [e3 _ (by omega), pk_us]
        · rw [e2 j (by omega) h4, pk_un (by omega)]
      · rw [e3 j (by omega), pk_un (by omega)]
/-- how many edits can be undone after one more -/
def hN (h : Nat) : Nat := if h < 4 then h + 1 else 4
theorem m_push {F h : Nat} {now hist : Ar} (hF : 154 < F) (hh : h ≤ 4) : ∃ hist', f_X8_push F (nI h) hist now = some (nI (hN h), hist') ∧ (∀ i, i < 51 → hist' (51 * (hN h - 1) + i) = now i) ∧ (∀ j, h < 4 → j < 51 * h → hist' j = hist j) ∧ (∀ j, h = 4 → j < 153 → hist' j = hist (j + 51)) := by
  unfold f_X8_push f_X8_push_b48 hN
  by_cases h4 : h = 4
  · subst h4
    rw [if_pos (show nI 4 = 4 by decide), show nI 4 - 1 = nI 3 by decide, k0]
    obtain ⟨h1, a1, a2, -⟩ := m_push10 (F := F) F 0 hist (fun md_history => (f_X8_push_l50 F (nI 3) now F (nI 0) md_history (fun md_history => (some ((nI 3) + 1, md_history))))) (by omega) (by omega)
    obtain ⟨h2, b1, b2, b3⟩ := m_push50 (F := F) (h := 3) (now := now) (by omega) F 0 h1 (fun md_history => (some ((nI 3) + 1, md_history))) (by omega) (by omega)
    refine ⟨h2, ?_, fun i hi => b2 i (by omega) hi, fun j hj => by omega, fun j _ hj => ?_⟩
    · rw [a1]
      try simp only []
      rw [b1, nI_1]
      rfl
    · rw [b3 j (by omega)]; exact a2 j (by omega) hj
  · rw [if_neg (show ¬ nI h = 4 from fun z => h4 ((nI_eq (by omega) (by omega)).mp (z.trans k4))), k0, if_pos (show h < 4 by omega)]
    obtain ⟨h2, b1, b2, b3⟩ := m_push50 (F := F) (h := h) (now := now) (by omega) F 0 hist (fun md_history => (some ((nI h) + 1, md_history))) (by omega) (by omega)
    refine ⟨h2, by rw [b1, nI_1], fun i hi => b2 i (by omega) hi, fun j _ hj => b3 j (by omega), fun j z => by omega⟩
theorem SX.save {pl : Int32} {stF av now g w b : Ar} (h : SX pl stF av now) (hb : ∀ i, i < 51 → b i = now i) : SX pl (va_cpy stF g (Int32.toNatClampNeg 0) (Int32.toNatClampNeg 0) (Int32.toNatClampNeg 6)) (va_cpy av w (Int32.toNatClampNeg 0) (Int32.toNatClampNeg 0) (Int32.toNatClampNeg 26)) b := h.congr (fun i hi => cpyF hi) (fun i hi => cpyV hi) hb
theorem SX.mv {pl : Int32} {f v a b : Ar} (h : SX pl f v a) (hb : ∀ i, i < 51 → b i = a i) : SX pl f v b := h.congr (fun i _ => rfl) (fun i _ => rfl) hb
theorem m_save {F h : Nat} {e0F : Ar} {e0p : Int32} {e0V : Ar} {e1F : Ar} {e1p : Int32} {e1V : Ar} {e2F : Ar} {e2p : Int32} {e2V : Ar} {e3F : Ar} {e3p : Int32} {e3V : Ar} {stF av now hist : Ar} {pl : Int32} (hF : 154 < F) (hh : h ≤ 4) (hS : SX pl stF av now) (hX : HX h e0F e0p e0V e1F e1p e1V e2F e2p e2V e3F e3p e3V hist) :
    ∃ (a0F : Ar) (a0p : Int32) (a0V : Ar) (a1F : Ar) (a1p : Int32) (a1V : Ar) (a2F : Ar) (a2p : Int32) (a2V : Ar) (a3F : Ar) (a3p : Int32) (a3V : Ar), ∃ hist', f_X3_save F e0F e0p e0V e1F e1p e1V e2F e2p e2V e3F e3p e3V (nI h) stF pl av = some (a0F, a0p, a0V, a1F, a1p, a1V, a2F, a2p, a2V, a3F, a3p, a3V, nI (hN h)) ∧ f_X8_push F (nI h) hist now = some (nI (hN h), hist') ∧ HX (hN h) a0F a0p a0V a1F a1p a1V a2F a2p a2V a3F a3p a3V hist' := by
  obtain ⟨hist', p1, p2, p3, p4⟩ := m_push (F := F) (now := now) (hist := hist) hF hh
  obtain ⟨x0, x1, x2, x3⟩ := hX
  unfold f_X3_save f_X0_copyFrom f_X3_dropOldest
  rcases (show h = 0 ∨ h = 1 ∨ h = 2 ∨ h = 3 ∨ h = 4 by omega) with e | e | e | e | e <;> subst e
  · rw [if_pos (show nI 0 < 4 by decide), if_pos (show nI 0 = 0 by decide), Option.bind_some]
    exact ⟨_, _, _, _, _, _, _, _, _, _, _, _, hist', by rw [show nI 0 + 1 = nI (hN 0) by decide], p1, fun _ => hS.save (fun i hi => by have := p2 i hi; simpa [hN, Nat.add_comm] using this), fun z => absurd z (by decide), fun z => absurd z (by decide), fun z => absurd z (by decide)⟩
  · rw [if_pos (show nI 1 < 4 by decide), if_neg (show ¬ nI 1 = 0 by decide), if_pos (show nI 1 = 1 by decide), Option.bind_some]
    exact ⟨_, _, _, _, _, _, _, _, _, _, _, _, hist', by rw [show nI 1 + 1 = nI (hN 1) by decide], p1, fun _ => (x0 (by decide)).mv (fun i hi => p3 _ (by omega) (by omega)), fun _ => hS.save (fun i hi => by have := p2 i hi; simpa [hN, Nat.add_comm] using this), fun z => absurd z (by decide), fun z => absurd z (by decide)⟩
  · rw [if_pos (show nI 2 < 4 by decide), if_neg (show ¬ nI 2 = 0 by decide), if_neg (show ¬ nI 2 = 1 by decide), if_pos (show nI 2 = 2 by decide), Option.bind_some]
    exact ⟨_, _, _, _, _, _, _, _, _, _, _, _, hist', by rw [show nI 2 + 1 = nI (hN 2) by decide], p1, fun _ => (x0 (by decide)).mv (fun i hi => p3 _ (by omega) (by omega)), fun _ => (x1 (by decide)).mv (fun i hi => p3 _ (by omega) (by omega)), fun _ => hS.save (fun i hi => by have := p2 i hi; simpa [hN, Nat.add_comm] using this), fun z => absurd z (by decide)⟩
  · rw [if_pos (show nI 3 < 4 by decide), if_neg (show ¬ nI 3 = 0 by decide), if_neg (show ¬ nI 3 = 1 by decide), if_neg (show ¬ nI 3 = 2 by decide), if_pos (show nI 3 = 3 by decide), Option.bind_some]
    exact ⟨_, _, _, _, _, _, _, _, _, _, _, _, hist', by rw [show nI 3 + 1 = nI (hN 3) by decide], p1, fun _ => (x0 (by decide)).mv (fun i hi => p3 _ (by omega) (by omega)), fun _ => (x1 (by decide)).mv (fun i hi => p3 _ (by omega) (by omega)), fun _ => (x2 (by decide)).mv (fun i hi => p3 _ (by omega) (by omega)), fun _ => hS.save (fun i hi => by have := p2 i hi; simpa [hN, Nat.add_comm] using this)⟩
  · rw [if_neg (show ¬ nI 4 < 4 by decide), Option.bind_some]
    simp only []
    rw [if_neg (show ¬ nI 4 - 1 = 0 by decide), if_neg (show ¬ nI 4 - 1 = 1 by decide), if_neg (show ¬ nI 4 - 1 = 2 by decide), if_pos (show nI 4 - 1 = 3 by decide), Option.bind_some]
    exact ⟨_, _, _, _, _, _, _, _, _, _, _, _, hist', by rw [show nI 4 - 1 + 1 = nI (hN 4) by decide], p1, fun _ => (x1 (by decide)).mv (fun i hi => (p4 _ rfl (by omega)).trans (congrArg hist (show _ = _ by omega))), fun _ => (x2 (by decide)).mv (fun i hi => (p4 _ rfl (by omega)).trans (congrArg hist (show _ = _ by omega))), fun _ => (x3 (by decide)).mv (fun i hi => (p4 _ rfl (by omega)).trans (congrArg hist (show _ = _ by omega))), fun _ => hS.save (fun i hi => by have := p2 i hi; simpa [hN, Nat.add_comm] using this)⟩
theorem m_undo22 {F h : Nat} {hist : Ar} (hh : h ≤ 3) : ∀ (m v : Nat) (now : Ar) (X : Ar → Option (Int32 × Int32 × Ar)), v ≤ 51 → 51 - v < m → ∃ now', f_X8_undo_l22 F (nI h) hist m (nI v) now X = X now' ∧ (∀ i, v ≤ i → i < 51 → now' i = hist (51 * h + i)) ∧ (∀ i, i < v → now' i = now i) := by
  intro m
  induction m with
  | zero => intro v now X h1 h2; omega
  | succ m ih =>
    intro v now X h1 h2
    rw [f_X8_undo_l22]
    by_cases hz : 51 ≤ v
    · rw [k51, if_pos (nI_le hz (by omega))]
      exact ⟨now, rfl, fun i h3 h4 => by omega, fun j _ => rfl⟩
    · rw [n51m, k51, if_neg (nI_ge (by omega) (by omega)), nI_add, gar_n (by omega) (by omega), gar_n (by omega) (by omega), nI_clamp (by omega), nI_clamp (by omega), nI_1]
      obtain ⟨now', e1, e2, e3⟩ := ih (v + 1) (upd now v (hist (51 * h + v))) X (by omega) (by omega)
      refine ⟨now', e1, fun i h3 h4 => ?_, fun j hj => ?_⟩
      · by_cases e : i = v
        · subst e; rw [e3 _ (by omega), pk_us]
        · exact e2 i (by omega) h4
      · rw [e3 j (by omega), pk_un (by omega)]
theorem HX.le {h k : Nat} {e0F : Ar} {e0p : Int32} {e0V : Ar} {e1F : Ar} {e1p : Int32} {e1V : Ar} {e2F : Ar} {e2p : Int32} {e2V : Ar} {e3F : Ar} {e3p : Int32} {e3V : Ar} {hist : Ar} (hX : HX h e0F e0p e0V e1F e1p e1V e2F e2p e2V e3F e3p e3V hist) (hk : k ≤ h) : HX k e0F e0p e0V e1F e1p e1V e2F e2p e2V e3F e3p e3V hist := ⟨fun z => hX.1 (by omega), fun z => hX.2.1 (by omega), fun z => hX.2.2.1 (by omega), fun z => hX.2.2.2 (by omega)⟩
theorem q_undo {F h : Nat} {e0F : Ar} {e0p : Int32} {e0V : Ar} {e1F : Ar} {e1p : Int32} {e1V : Ar} {e2F : Ar} {e2p : Int32} {e2V : Ar} {e3F : Ar} {e3p : Int32} {e3V : Ar} {stF av now hist : Ar} {pl : Int32} (hF : 154 < F) (hh : h ≤ 4) (hS : SX pl stF av now) (hX : HX h e0F e0p e0V e1F e1p e1V e2F e2p e2V e3F e3p e3V hist) :
    ∃ (a : Int32) (k : Nat) (f : Ar) (p : Int32) (v n : Ar), f_X7_undo F e0F e0p e0V e1F e1p e1V e2F e2p e2V e3F e3p e3V (nI h) stF pl av = some (a, nI k, f, p, v) ∧ f_X8_undo F (nI h) hist now = some (a, nI k, n) ∧ k ≤ h ∧ SX p f v n := by
  obtain ⟨x0, x1, x2, x3⟩ := hX
  unfold f_X7_undo f_X8_undo f_X3_restore f_X0_copyFrom
  rcases (show h = 0 ∨ h = 1 ∨ h = 2 ∨ h = 3 ∨ h = 4 by omega) with e | e | e | e | e <;> subst e
  · rw [if_neg (show ¬ 0 < nI 0 by decide), Option.bind_some, if_pos (show nI 0 = 0 by decide)]
    exact ⟨_, 0, _, _, _, _, rfl, rfl, Nat.le_refl _, hS⟩
  · obtain ⟨n1, u1, u2, -⟩ := m_undo22 (F := F) (h := 0) (hist := hist) (by omega) F 0 now (fun md_now => (some (nI 0, nI 0, md_now))) (by omega) (by omega)
    rw [if_pos (show 0 < nI 1 by decide), show nI 1 - 1 = nI 0 by decide, if_pos (show nI 0 = 0 by decide), Option.bind_some, Option.bind_some, if_neg (show ¬ (1 : Int32) = 0 by decide), if_neg (show ¬ nI 1 = 0 by decide)]
    rw [k0 , u1]
    exact ⟨_, 0, _, _, _, n1, rfl, rfl, by omega, (x0 (by decide)).save (fun i hi => by have := u2 i (by omega) hi; simpa using this)⟩
  · obtain ⟨n1, u1, u2, -⟩ := m_undo22 (F := F) (h := 1) (hist := hist) (by omega) F 0 now (fun md_now => (some (nI 1, nI 1, md_now))) (by omega) (by omega)
    rw [if_pos (show 0 < nI 2 by decide), show nI 2 - 1 = nI 1 by decide, if_neg (show ¬ nI 1 = 0 by decide), if_pos (show nI 1 = 1 by decide), Option.bind_some, Option.bind_some, if_neg (show ¬ (1 : Int32) = 0 by decide), if_neg (show ¬ nI 2 = 0 by decide)]
    rw [k0 , u1]
    exact ⟨_, 1, _, _, _, n1, rfl, rfl, by omega, (x1 (by decide)).save (fun i hi => by have := u2 i (by omega) hi; simpa using this)⟩
  · obtain ⟨n1, u1, u2, -⟩ := m_undo22 (F := F) (h := 2) (hist := hist) (by omega) F 0 now (fun md_now => (some (nI 2, nI 2, md_now))) (by omega) (by omega)
    rw [if_pos (show 0 < nI 3 by decide), show nI 3 - 1 = nI 2 by decide, if_neg (show ¬ nI 2 = 0 by decide), if_neg (show ¬ nI 2 = 1 by decide), if_pos (show nI 2 = 2 by decide), Option.bind_some, Option.bind_some, if_neg (show ¬ (1 : Int32) = 0 by decide), if_neg (show ¬ nI 3 = 0 by decide)]
    rw [k0 , u1]
    exact ⟨_, 2, _, _, _, n1, rfl, rfl, by omega, (x2 (by decide)).save (fun i hi => by have := u2 i (by omega) hi; simpa using this)⟩
  · obtain ⟨n1, u1, u2, -⟩ := m_undo22 (F := F) (h := 3) (hist := hist) (by omega) F 0 now (fun md_now => (some (nI 3, nI 3, md_now))) (by omega) (by omega)
    rw [if_pos (show 0 < nI 4 by decide), show nI 4 - 1 = nI 3 by decide, if_neg (show ¬ nI 3 = 0 by decide), if_neg (show ¬ nI 3 = 1 by decide), if_neg (show ¬ nI 3 = 2 by decide), if_pos (show nI 3 = 3 by decide), Option.bind_some, Option.bind_some, if_neg (show ¬ (1 : Int32) = 0 by decide), if_neg (show ¬ nI 4 = 0 by decide)]
    rw [k0 , u1]
    exact ⟨_, 3, _, _, _, n1, rfl, rfl, by omega, (x3 (by decide)).save (fun i hi => by have := u2 i (by omega) hi; simpa using this)⟩
