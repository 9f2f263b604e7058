/-! 70: the setup text: characters, symbols, words -/
/-- a symbol's number, an associativity's number, of a character (9, 3: none) -/
def syz (z : Nat) : Nat := if z = 43 then 0 else if z = 45 then 1 else if z = 42 then 2 else if z = 47 then 3 else if z = 37 then 4 else if z = 38 then 5 else if z = 124 then 6 else if z = 60 then 7 else if z = 61 then 8 else 9
def asz (z : Nat) : Nat := if z = 108 then 0 else if z = 114 then 1 else if z = 110 then 2 else 3
def syI (z : Nat) (w : Int32) : Int32 := if syz z < 9 then nI (syz z) else w
def asI (z : Nat) (w : Int32) : Int32 := if asz z < 3 then nI (asz z) else w
/-- with this much fuel the texts' indexes are found -/
def IdxOk (F : Nat) : Prop := (∀ z, z < 127 → f_J0_indexOf_0f7a4 F 1 (nI z) = some (syI z (-1))) ∧ (∀ z, z < 127 → f_J0_indexOf_0f7a4 F 2 (nI z) = some (asI z (-1)))
theorem idx_4000 : IdxOk 4000 := ⟨by decide +kernel, by decide +kernel⟩
theorem sym_tab : ∀ z, z < 127 → f_X8_symbolOfCharacter 0 (nI z) = some (syI z (-4)) := by decide +kernel
theorem dig_tab : ∀ z, z < 127 → f_X8_in 0 (nI z - 48) 0 9 = some (bI (decide (48 ≤ z ∧ z ≤ 57))) := by decide +kernel
theorem let_tab : ∀ z, z < 127 → f_X8_in 0 (nI z) 97 122 = some (bI (decide (97 ≤ z ∧ z ≤ 122))) := by decide +kernel
def asP (c : Int32) : Int32 := if c = 108 then 0 else if c = 114 then 1 else if c = 110 then 2 else -4
theorem as_tab : ∀ z, z < 127 → asP (nI z) = asI z (-4) := by decide +kernel
theorem syI_m1 (z : Nat) (w : Int32) (h : ¬ syz z < 9) : syI z w = w := if_neg h
theorem syI_ok (z : Nat) (w : Int32) (h : syz z < 9) : syI z w = nI (syz z) := if_pos h
theorem asI_m1 (z : Nat) (w : Int32) (h : ¬ asz z < 3) : asI z w = w := if_neg h
theorem asI_ok (z : Nat) (w : Int32) (h : asz z < 3) : asI z w = nI (asz z) := if_pos h
/-- the text's characters on both sides -/
def TK (L : Nat) (te md : Ar) : Prop := L ≤ 200 ∧ ∀ i, i < L → te i = md i ∧ ∃ z, 32 ≤ z ∧ z < 127 ∧ md i = nI z
def zz (md : Ar) (L q : Nat) : Nat := if q < L then (md q).toNatClampNeg else 0
def chA (md : Ar) (L q : Nat) : Int32 := if q < L then md q else -1
theorem ch_cases {L : Nat} {te md : Ar} (hT : TK L te md) (q : Nat) : (L ≤ q ∧ zz md L q = 0 ∧ chA md L q = -1) ∨ (q < L ∧ 32 ≤ zz md L q ∧ zz md L q < 127 ∧ chA md L q = nI (zz md L q) ∧ md q = nI (zz md L q) ∧ te q = nI (zz md L q)) := by
  unfold zz chA
  by_cases h : q < L
  · obtain ⟨h1, z, h2, h3, h4⟩ := hT.2 q h
    rw [if_pos h, if_pos h, h4, nI_clamp (by omega)]
    exact Or.inr ⟨h, h2, h3, rfl, rfl, h1.trans h4⟩
  · rw [if_neg h, if_neg h]
    exact Or.inl ⟨by omega, rfl, rfl⟩
theorem zz_in {L : Nat} {md : Ar} {q : Nat} (h : zz md L q ≠ 0) : q < L := by
  unfold zz at h
  rcases Nat.lt_or_ge q L with e | e
  · exact e
  · rw [if_neg (by omega)] at h; exact absurd rfl h
theorem zz_lt {L : Nat} {te md : Ar} (hT : TK L te md) (q : Nat) : zz md L q < 127 := by
  rcases ch_cases hT q with ⟨-, h, -⟩ | ⟨-, -, h, -⟩ <;> omega
theorem te_zz {L : Nat} {te md : Ar} (hT : TK L te md) {q : Nat} (h : q < L) : te q = nI (zz md L q) := by
  rcases ch_cases hT q with ⟨h1, -⟩ | ⟨-, -, -, -, -, h1⟩
  · omega
  · exact h1
theorem md_zz {L : Nat} {te md : Ar} (hT : TK L te md) {q : Nat} (h : q < L) : md q = nI (zz md L q) := by
  rcases ch_cases hT q with ⟨h1, -⟩ | ⟨-, -, -, -, h1, -⟩
  · omega
  · exact h1
theorem m_chAt {F L q : Nat} {te md : Ar} (hT : TK L te md) (hq : q < 2 ^ 31) : f_X8_characterAt F (nI q) md (nI L) = some (chA md L q) := by
  have hL := hT.1
  unfold f_X8_characterAt chA
  by_cases h : q < L
  · rw [if_pos h, if_neg (nI_ge h (by omega)), gar_n (by omega) (by omega), nI_clamp hq]
  · rw [if_neg h, if_pos (nI_le (by omega) hq)]
theorem chA_nI {L : Nat} {te md : Ar} (hT : TK L te md) (q c : Nat) (hc : 0 < c) (hc2 : c < 127) : chA md L q = nI c ↔ zz md L q = c := by
  rcases ch_cases hT q with ⟨h1, h2, h3⟩ | ⟨h1, h2, h3, h4, h5, h6⟩
  · rw [h2, h3]
    exact ⟨fun z => absurd z.symm (nI_not_m1 c (by omega)), fun z => by omega⟩
  · rw [h4, nI_eq (by omega) (by omega)]
theorem m_tk_t {F L q c : Nat} {te md : Ar} (hT : TK L te md) (hq : q < 2 ^ 30) (hc : 0 < c) (hc2 : c < 127) (h : zz md L q = c) : f_X8_isTaken F (nI c) (nI q) md (nI L) = some (1, nI (q + 1)) := by
  unfold f_X8_isTaken f_X8_isTaken_b17
  rw [m_chAt hT (by omega), Option.bind_some, if_pos ((chA_nI hT q c hc hc2).mpr h), if_neg (show ¬ (1 : Int32) = 0 by decide), nI_1]
  rfl
theorem m_tk_f {F L q c : Nat} {te md : Ar} (hT : TK L te md) (hq : q < 2 ^ 30) (hc : 0 < c) (hc2 : c < 127) (h : ¬ zz md L q = c) : f_X8_isTaken F (nI c) (nI q) md (nI L) = some (0, nI q) := by
  unfold f_X8_isTaken f_X8_isTaken_b17
  rw [m_chAt hT (by omega), Option.bind_some, if_neg (fun z => h ((chA_nI hT q c hc hc2).mp z)), if_pos (show (0 : Int32) = 0 from rfl), Int32.add_zero]
  rfl
theorem m_symZ {F L : Nat} {te md : Ar} (hT : TK L te md) (q : Nat) : f_X8_symbolOfCharacter F (chA md L q) = some (syI (zz md L q) (-4)) := by
  show f_X8_symbolOfCharacter 0 (chA md L q) = _
  rcases ch_cases hT q with ⟨h1, h2, h3⟩ | ⟨h1, h2, h3, h4, h5, h6⟩
  · rw [h2, h3]; decide +kernel
  · rw [h4]; exact sym_tab _ h3
theorem m_digZ {F L : Nat} {te md : Ar} (hT : TK L te md) (q : Nat) : f_X8_in F (chA md L q - 48) 0 9 = some (bI (decide (48 ≤ zz md L q ∧ zz md L q ≤ 57))) := by
  show f_X8_in 0 (chA md L q - 48) 0 9 = _
  rcases ch_cases hT q with ⟨h1, h2, h3⟩ | ⟨h1, h2, h3, h4, h5, h6⟩
  · rw [h2, h3]; decide +kernel
  · rw [h4]; exact dig_tab _ h3
theorem m_asZ {L : Nat} {te md : Ar} (hT : TK L te md) (q : Nat) : asP (chA md L q) = asI (zz md L q) (-4) := by
  rcases ch_cases hT q with ⟨h1, h2, h3⟩ | ⟨h1, h2, h3, h4, h5, h6⟩
  · rw [h2, h3]; decide +kernel
  · rw [h4]; exact as_tab _ h3
theorem m_asS {α : Type} (A : Int32 → α) (c : Int32) : (if c = 108 then A 0 else if c = 114 then A 1 else if c = 110 then A 2 else A (-4)) = A (asP c) := by
  unfold asP
  by_cases h1 : c = 108
  · rw [if_pos h1, if_pos h1]
  · rw [if_neg h1, if_neg h1]
    by_cases h2 : c = 114
    · rw [if_pos h2, if_pos h2]
    · rw [if_neg h2, if_neg h2]
      by_cases h3 : c = 110
      · rw [if_pos h3, if_pos h3]
      · rw [if_neg h3, if_neg h3]
theorem m_isOpd {F L q : Nat} {te md : Ar} (hT : TK L te md) (hq : q < 2 ^ 31) : f_X8_isOperand F (nI q) md (nI L) = some (bI (decide (97 ≤ zz md L q ∧ zz md L q ≤ 122))) := by
  unfold f_X8_isOperand
  rw [m_chAt hT hq, Option.bind_some, show f_X8_in F (chA md L q) 97 122 = some (bI (decide (97 ≤ zz md L q ∧ zz md L q ≤ 122))) by
    show f_X8_in 0 (chA md L q) 97 122 = _
    rcases ch_cases hT q with ⟨h1, h2, h3⟩ | ⟨h1, h2, h3, h4, h5, h6⟩
    · rw [h2, h3]; decide +kernel
    · rw [h4]; exact let_tab _ h3, Option.bind_some, gbo_b]
/-- a word at a place of the text -/
def wB (zf : Nat → Nat) (wd : Nat → Nat) (s : Nat) : Nat → Nat → Bool
  | _, 0 => true
  | v, m + 1 => decide (zf (s + v) = wd v) && wB zf wd s (v + 1) m
theorem m_word_l {F k w s L : Nat} {te md : Ar} (hT : TK L te md) (wd : Nat → Nat) (hk : k < 5) (hl : f_J0_length_8abf5 F k = some (nI w)) (hc : ∀ j, j < w → wd j < 127 ∧ f_J0_charAt_5068e F k (nI j) = some (nI (wd j))) (hs : s + w ≤ L) : ∀ (m v : Nat) (X : Option Int32), v ≤ w → w - v < m → f_X5_hasWord_l15 F k (nI s) te m (nI v) X = if wB (zz md L) wd s v (w - v) then X else some 0 := by
  have hL := hT.1
  intro m
  induction m with
  | zero => intro v X h1 h2; omega
  | succ m ih =>
    intro v X h1 h2
    rw [f_X5_hasWord_l15, glt_ok hk, hl, Option.bind_some]
    by_cases h : w ≤ v
    · rw [if_pos (nI_le h (by omega)), show w - v = 0 by omega, wB, if_pos rfl]
    · obtain ⟨c1, c2⟩ := hc v (by omega)
      have hz := zz_lt hT (s + v)
      rw [if_neg (nI_ge (by omega) (by omega)), nI_add, gar_n (by omega) (by omega), c2, Option.bind_some, nI_clamp (by omega), te_zz hT (show s + v < L by omega), show w - v = (w - (v + 1)) + 1 by omega, wB]
      by_cases q : zz md L (s + v) = wd v
      · rw [if_pos (by rw [q]), decide_eq_true q, Bool.true_and, nI_1, ih (v + 1) X (by omega) (by omega)]
      · rw [if_neg (fun z => q ((nI_eq (by omega) (by omega)).mp z)), decide_eq_false q, Bool.false_and, if_neg (by decide)]
theorem m_word {F k w s i L : Nat} {te md : Ar} (hT : TK L te md) (hF : 154 < F) (hw : w < 10) (wd : Nat → Nat) (hk : k < 5) (hl : f_J0_length_8abf5 F k = some (nI w)) (hc : ∀ j, j < w → wd j < 127 ∧ f_J0_charAt_5068e F k (nI j) = some (nI (wd j))) (hs : s ≤ i) (hi : i ≤ L) : f_X5_hasWord F k (nI s) (nI i) te = some (bI (decide (w ≤ i - s) && wB (zz md L) wd s 0 w)) := by
  have hL := hT.1
  unfold f_X5_hasWord
  rw [glt_ok hk, hl, Option.bind_some, pk_sub hs]
  by_cases h : w ≤ i - s
  · rw [if_pos (nI_le h (by omega)), k0, m_word_l hT wd hk hl hc (by omega) F 0 _ (by omega) (by omega), decide_eq_true h, Bool.true_and, Nat.sub_zero]
    cases wB (zz md L) wd s 0 w with
    | true => rfl
    | false => rfl
  · rw [if_neg (nI_ge (by omega) (by omega)), decide_eq_false h, Bool.false_and]; rfl
def wdO (j : Nat) : Nat := if j = 0 then 111 else 112
def wdE (j : Nat) : Nat := if j = 0 then 101 else if j = 1 then 120 else if j = 2 then 112 else 114
theorem len_tab : f_J0_length_8abf5 0 3 = some (nI 2) ∧ f_J0_length_8abf5 0 4 = some (nI 4) := by decide +kernel
theorem chO_tab : ∀ j, j < 2 → wdO j < 127 ∧ f_J0_charAt_5068e 0 3 (nI j) = some (nI (wdO j)) := by decide +kernel
theorem chE_tab : ∀ j, j < 4 → wdE j < 127 ∧ f_J0_charAt_5068e 0 4 (nI j) = some (nI (wdE j)) := by decide +kernel
theorem m_wordO {F s i L : Nat} {te md : Ar} (hT : TK L te md) (hF : 154 < F) (hs : s ≤ i) (hi : i ≤ L) : f_X5_hasWord F 3 (nI s) (nI i) te = some (bI (decide (2 ≤ i - s ∧ zz md L s = 111 ∧ zz md L (s + 1) = 112))) := by
  rw [m_word hT hF (by omega) wdO (by omega) len_tab.1 chO_tab hs hi]
  simp [wB, wdO]
theorem m_wordE {F s i L : Nat} {te md : Ar} (hT : TK L te md) (hF : 154 < F) (hs : s ≤ i) (hi : i ≤ L) : f_X5_hasWord F 4 (nI s) (nI i) te = some (bI (decide (4 ≤ i - s ∧ zz md L s = 101 ∧ zz md L (s + 1) = 120 ∧ zz md L (s + 2) = 112 ∧ zz md L (s + 3) = 114))) := by
  rw [m_word hT hF (by omega) wdE (by omega) len_tab.2 chE_tab hs hi]
  simp [wB, wdE]
