/-! 40: numbers and sums -/
theorem k0 : (0 : Int32) = nI 0 := by decide
theorem k1 : (1 : Int32) = nI 1 := by decide
theorem k2 : (2 : Int32) = nI 2 := by decide
theorem k3 : (3 : Int32) = nI 3 := by decide
theorem k4 : (4 : Int32) = nI 4 := by decide
theorem k5 : (5 : Int32) = nI 5 := by decide
theorem k6 : (6 : Int32) = nI 6 := by decide
theorem k7 : (7 : Int32) = nI 7 := by decide
theorem k8 : (8 : Int32) = nI 8 := by decide
theorem k9 : (9 : Int32) = nI 9 := by decide
theorem k10 : (10 : Int32) = nI 10 := by decide
theorem k11 : (11 : Int32) = nI 11 := by decide
theorem k25 : (25 : Int32) = nI 25 := by decide
theorem k26 : (26 : Int32) = nI 26 := by decide
theorem k51 : (51 : Int32) = nI 51 := by decide
theorem k121 : (121 : Int32) = nI 121 := by decide
theorem k153 : (153 : Int32) = nI 153 := by decide
theorem k200 : (200 : Int32) = nI 200 := by decide
theorem k300 : (300 : Int32) = nI 300 := by decide
theorem gar_n {α : Type} {a n : Nat} {x : Option α} (h : a < n) (hn : n < 2 ^ 31) : gar (nI a) n x = x := gar_ok (vp_in_nI h hn)
/-- a boolean as an int -/
def bI (b : Bool) : Int32 := if b then 1 else 0
theorem bI_t : bI true = 1 := rfl
theorem bI_f : bI false = 0 := rfl
theorem bI_01 (b : Bool) : bI b = 0 ∨ bI b = 1 := by cases b <;> simp [bI]
theorem bI_0 (b : Bool) : bI b = 0 ↔ b = false := by cases b <;> simp [bI]
theorem gbo_b {α : Type} (b : Bool) (x : Option α) : gbo (bI b) x = x := gbo_ok (bI_01 b)
theorem bI_ite {α : Type} (b : Bool) (x y : α) : (if bI b = 0 then x else y) = if b then y else x := by cases b <;> simp [bI]
/-- bit q of a set -/
def bq (w : Int32) (q : Nat) : Bool := decide (((w >>> (nI q &&& 31)) &&& 1) = 1)
/-- sums over a span, of ints and of numbers -/
def isum (f : Nat → Int32) (ok : Nat → Bool) : Nat → Nat → Int32
  | _, 0 => 0
  | lo, m + 1 => (if ok lo then f lo else 0) + isum f ok (lo + 1) m
def tsum (f : Nat → Nat) (ok : Nat → Bool) : Nat → Nat → Nat
  | _, 0 => 0
  | lo, m + 1 => (if ok lo then f lo else 0) + tsum f ok (lo + 1) m
theorem isum_nI {f : Nat → Int32} {g : Nat → Nat} {ok ok' : Nat → Bool} : ∀ (m lo : Nat), (∀ q, lo ≤ q → q < lo + m → ok q = ok' q ∧ (ok' q = true → f q = nI (g q))) → isum f ok lo m = nI (tsum g ok' lo m) := by
  intro m
  induction m with
  | zero => intro lo _; exact nI_0.symm
  | succ m ih =>
    intro lo h
    rw [isum, tsum, ih (lo + 1) (fun q h1 h2 => h q (by omega) (by omega)), ← nI_add]
    obtain ⟨h1, h2⟩ := h lo (Nat.le_refl _) (by omega)
    rw [h1]
    cases ho : ok' lo with
    | true => simp only [if_true]; rw [h2 ho]
    | false => simp only [Bool.false_eq_true, if_false]; rw [nI_0]
theorem tsum_congr {f g : Nat → Nat} {ok ok' : Nat → Bool} : ∀ (m lo : Nat), (∀ q, lo ≤ q → q < lo + m → ok q = ok' q ∧ (ok' q = true → f q = g q)) → tsum f ok lo m = tsum g ok' lo m := by
  intro m
  induction m with
  | zero => intro lo _; rfl
  | succ m ih =>
    intro lo h
    rw [tsum, tsum, ih (lo + 1) (fun q h1 h2 => h q (by omega) (by omega))]
    obtain ⟨h1, h2⟩ := h lo (Nat.le_refl _) (by omega)
    rw [h1]
    cases ho : ok' lo with
    | true => simp only [if_true]; rw [h2 ho]
    | false => simp only [Bool.false_eq_true, if_false]
theorem tsum_split (f : Nat → Nat) (ok : Nat → Bool) : ∀ (a lo b : Nat), tsum f ok lo (a + b) = tsum f ok lo a + tsum f ok (lo + a) b := by
  intro a
  induction a with
  | zero => intro lo b; simp [tsum]
  | succ a ih =>
    intro lo b
    rw [show a + 1 + b = (a + b) + 1 by omega, tsum, tsum, ih (lo + 1) b, show lo + 1 + a = lo + (a + 1) by omega]
    omega
theorem tsum_le {f g : Nat → Nat} {ok ok' : Nat → Bool} : ∀ (m lo : Nat), (∀ q, lo ≤ q → q < lo + m → (ok q = true → ok' q = true) ∧ f q ≤ g q) → tsum f ok lo m ≤ tsum g ok' lo m := by
  intro m
  induction m with
  | zero => intro lo _; exact Nat.le_refl _
  | succ m ih =>
    intro lo h
    rw [tsum, tsum]
    have h1 := ih (lo + 1) (fun q h1 h2 => h q (by omega) (by omega))
    obtain ⟨h2, h3⟩ := h lo (Nat.le_refl _) (by omega)
    cases ho : ok lo with
    | true => rw [h2 ho]; simp only [if_true]; omega
    | false => simp only [Bool.false_eq_true, if_false]; omega
theorem tsum_pos {f : Nat → Nat} {ok : Nat → Bool} : ∀ (m lo : Nat), 0 < tsum f ok lo m ↔ ∃ q, lo ≤ q ∧ q < lo + m ∧ ok q = true ∧ 0 < f q := by
  intro m
  induction m with
  | zero => intro lo; simp only [tsum]; constructor
            · intro h; omega
            · rintro ⟨q, h1, h2, -⟩; omega
  | succ m ih =>
    intro lo
    rw [tsum]
    constructor
    · intro h
      by_cases hp : 0 < tsum f ok (lo + 1) m
      · obtain ⟨q, h1, h2, h3⟩ := (ih (lo + 1)).mp hp
        exact ⟨q, by omega, by omega, h3⟩
      · cases ho : ok lo with
        | true => rw [ho] at h; simp only [if_true] at h; exact ⟨lo, by omega, by omega, ho, by omega⟩
        | false => rw [ho] at h; simp only [Bool.false_eq_true, if_false] at h; omega
    · rintro ⟨q, h1, h2, h3, h4⟩
      by_cases hq : q = lo
      · subst hq
        rw [h3]
        simp only [if_true]
        omega
      · have := (ih (lo + 1)).mpr ⟨q, by omega, by omega, h3, h4⟩
        omega
/-- trees of a span, by a count of roots -/
def Sf (f : Nat → Nat → Nat → Nat) (lo hi : Nat) (ok : Nat → Bool) : Nat := if lo < hi then tsum (f lo hi) ok lo (hi - lo) else 1
def Cn (P : Nat → Nat → Nat → Bool) (D : Nat → Nat → Nat → Bool) : Nat → Nat → Nat → Nat → Nat
  | 0, _, _, _ => 0
  | k + 1, lo, hi, r => if D lo hi r then Sf (Cn P D k) lo r (P 0 r) * Sf (Cn P D k) (r + 1) hi (P 1 r) else 0
theorem Sf_congr {f g : Nat → Nat → Nat → Nat} {lo hi : Nat} {ok ok' : Nat → Bool} (h : ∀ q, lo ≤ q → q < hi → ok q = ok' q ∧ (ok' q = true → f lo hi q = g lo hi q)) : Sf f lo hi ok = Sf g lo hi ok' := by
  unfold Sf
  by_cases hl : lo < hi
  · rw [if_pos hl, if_pos hl]
    exact tsum_congr _ _ (fun q h1 h2 => h q h1 (by omega))
  · rw [if_neg hl, if_neg hl]
/-- counts of spans that lie inside a span depend on the discards inside it alone, and on no more fuel than its length -/
theorem Cn_congr {P P' : Nat → Nat → Nat → Bool} {D D' : Nat → Nat → Nat → Bool} {N : Nat} (hP : ∀ s p c, p < N → c < N → P s p c = P' s p c) : ∀ (k k' lo hi r : Nat), (∀ a b q, lo ≤ a → b ≤ hi → a ≤ q → q < b → D a b q = D' a b q) → hi ≤ N → lo ≤ r → r < hi → hi - lo ≤ k → hi - lo ≤ k' → Cn P D k lo hi r = Cn P' D' k' lo hi r := by
  intro k
  induction k with
  | zero => intro k' lo hi r _ _ h1 h2 h3; omega
  | succ k ih =>
    intro k' lo hi r hD hN h1 h2 h3 h4
    cases k' with
    | zero => omega
    | succ k' =>
      rw [Cn, Cn, hD lo hi r (Nat.le_refl _) (Nat.le_refl _) h1 h2]
      rw [Sf_congr (g := Cn P' D' k') (ok' := P' 0 r) (lo := lo) (hi := r) (fun q q1 q2 => ⟨hP 0 r q (by omega) (by omega), fun _ => ih k' lo r q (fun a b x x1 x2 x3 x4 => hD a b x x1 (by omega) x3 x4) (by omega) q1 q2 (by omega) (by omega)⟩),
        Sf_congr (g := Cn P' D' k') (ok' := P' 1 r) (lo := r + 1) (hi := hi) (fun q q1 q2 => ⟨hP 1 r q (by omega) (by omega), fun _ => ih k' (r + 1) hi q (fun a b x x1 x2 x3 x4 => hD a b x (by omega) x2 x3 x4) (by omega) q1 q2 (by omega) (by omega)⟩)]
def Cc (P : Nat → Nat → Nat → Bool) (D : Nat → Nat → Nat → Bool) (lo hi r : Nat) : Nat := Cn P D (hi - lo) lo hi r
def Sc (P : Nat → Nat → Nat → Bool) (D : Nat → Nat → Nat → Bool) (lo hi : Nat) (ok : Nat → Bool) : Nat := Sf (Cc P D) lo hi ok
theorem Cc_eq {P : Nat → Nat → Nat → Bool} {D : Nat → Nat → Nat → Bool} {lo hi r : Nat} (h1 : lo ≤ r) (h2 : r < hi) : Cc P D lo hi r = if D lo hi r then Sc P D lo r (P 0 r) * Sc P D (r + 1) hi (P 1 r) else 0 := by
  unfold Cc Sc
  rw [show hi - lo = (hi - lo - 1) + 1 by omega, Cn]
  rw [Sf_congr (f := Cn P D (hi - lo - 1)) (g := Cc P D) (ok' := P 0 r) (lo := lo) (hi := r) (fun q q1 q2 => ⟨rfl, fun _ => Cn_congr (N := hi) (fun _ _ _ _ _ => rfl) _ _ lo r q (fun _ _ _ _ _ _ _ => rfl) (by omega) q1 q2 (by omega) (by omega)⟩),
    Sf_congr (f := Cn P D (hi - lo - 1)) (g := Cc P D) (ok' := P 1 r) (lo := r + 1) (hi := hi) (fun q q1 q2 => ⟨rfl, fun _ => Cn_congr (N := hi) (fun _ _ _ _ _ => rfl) _ _ (r + 1) hi q (fun _ _ _ _ _ _ _ => rfl) (by omega) q1 q2 (by omega) (by omega)⟩)]
theorem Cc_congr {P P' : Nat → Nat → Nat → Bool} {D D' : Nat → Nat → Nat → Bool} {lo hi r : Nat} (hP : ∀ s p c, p < hi → c < hi → P s p c = P' s p c) (hD : ∀ a b q, lo ≤ a → b ≤ hi → a ≤ q → q < b → D a b q = D' a b q) (h1 : lo ≤ r) (h2 : r < hi) : Cc P D lo hi r = Cc P' D' lo hi r := Cn_congr hP _ _ lo hi r hD (Nat.le_refl _) h1 h2 (Nat.le_refl _) (Nat.le_refl _)
theorem Sc_congr {P P' : Nat → Nat → Nat → Bool} {D D' : Nat → Nat → Nat → Bool} {lo hi : Nat} {ok ok' : Nat → Bool} (hP : ∀ s p c, p < hi → c < hi → P s p c = P' s p c) (hD : ∀ a b q, lo ≤ a → b ≤ hi → a ≤ q → q < b → D a b q = D' a b q) (ho : ∀ q, lo ≤ q → q < hi → ok q = ok' q) : Sc P D lo hi ok = Sc P' D' lo hi ok' :=
  Sf_congr (fun q h1 h2 => ⟨ho q h1 h2, fun _ => Cc_congr hP hD h1 h2⟩)
