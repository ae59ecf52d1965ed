/-! bytes of a text -/
def bcd (c : Int32) : Nat := (c &&& 255).toNatClampNeg
def By (c : Int32) (b : Nat) : Prop := b < 256 ∧ c &&& 255 = n2 b ∧ (c < 48 ↔ (b < 48 ∨ 128 ≤ b)) ∧ (c ≤ 57 ↔ (b ≤ 57 ∨ 128 ≤ b)) ∧ (48 ≤ b → b ≤ 57 → c - 48 = n2 (b - 48)) ∧ (c = 98 ↔ b = 98) ∧ (c = 108 ↔ b = 108) ∧ (c = 110 ↔ b = 110) ∧ (c = 112 ↔ b = 112) ∧ (c = 115 ↔ b = 115) ∧ (c = 119 ↔ b = 119) ∧ (c = 59 ↔ b = 59)
def bb (k : Nat) : Nat := if k < 128 then k + 128 else k - 128
theorem by_1 : ∀ k < 256, bb k < 256 ∧ (n2 k - 128) &&& 255 = n2 (bb k) ∧ (n2 k - 128 < 48 ↔ (bb k < 48 ∨ 128 ≤ bb k)) ∧ (n2 k - 128 ≤ 57 ↔ (bb k ≤ 57 ∨ 128 ≤ bb k)) ∧ (48 ≤ bb k → bb k ≤ 57 → (n2 k - 128) - 48 = n2 (bb k - 48)) := by decide +kernel
theorem by_2 : ∀ k < 256, (n2 k - 128 = 98 ↔ bb k = 98) ∧ (n2 k - 128 = 108 ↔ bb k = 108) ∧ (n2 k - 128 = 110 ↔ bb k = 110) ∧ (n2 k - 128 = 112 ↔ bb k = 112) ∧ (n2 k - 128 = 115 ↔ bb k = 115) ∧ (n2 k - 128 = 119 ↔ bb k = 119) ∧ (n2 k - 128 = 59 ↔ bb k = 59) := by decide +kernel
theorem by_of {c : Int32} (h1 : -128 ≤ c.toInt) (h2 : c.toInt ≤ 127) : By c (bcd c) := by
  have e : c = n2 (c.toInt + 128).toNat - 128 := by
    apply Int32.toInt_inj.mp
    rw [Int32.toInt_sub, n2_int (by omega), show (128 : Int32).toInt = 128 from rfl]
    unfold Int.bmod
    simp only
    split <;> omega
  have hk : (c.toInt + 128).toNat < 256 := by omega
  generalize (c.toInt + 128).toNat = k at e hk
  subst e
  obtain ⟨a1, a2, a3, a4, a5⟩ := by_1 k hk
  obtain ⟨b1, b2', b3, b4, b5, b6, b7⟩ := by_2 k hk
  have e2 : bcd (n2 k - 128) = bb k := by
    unfold bcd
    rw [a2, n2_nat (by omega)]
  rw [e2]
  exact ⟨a1, a2, a3, a4, a5, b1, b2', b3, b4, b5, b6, b7⟩
/-! a text's statements -/
def isD (E : Nat → Int32) (n j : Nat) : Bool := decide (j < n) && (decide (48 ≤ bcd (E j)) && decide (bcd (E j) ≤ 57))
def dg (E : Nat → Int32) (j : Nat) : Nat := bcd (E j) - 48
def ndB (b : Nat) : Nat := if b = 98 then 2 else if b = 108 then 1 else if b = 110 then 2 else if b = 112 then 2 else if b = 115 then 3 else if b = 119 then 1 else 0
def ndA (E : Nat → Int32) (n at_ : Nat) : Nat := if at_ < n then ndB (bcd (E at_)) else 0
def fdg (E : Nat → Int32) (n : Nat) : Nat → Nat → Option Nat
  | 0, _ => none
  | t + 1, j => if isD E n j = true then fdg E n t (j + 1) else some j
def flE (E : Nat → Int32) (n j : Nat) : Option Nat := if j < n ∧ bcd (E j) = 59 then none else some j
def flt (E : Nat → Int32) (n at_ : Nat) : Option Nat := if ndA E n at_ = 0 then some at_ else match fdg E n (ndA E n at_) (at_ + 1) with
  | some j => some j
  | none => flE E n (at_ + ndA E n at_ + 1)
theorem ndB_le (b : Nat) : ndB b ≤ 3 := by
  unfold ndB
  repeat' split
  all_goals omega
theorem ndA_le (E : Nat → Int32) (n a : Nat) : ndA E n a ≤ 3 := by
  unfold ndA
  split
  · exact ndB_le _
  · omega
theorem isD_iff {E : Nat → Int32} {n j : Nat} : isD E n j = true ↔ j < n ∧ 48 ≤ bcd (E j) ∧ bcd (E j) ≤ 57 := by
  unfold isD
  rw [Bool.and_eq_true, Bool.and_eq_true, decide_eq_true_eq, decide_eq_true_eq, decide_eq_true_eq]
theorem dg_le {E : Nat → Int32} {n j : Nat} (h : isD E n j = true) : dg E j < 10 := by
  have := isD_iff.mp h
  unfold dg
  omega
theorem fdg_at {E : Nat → Int32} {n : Nat} : ∀ t j, fdg E n t j = none → ∀ k, j ≤ k → k < j + t → isD E n k = true := by
  intro t
  induction t with
  | zero => intro j _ k h1 h2; omega
  | succ t ih =>
    intro j h k h1 h2
    simp only [fdg] at h
    by_cases e : isD E n j = true
    · rw [if_pos e] at h
      by_cases ek : k = j
      · rw [ek]
        exact e
      · exact ih (j + 1) h k (by omega) (by omega)
    · rw [if_neg e] at h
      cases h
/-- all of it -/
def prs (E : Nat → Int32) (n : Nat) : Nat → Nat → Nat → Option Nat × Nat
  | 0, _, c => (none, c)
  | t + 1, a, c => if n ≤ a then (none, c) else match flt E n a with
    | some f => (some f, c)
    | none => prs E n t (a + ndA E n a + 2) (c + 1)
/-- the shelf's bytes -/
def Txt (τ : Mem) (d n : Nat) (E : Nat → Int32) : Prop := τ (6 + d) 5 = n2 n ∧ τ (14 + d) = E
section XTEXT
variable {d n : Nat} {E : Nat → Int32} {τ : Mem}
theorem x_digit (hT : Txt τ d n E) (hE : ∀ j, j < 100 → By (E j) (bcd (E j))) (hn : n ≤ 100) {i : Nat} (hi : i < 1000) : p_X8_digit (6 + d) (n2 i) τ = some (if isD E n i = true then n2 (dg E i) else -1, τ) := by
  have e86 : 8 + (6 + d) = 14 + d := by omega
  unfold p_X8_digit
  rw [ilt0 (by omega), ltE, hT.1, ileq ⟨by omega, by omega⟩]
  by_cases h1 : n ≤ i
  · rw [if_pos h1, if_neg (fun e => by have := (isD_iff.mp e).1; omega)]
  · rw [if_neg h1]
    obtain ⟨b1, b2', b3, b4, b5, -⟩ := hE i (by omega)
    simp (disch := omega) only [n2_nat, iin, ltE, e86, hT.2]
    by_cases h2 : E i < 48
    · rw [if_pos h2, if_neg (fun e => by
        have h3 := isD_iff.mp e
        rcases b3.mp h2 with h4 | h4 <;> omega)]
    · rw [if_neg h2]
      have g1 : 48 ≤ bcd (E i) ∧ bcd (E i) < 128 := by
        by_cases q : bcd (E i) < 48 ∨ 128 ≤ bcd (E i)
        · exact absurd (b3.mpr q) h2
        · omega
      by_cases h3 : E i ≤ 57
      · have g2 : bcd (E i) ≤ 57 := by
          rcases b4.mp h3 with h4 | h4 <;> omega
        rw [if_pos h3, if_pos (isD_iff.mpr ⟨by omega, g1.1, g2⟩), b5 g1.1 g2]
        rfl
      · have g2 : ¬ bcd (E i) ≤ 57 := fun e => h3 (b4.mpr (Or.inl e))
        rw [if_neg h3, if_neg (fun e => g2 (isD_iff.mp e).2.2)]
theorem x_behind {c : Int32} (h : By c (bcd c)) (τ : Mem) : p_X8_digitsBehind c τ = some (n2 (ndB (bcd c)), τ) := by
  obtain ⟨-, -, -, -, -, b1, b2', b3, b4, b5, b6, b7⟩ := h
  unfold p_X8_digitsBehind ndB
  by_cases h1 : bcd c = 98
  · rw [if_pos (b1.mpr h1), if_pos h1]; rfl
  rw [if_neg (fun e => h1 (b1.mp e)), if_neg h1]
  by_cases h1 : bcd c = 108
  · rw [if_pos (b2'.mpr h1), if_pos h1]; rfl
  rw [if_neg (fun e => h1 (b2'.mp e)), if_neg h1]
  by_cases h1 : bcd c = 110
  · rw [if_pos (b3.mpr h1), if_pos h1]; rfl
  rw [if_neg (fun e => h1 (b3.mp e)), if_neg h1]
  by_cases h1 : bcd c = 112
  · rw [if_pos (b4.mpr h1), if_pos h1]; rfl
  rw [if_neg (fun e => h1 (b4.mp e)), if_neg h1]
  by_cases h1 : bcd c = 115
  · rw [if_pos (b5.mpr h1), if_pos h1]; rfl
  rw [if_neg (fun e => h1 (b5.mp e)), if_neg h1]
  by_cases h1 : bcd c = 119
  · rw [if_pos (b6.mpr h1), if_pos h1]; rfl
  rw [if_neg (fun e => h1 (b6.mp e)), if_neg h1]
  rfl
theorem x_lenAt (hT : Txt τ d n E) (hE : ∀ j, j < 100 → By (E j) (bcd (E j))) (hn : n ≤ 100) {a : Nat} (ha : a < n) : p_X8_lengthAt (6 + d) (n2 a) τ = some (n2 (ndA E n a + 2), τ) := by
  have e86 : 8 + (6 + d) = 14 + d := by omega
  unfold p_X8_lengthAt
  simp (disch := omega) only [n2_nat, iin, ltE, e86, hT.2, x_behind (hE a (by omega)), bndE]
  unfold ndA
  rw [if_pos ha, n2_add2]
theorem x_brk46 (hT : Txt τ d n E) (hE : ∀ j, j < 100 → By (E j) (bcd (E j))) (hn : n ≤ 100) {a : Nat} (ha : a < n) (x2 : Int32) (k63 : Int32 → Int32 → Mem → Option (Int32 × Mem)) (k74 : Int32 → Int32 → Int32 → Mem → Option (Int32 × Mem)) : ∀ t j g, j + t = ndA E n a + 1 → t < g → p_X8_brokenAt_L46 k63 k74 (6 + d) g (n2 a) x2 (n2 (ndA E n a)) (n2 j) τ = match fdg E n t (a + j) with
    | some f => k63 (n2 a) (n2 (f - a)) τ
    | none => k74 (n2 a) x2 (n2 (ndA E n a)) τ := by
  have h3 := ndA_le E n a
  intro t
  induction t with
  | zero =>
    intro j g hj hg
    obtain ⟨g, rfl⟩ : ∃ k, g = k + 1 := ⟨g - 1, by omega⟩
    show p_X8_brokenAt_B46 (p_X8_brokenAt_L46 k63 k74 (6 + d) g) k63 k74 (6 + d) (n2 a) x2 (n2 (ndA E n a)) (n2 j) τ = _
    unfold p_X8_brokenAt_B46
    rw [ilt_t ⟨by omega, by omega⟩]
    rfl
  | succ t ih =>
    intro j g hj hg
    obtain ⟨g, rfl⟩ : ∃ k, g = k + 1 := ⟨g - 1, by omega⟩
    show p_X8_brokenAt_B46 (p_X8_brokenAt_L46 k63 k74 (6 + d) g) k63 k74 (6 + d) (n2 a) x2 (n2 (ndA E n a)) (n2 j) τ = _
    unfold p_X8_brokenAt_B46
    rw [ilt_f ⟨by omega, by omega⟩, n2_add, x_digit hT hE hn (by omega), bndE]
    simp only [fdg]
    by_cases e : isD E n (a + j) = true
    · rw [if_pos e, if_pos e]
      have := dg_le e
      rw [ige0 (by omega), n2_succ, ih (j + 1) g (by omega) (by omega), show a + (j + 1) = a + j + 1 by omega]
    · rw [if_neg e, if_neg e, if_neg (by decide)]
      simp only
      rw [show a + j - a = j by omega]
/-- the text is whole, or the place of the first byte that can't be -/
def brkV (E : Nat → Int32) (n : Nat) : Int32 := if n = 0 then 0 else match prs E n 100 0 0 with
  | (some f, _) => n2 f
  | (none, _) => -1
theorem fdg_ge {t j f : Nat} (h : fdg E n t j = some f) : j ≤ f ∧ f < j + t := by
  induction t generalizing j with
  | zero => cases h
  | succ t ih =>
    simp only [fdg] at h
    split at h
    · have := ih h
      omega
    · cases h
      omega
theorem x_brkL (hT : Txt τ d n E) (hE : ∀ j, j < 100 → By (E j) (bcd (E j))) (hn : n ≤ 100) : ∀ t a c i g, t + i = 100 → n ≤ a + 3 * t → a ≤ 101 → t < g → p_X8_brokenAt_L13 (fun (x1 : Int32) (x4 : Int32) (m13 : Mem) => some ((x1 + x4), m13)) (6 + d) g (n2 a) (n2 i) τ = some (match prs E n t a c with
    | (some f, _) => n2 f
    | (none, _) => -1, τ) := by
  have e86 : 8 + (6 + d) = 14 + d := by omega
  intro t
  induction t with
  | zero =>
    intro a c i g ht hna h101 hg
    obtain ⟨g, rfl⟩ : ∃ k, g = k + 1 := ⟨g - 1, by omega⟩
    show p_X8_brokenAt_B13 (p_X8_brokenAt_L13 _ (6 + d) g) _ (6 + d) (n2 a) (n2 i) τ = _
    unfold p_X8_brokenAt_B13
    rw [show (if (100 : Int32) ≤ n2 i then _ else _) = _ from ile_t (a := 100) (b := i) ⟨by omega, by omega⟩]
    rfl
  | succ t ih =>
    intro a c i g ht hna h101 hg
    obtain ⟨g, rfl⟩ : ∃ k, g = k + 1 := ⟨g - 1, by omega⟩
    show p_X8_brokenAt_B13 (p_X8_brokenAt_L13 (fun (x1 : Int32) (x4 : Int32) (m13 : Mem) => some ((x1 + x4), m13)) (6 + d) g) (fun (x1 : Int32) (x4 : Int32) (m13 : Mem) => some ((x1 + x4), m13)) (6 + d) (n2 a) (n2 i) τ = _
    unfold p_X8_brokenAt_B13
    by_cases ha : n ≤ a
    · rw [show (if (100 : Int32) ≤ n2 i then _ else _) = _ from ile_f (a := 100) (b := i) ⟨by omega, by omega⟩, ltE, hT.1, ile_t ⟨ha, by omega⟩]
      simp only [prs]
      rw [if_pos ha]
    · have hnd := ndA_le E n a
      have hb := x_behind (hE a (by omega)) τ
      have e0 : ndB (bcd (E a)) = ndA E n a := by unfold ndA; rw [if_pos (by omega)]
      rw [e0] at hb
      rw [show (if (100 : Int32) ≤ n2 i then _ else _) = _ from ile_f (a := 100) (b := i) ⟨by omega, by omega⟩, ltE, hT.1, ile_f ⟨by omega, by omega⟩]
      simp (disch := omega) only [n2_nat, iin, ltE, e86, hT.2, hb, bndE, ieq0]
      simp only [prs]
      rw [if_neg ha]
      unfold flt
      by_cases h0 : ndA E n a = 0
      · rw [if_pos h0, if_pos h0]
      · rw [if_neg h0, if_neg h0]
        have hk := x_brk46 hT hE hn (show a < n by omega) (n2 i) (fun (x1 : Int32) (x4 : Int32) (m13 : Mem) => some ((x1 + x4), m13))
        refine (hk _ (ndA E n a) 1 1000 (by omega) (by omega)).trans ?_
        cases hf : fdg E n (ndA E n a) (a + 1) with
        | some f =>
          have := fdg_ge hf
          show some (n2 a + n2 (f - a), τ) = some (n2 f, τ)
          rw [n2_add, show a + (f - a) = f by omega]
        | none =>
          have hlast : (n2 a + n2 (ndA E n a)) + 1 = n2 (a + ndA E n a + 1) := by rw [n2_add, n2_succ]
          simp only [hlast, ltE, hT.1]
          rw [ileq ⟨by omega, by omega⟩]
          unfold flE
          by_cases h1 : n ≤ a + ndA E n a + 1
          · rw [if_pos h1, if_neg (by omega)]
          · rw [if_neg h1]
            have hby := hE (a + ndA E n a + 1) (by omega)
            simp (disch := omega) only [n2_nat, iin, e86, hT.2, n2_succ]
            by_cases h2 : bcd (E (a + ndA E n a + 1)) = 59
            · rw [if_pos (hby.2.2.2.2.2.2.2.2.2.2.2.mpr h2), if_pos ⟨by omega, h2⟩, ih (a + ndA E n a + 1 + 1) (c + 1) (i + 1) g (by omega) (by omega) (by omega) (by omega)]
            · rw [if_neg (fun e => h2 (hby.2.2.2.2.2.2.2.2.2.2.2.mp e)), if_neg (fun e => h2 e.2)]
theorem x_broken (hT : Txt τ d n E) (hE : ∀ j, j < 100 → By (E j) (bcd (E j))) (hn : n ≤ 100) : p_X8_brokenAt (6 + d) τ = some (brkV E n, τ) := by
  unfold p_X8_brokenAt brkV
  rw [ltE, hT.1, ieq0 (by omega)]
  by_cases h0 : n = 0
  · rw [if_pos h0, if_pos h0]
  · rw [if_neg h0, if_neg h0]
    exact x_brkL hT hE hn 100 0 0 0 1000 (by omega) (by omega) (by omega) (by omega)
end XTEXT
