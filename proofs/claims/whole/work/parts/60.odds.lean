/-! long numbers -/
abbrev n6 (n : Nat) : Int64 := Int64.ofNat n
theorem n6_int {n : Nat} (h : n < 9223372036854775808) : (n6 n).toInt = (n : Int) := Int64.toInt_ofNat_of_lt h
theorem n6_inj {a b : Nat} (ha : a < 9223372036854775808) (hb : b < 9223372036854775808) : n6 a = n6 b ↔ a = b := by
  refine ⟨fun h => ?_, fun h => by rw [h]⟩
  have h1 : (n6 a).toInt = (n6 b).toInt := by rw [h]
  rw [n6_int ha, n6_int hb] at h1
  omega
theorem n6_div {a b : Nat} (ha : a < 9223372036854775808) (hb : b < 9223372036854775808) : n6 a / n6 b = n6 (a / b) := by
  apply Int64.toInt_inj.mp
  have h1 : a / b ≤ a := Nat.div_le_self a b
  rw [Int64.toInt_div, n6_int ha, n6_int hb, n6_int (by omega), ← Int.ofNat_tdiv]
  generalize a / b = c at h1 ⊢
  unfold Int.bmod
  simp only
  split <;> omega
theorem n6_sub {a b : Nat} (h : b ≤ a) (ha : a < 9223372036854775808) : n6 a - n6 b = n6 (a - b) := by
  apply Int64.toInt_inj.mp
  rw [Int64.toInt_sub, n6_int ha, n6_int (by omega), n6_int (by omega)]
  unfold Int.bmod
  simp only
  split <;> omega
theorem n6_mod {a b : Nat} (ha : a < 9223372036854775808) (hb : b < 9223372036854775808) : n6 a - n6 a / n6 b * n6 b = n6 (a % b) := by
  have h1 := Nat.div_add_mod a b
  rw [n6_div ha hb, show n6 (a / b) * n6 b = n6 (a / b * b) from (Int64.ofNat_mul (a / b) b).symm, Nat.mul_comm (a / b) b]
  generalize b * (a / b) = c at h1 ⊢
  rw [n6_sub (by omega) ha]
  congr 1
  omega
theorem n6_of {n : Nat} (h : n < 2147483648) : Int32.toInt64 (n2 n) = n6 n := Int32.toInt64_ofNat' (by
  show (n : Int) ≤ 2147483647
  omega)
theorem cmp_0 {α : Type} {x : Int64} {A B : α} : (if lg_cmp x 0 = 0 then A else B) = if x = 0 then A else B := by
  unfold lg_cmp
  by_cases h1 : x > 0
  · rw [if_pos h1, if_neg (by decide), if_neg (fun e => by rw [e] at h1; exact absurd h1 (by decide))]
  · rw [if_neg h1]
    by_cases h2 : x = 0
    · rw [if_pos h2, if_pos h2, if_pos rfl]
    · rw [if_neg h2, if_neg h2, if_neg (by decide)]
theorem i6z {α : Type} {a : Nat} {A B : α} (h : a < 9223372036854775808) : (if n6 a = 0 then A else B) = if a = 0 then A else B := by
  by_cases e : a = 0
  · rw [if_pos e, if_pos (by rw [e]; rfl)]
  · rw [if_neg e, if_neg (show ¬ n6 a = 0 from fun q => e ((n6_inj (b := 0) h (by omega)).mp q))]
theorem half_mod {b r : Nat} (hr : r ≠ 0) (h : r < b) : 2 * (b % r) < b := by
  have h1 := Nat.mod_lt b (show 0 < r by omega)
  have h2 := Nat.div_add_mod b r
  have h3 : 1 ≤ b / r := (Nat.one_le_div_iff (by omega)).mpr (by omega)
  have h4 : r * 1 ≤ r * (b / r) := Nat.mul_le_mul_left r h3
  omega
theorem x_eucl (x0 x2 : Int64) (x4 : Int32) (σ : Mem) (k : Int64 → Mem → Option (Int64 × Mem)) : ∀ m a b c g, b < 2 ^ m → a < 9223372036854775808 → b < 9223372036854775808 → c + 2 * m ≤ 99 → 2 * m + 1 < g → p_X11_inLeastTerms_L9 k x0 x2 x4 g (n6 a) (n6 b) (n2 c) σ = k (n6 (Nat.gcd a b)) σ := by
  have step0 : ∀ a c g, c ≤ 99 → 1 < g → p_X11_inLeastTerms_L9 k x0 x2 x4 g (n6 a) (n6 0) (n2 c) σ = k (n6 (Nat.gcd a 0)) σ := by
    intro a c g hc hg
    obtain ⟨g, rfl⟩ : ∃ j, g = j + 1 := ⟨g - 1, by omega⟩
    show p_X11_inLeastTerms_B9 (p_X11_inLeastTerms_L9 k x0 x2 x4 g) k x0 x2 x4 (n6 a) (n6 0) (n2 c) σ = _
    unfold p_X11_inLeastTerms_B9
    rw [show (if (100 : Int32) ≤ n2 c then _ else _) = _ from ile_f (a := 100) (b := c) ⟨by omega, by omega⟩, cmp_0, i6z (by omega), if_pos rfl, Nat.gcd_zero_right]
  have step1 : ∀ a b c g, b ≠ 0 → a < 9223372036854775808 → b < 9223372036854775808 → c ≤ 99 → p_X11_inLeastTerms_L9 k x0 x2 x4 (g + 1) (n6 a) (n6 b) (n2 c) σ = p_X11_inLeastTerms_L9 k x0 x2 x4 g (n6 b) (n6 (a % b)) (n2 (c + 1)) σ := by
    intro a b c g hb0 ha hb hc
    show p_X11_inLeastTerms_B9 (p_X11_inLeastTerms_L9 k x0 x2 x4 g) k x0 x2 x4 (n6 a) (n6 b) (n2 c) σ = _
    unfold p_X11_inLeastTerms_B9
    rw [show (if (100 : Int32) ≤ n2 c then _ else _) = _ from ile_f (a := 100) (b := c) ⟨by omega, by omega⟩, cmp_0, i6z hb, if_neg hb0, i6z hb, if_neg hb0, n6_mod ha hb, n2_succ]
  intro m
  induction m with
  | zero =>
    intro a b c g h1 ha hb hc hg
    have e : b = 0 := by
      have : (2 : Nat) ^ 0 = 1 := rfl
      omega
    subst e
    exact step0 a c g (by omega) (by omega)
  | succ m ih =>
    intro a b c g h1 ha hb hc hg
    by_cases e : b = 0
    · subst e
      exact step0 a c g (by omega) (by omega)
    · obtain ⟨g, rfl⟩ : ∃ j, g = j + 1 := ⟨g - 1, by omega⟩
      rw [step1 a b c g e ha hb (by omega)]
      have hr := Nat.mod_lt a (show 0 < b by omega)
      have hgc : Nat.gcd a b = Nat.gcd b (a % b) := by rw [Nat.gcd_comm a b, Nat.gcd_rec b a, Nat.gcd_comm]
      rw [hgc]
      by_cases e2 : a % b = 0
      · rw [e2]
        exact step0 b (c + 1) g (by omega) (by omega)
      · obtain ⟨g, rfl⟩ : ∃ j, g = j + 1 := ⟨g - 1, by omega⟩
        rw [step1 b (a % b) (c + 1) g e2 hb (by omega) (by omega)]
        have hgc2 : Nat.gcd b (a % b) = Nat.gcd (a % b) (b % (a % b)) := by rw [Nat.gcd_comm b (a % b), Nat.gcd_rec (a % b) b, Nat.gcd_comm]
        have hh := half_mod e2 hr
        have hp : 2 ^ (m + 1) = 2 * 2 ^ m := by rw [Nat.pow_succ, Nat.mul_comm]
        rw [hgc2]
        exact ih (a % b) (b % (a % b)) (c + 1 + 1) g (by omega) (by omega) (by omega) (by omega) (by omega)
theorem m_eucl (x0 x2 : Int64) (σ : Mem) : ∀ m a b g, b < 2 ^ m → a < 9223372036854775808 → b < 9223372036854775808 → 2 * m + 1 < g → p_X12_gcd_L6 x0 x2 g (n6 a) (n6 b) σ = some (n6 (Nat.gcd a b), σ) := by
  have step0 : ∀ a g, 1 < g → p_X12_gcd_L6 x0 x2 g (n6 a) (n6 0) σ = some (n6 (Nat.gcd a 0), σ) := by
    intro a g hg
    obtain ⟨g, rfl⟩ : ∃ j, g = j + 1 := ⟨g - 1, by omega⟩
    show p_X12_gcd_B6 (p_X12_gcd_L6 x0 x2 g) x0 x2 (n6 a) (n6 0) σ = _
    unfold p_X12_gcd_B6
    rw [cmp_0, i6z (by omega), if_pos rfl, Nat.gcd_zero_right]
  have step1 : ∀ a b g, b ≠ 0 → a < 9223372036854775808 → b < 9223372036854775808 → p_X12_gcd_L6 x0 x2 (g + 1) (n6 a) (n6 b) σ = p_X12_gcd_L6 x0 x2 g (n6 b) (n6 (a % b)) σ := by
    intro a b g hb0 ha hb
    show p_X12_gcd_B6 (p_X12_gcd_L6 x0 x2 g) x0 x2 (n6 a) (n6 b) σ = _
    unfold p_X12_gcd_B6
    rw [cmp_0, i6z hb, if_neg hb0, i6z hb, if_neg hb0, n6_mod ha hb]
  intro m
  induction m with
  | zero =>
    intro a b g h1 ha hb hg
    have e : b = 0 := by
      have : (2 : Nat) ^ 0 = 1 := rfl
      omega
    subst e
    exact step0 a g (by omega)
  | succ m ih =>
    intro a b g h1 ha hb hg
    by_cases e : b = 0
    · subst e
      exact step0 a g (by omega)
    · obtain ⟨g, rfl⟩ : ∃ j, g = j + 1 := ⟨g - 1, by omega⟩
      rw [step1 a b g e ha hb]
      have hr := Nat.mod_lt a (show 0 < b by omega)
      have hgc : Nat.gcd a b = Nat.gcd b (a % b) := by rw [Nat.gcd_comm a b, Nat.gcd_rec b a, Nat.gcd_comm]
      rw [hgc]
      by_cases e2 : a % b = 0
      · rw [e2]
        exact step0 b g (by omega)
      · obtain ⟨g, rfl⟩ : ∃ j, g = j + 1 := ⟨g - 1, by omega⟩
        rw [step1 b (a % b) g e2 hb (by omega)]
        have hgc2 : Nat.gcd b (a % b) = Nat.gcd (a % b) (b % (a % b)) := by rw [Nat.gcd_comm b (a % b), Nat.gcd_rec (a % b) b, Nat.gcd_comm]
        have hh := half_mod e2 hr
        have hp : 2 ^ (m + 1) = 2 * 2 ^ m := by rw [Nat.pow_succ, Nat.mul_comm]
        rw [hgc2]
        exact ih (a % b) (b % (a % b)) g (by omega) (by omega) (by omega) (by omega)
/-- a fraction in least terms -/
def frV (a b : Nat) (y : Int32) : Int64 := if a = 0 then (if y = 0 then 0 else 1) else if y = 0 then n6 (a / Nat.gcd a b) else n6 (b / Nat.gcd a b)
theorem x_frac {a b : Nat} {y : Int32} (ha : a < 9223372036854775808) (hb : b < 2147483648) (σ : Mem) : p_X11_inLeastTerms (n6 a) (n6 b) y σ = some (frV a b y, σ) := by
  unfold p_X11_inLeastTerms
  refine (x_eucl (n6 a) (n6 b) y σ _ 31 a b 0 1000 (by omega) ha (by omega) (by omega) (by omega)).trans ?_
  have hg : Nat.gcd a b < 9223372036854775808 := by
    by_cases e : a = 0
    · rw [e, Nat.gcd_zero_left]
      omega
    · have := Nat.gcd_le_left b (show 0 < a by omega)
      omega
  unfold p_X11_inLeastTerms_B44 p_X11_inLeastTerms_B72 frV
  rw [cmp_0, i6z hg]
  by_cases e : a = 0
  · subst e
    rw [Nat.gcd_zero_left, if_pos rfl]
    by_cases e2 : b = 0
    · rw [if_pos e2]
      split <;> rfl
    · rw [if_neg e2, i6z (by omega), if_neg e2, i6z (by omega), if_neg e2, n6_div (by omega) (by omega), n6_div (by omega) (by omega), Nat.zero_div, Nat.div_self (by omega)]
      split <;> rfl
  · have hg0 : ¬ Nat.gcd a b = 0 := by
      have := Nat.gcd_pos_of_pos_left b (show 0 < a by omega)
      omega
    rw [if_neg hg0, i6z hg, if_neg hg0, i6z hg, if_neg hg0, if_neg e, n6_div ha hg, n6_div (by omega) hg]
    split <;> rfl
theorem m_frac {a b : Nat} {y : Int32} (ha : a < 9223372036854775808) (hb : b < 2147483648) (hy : y = 0 ∨ y = 1) (σ : Mem) : p_X12_partOf (n6 a) (n6 b) y σ = some (frV a b y, σ) := by
  have hgc : p_X12_gcd (n6 a) (n6 b) σ = some (n6 (Nat.gcd a b), σ) := m_eucl (n6 a) (n6 b) σ 31 a b 1000 (by omega) ha (by omega) (by omega)
  have hg : Nat.gcd a b < 9223372036854775808 := by
    by_cases e : a = 0
    · rw [e, Nat.gcd_zero_left]
      omega
    · have := Nat.gcd_le_left b (show 0 < a by omega)
      omega
  unfold p_X12_partOf p_X12_partOf_B20 frV
  rw [cmp_0, i6z ha]
  by_cases e : a = 0
  · rw [if_pos e, if_pos e]
    rcases hy with rfl | rfl <;> rfl
  · have hg0 : ¬ Nat.gcd a b = 0 := by
      have := Nat.gcd_pos_of_pos_left b (show 0 < a by omega)
      omega
    rw [if_neg e, if_neg e, hgc, bndE, bndE, i6z hg, if_neg hg0, i6z hg, if_neg hg0, n6_div ha hg, n6_div (by omega) hg]
    split <;> rfl
theorem part_is {y : Int32} (h : inV y 0 1 = true) : y = 0 ∨ y = 1 := by
  rcases part_cases y with ⟨h1, -⟩ | h1 | h1
  · rw [h] at h1
    cases h1
  · exact Or.inl h1
  · exact Or.inr h1
theorem st_mean : St1 Inv p_X11_mean p_X12_mean := by
  intro y σ hI
  obtain ⟨N, t, hL, -, -, -, -⟩ := getI hI
  have h8 := hL.le8
  have h := hL.2.1
  have hA := alive_lt (R := σ 66) h8
  cases hy : inV y 0 1
  · refine st_read hI (r := (1000000001 : Int64)) ?_ ?_
    · unfold p_X11_mean
      simp only [x_isPart, bndE, b2z, hy]
      rfl
    · unfold p_X12_mean
      simp only [m_isIn, bndE, b2z, hy]
      rfl
  have hy1 := part_is hy
  have l1 : suS (skillN (σ 66)) N (aliveV (σ 66) N) ≤ 192 := skV2_le h
  have l2 := pop_le (aliveV (σ 66) N)
  refine st_read hI (r := frV (suS (skillN (σ 66)) N (aliveV (σ 66) N)) (pop (aliveV (σ 66) N)) y) ?_ ?_
  · unfold p_X11_mean
    simp only [x_isPart, bndE, b2z, hy, if_true, x_living hL, x_skillOf isC1 hL hA, x_pop hA]
    rw [n6_of (by omega), n6_of (by omega), x_frac (by omega) (by omega), bndE]
  · unfold p_X12_mean
    simp only [m_isIn, bndE, b2z, hy, if_true, m_aliveSet h, m_skillIn h hA, m_pop hA]
    rw [n6_of (by omega), n6_of (by omega), m_frac (by omega) (by omega) hy1, bndE]
