/-! the pure level: small numbers -/
abbrev n2 (n : Nat) : Int32 := Int32.ofNat n
theorem n2_int {n : Nat} (h : n < 2147483648) : (n2 n).toInt = (n : Int) := Int32.toInt_ofNat_of_lt h
theorem n2_nat {n : Nat} (h : n < 2147483648) : (n2 n).toNatClampNeg = n := by
  show (n2 n).toInt.toNat = n
  rw [n2_int h]
  rfl
theorem n2_succ (n : Nat) : n2 n + 1 = n2 (n + 1) := (Int32.ofNat_add n 1).symm
theorem n2_add (a b : Nat) : n2 a + n2 b = n2 (a + b) := (Int32.ofNat_add a b).symm
theorem n2_le {a b : Nat} (ha : a < 2147483648) (hb : b < 2147483648) : n2 a ≤ n2 b ↔ a ≤ b := by
  rw [Int32.le_iff_toInt_le, n2_int ha, n2_int hb]
  omega
theorem n2_lt {a b : Nat} (ha : a < 2147483648) (hb : b < 2147483648) : n2 a < n2 b ↔ a < b := by
  rw [Int32.lt_iff_toInt_lt, n2_int ha, n2_int hb]
  omega
theorem n2_inj {a b : Nat} (ha : a < 2147483648) (hb : b < 2147483648) : n2 a = n2 b ↔ a = b := by
  refine ⟨fun h => ?_, fun h => by rw [h]⟩
  have h1 : (n2 a).toInt = (n2 b).toInt := by rw [h]
  rw [n2_int ha, n2_int hb] at h1
  omega
/-! what an if comes to -/
theorem ile_t {α : Type} {a b : Nat} {A B : α} (h : a ≤ b ∧ b < 2147483648) : (if n2 a ≤ n2 b then A else B) = A := if_pos ((n2_le (by omega) h.2).mpr h.1)
theorem ile_f {α : Type} {a b : Nat} {A B : α} (h : b < a ∧ a < 2147483648) : (if n2 a ≤ n2 b then A else B) = B := if_neg (fun h1 => by have := (n2_le h.2 (by omega)).mp h1; omega)
theorem ilt_t {α : Type} {a b : Nat} {A B : α} (h : a < b ∧ b < 2147483648) : (if n2 a < n2 b then A else B) = A := if_pos ((n2_lt (by omega) h.2).mpr h.1)
theorem ilt_f {α : Type} {a b : Nat} {A B : α} (h : b ≤ a ∧ a < 2147483648) : (if n2 a < n2 b then A else B) = B := if_neg (fun h1 => by have := (n2_lt h.2 (by omega)).mp h1; omega)
theorem iin {α : Type} {p n : Nat} {A : Option α} (h : p < n ∧ n < 2147483648) : (if n2 p < 0 ∨ n ≤ p then none else A) = A := by
  refine if_neg (fun h1 => ?_)
  rcases h1 with h1 | h1
  · have h2 := (n2_lt (a := p) (b := 0) (by omega) (by omega)).mp h1
    omega
  · omega
theorem ii0 {α : Type} {n : Nat} {A : Option α} (h : 0 < n) : (if (0 : Int32) < 0 ∨ n ≤ 0 then none else A) = A := if_neg (fun h1 => by rcases h1 with h1 | h1; exact absurd h1 (by decide); omega)
theorem ii1 {α : Type} {n : Nat} {A : Option α} (h : 1 < n) : (if (1 : Int32) < 0 ∨ n ≤ 1 then none else A) = A := if_neg (fun h1 => by rcases h1 with h1 | h1; exact absurd h1 (by decide); omega)
theorem ii2 {α : Type} {n : Nat} {A : Option α} (h : 2 < n) : (if (2 : Int32) < 0 ∨ n ≤ 2 then none else A) = A := if_neg (fun h1 => by rcases h1 with h1 | h1; exact absurd h1 (by decide); omega)
theorem ii3 {α : Type} {n : Nat} {A : Option α} (h : 3 < n) : (if (3 : Int32) < 0 ∨ n ≤ 3 then none else A) = A := if_neg (fun h1 => by rcases h1 with h1 | h1; exact absurd h1 (by decide); omega)
theorem c0 : ((0 : Int32)).toNatClampNeg = 0 := rfl
theorem c1 : ((1 : Int32)).toNatClampNeg = 1 := rfl
theorem c2 : ((2 : Int32)).toNatClampNeg = 2 := rfl
theorem c3 : ((3 : Int32)).toNatClampNeg = 3 := rfl
theorem of_n2 {p : Nat} (w : Nat) : (((4 : Int32) + ((4 : Int32) * n2 p)) + n2 w) = n2 (4 + 4 * p + w) := by
  show n2 4 + n2 4 * n2 p + n2 w = _
  rw [show n2 4 * n2 p = n2 (4 * p) from (Int32.ofNat_mul 4 p).symm, n2_add, n2_add]
/-! the model's row: what it tells of one -/
def kd (R : Nat → Int32) (p : Nat) : Int32 := R (4 + 4 * p + 0)
def fg (R : Nat → Int32) (p : Nat) : Int32 := R (4 + 4 * p + 1)
def bt (R : Nat → Int32) (p : Nat) : Int32 := R (4 + 4 * p + 2)
def lo (R : Nat → Int32) (p : Nat) : Int32 := R (4 + 4 * p + 3)
def hw (R : Nat → Int32) (p q : Nat) : Int32 := R (36 + 8 * p + q)
theorem m_of (p w : Nat) (σ : Mem) : p_X12_of (n2 p) (n2 w) σ = some (n2 (4 + 4 * p + w), σ) := by
  unfold p_X12_of
  rw [of_n2]
/-! a boat's crew -/
def crewS (R : Nat → Int32) (b : Int32) : Nat → Nat → Int32 → Int32
  | 0, _, acc => acc
  | t + 1, p, acc => crewS R b t (p + 1) (acc ||| (if bt R p = b then (1 : Int32) <<< (n2 p &&& 31) else 0))
theorem m_crewL {r N : Nat} {σ : Mem} {b : Int32} (hN : σ r 0 = n2 N) (h8 : N ≤ 8) : ∀ (t p : Nat) (acc : Int32) (f : Nat), p + t = N → t < f → p_X12_crew_L4 r b f acc (n2 p) σ = some (crewS (σ r) b t p acc, σ) := by
  intro t
  induction t with
  | zero =>
    intro p acc f hp hf
    obtain ⟨f, rfl⟩ : ∃ g, f = g + 1 := ⟨f - 1, by omega⟩
    show p_X12_crew_B4 (p_X12_crew_L4 r b f) r b acc (n2 p) σ = _
    unfold p_X12_crew_B4
    simp (disch := omega) only [ii0, lt, c0, hN, ile_t]
    rfl
  | succ t ih =>
    intro p acc f hp hf
    obtain ⟨f, rfl⟩ : ∃ g, f = g + 1 := ⟨f - 1, by omega⟩
    show p_X12_crew_B4 (p_X12_crew_L4 r b f) r b acc (n2 p) σ = _
    unfold p_X12_crew_B4
    have h2 := m_of p 2 σ
    simp (disch := omega) only [ii0, lt, c0, hN, ile_f]
    rw [show p_X12_of (n2 p) 2 σ = _ from h2, bnd_some]
    simp (disch := omega) only [iin, n2_nat, p_X12_crew_B30, n2_succ]
    rw [ih _ _ _ (by omega) (by omega), ih _ _ _ (by omega) (by omega)]
    show (if bt (σ r) p = b then _ else _) = some (crewS (σ r) b t (p + 1) (acc ||| (if bt (σ r) p = b then (1 : Int32) <<< (n2 p &&& 31) else 0)), σ)
    split <;> rfl
theorem m_crew {r N : Nat} {σ : Mem} {b : Int32} (hN : σ r 0 = n2 N) (h8 : N ≤ 8) : p_X12_crew r b σ = some (crewS (σ r) b N 0 0, σ) := m_crewL hN h8 N 0 0 1000 (by omega) (by omega)
/-- cape c holds what the row tells -/
def CR (σ : Mem) (c N : Nat) (R : Nat → Int32) : Prop := R 0 = n2 N ∧ N ≤ 8 ∧ σ c 5 = n2 N ∧ (∀ p, p < N → σ (24 + c) p = kd R p ∧ σ (27 + c) p = fg R p ∧ σ (30 + c) p = bt R p) ∧ (∀ q, q < 64 → σ (33 + c) q = R (36 + q)) ∧ σ c 7 = R 1 ∧ σ c 8 = R 2 ∧ σ c 9 = R 3
theorem x_crewL {c N : Nat} {σ : Mem} {b : Int32} {R : Nat → Int32} (h : CR σ c N R) : ∀ (t p : Nat) (acc : Int32) (f : Nat), p + t = N → t < f → p_X3_crew_L4 c b f acc (n2 p) σ = some (crewS R b t p acc, σ) := by
  obtain ⟨-, h8, hN, hP, -⟩ := h
  intro t
  induction t with
  | zero =>
    intro p acc f hp hf
    obtain ⟨f, rfl⟩ : ∃ g, f = g + 1 := ⟨f - 1, by omega⟩
    show p_X3_crew_B4 (p_X3_crew_L4 c b f) c b acc (n2 p) σ = _
    unfold p_X3_crew_B4
    simp (disch := omega) only [lt, hN, ile_t]
    rfl
  | succ t ih =>
    intro p acc f hp hf
    obtain ⟨f, rfl⟩ : ∃ g, f = g + 1 := ⟨f - 1, by omega⟩
    show p_X3_crew_B4 (p_X3_crew_L4 c b f) c b acc (n2 p) σ = _
    unfold p_X3_crew_B4
    have h3 := (hP p (by omega)).2.2
    simp (disch := omega) only [lt, hN, ile_f, n2_nat, iin, p_X3_crew_B30, n2_succ, h3]
    rw [ih _ _ _ (by omega) (by omega), ih _ _ _ (by omega) (by omega)]
    show _ = some (crewS R b t (p + 1) (acc ||| (if bt R p = b then (1 : Int32) <<< (n2 p &&& 31) else 0)), σ)
    split <;> rfl
theorem x_crew {c N : Nat} {σ : Mem} {b : Int32} {R : Nat → Int32} (h : CR σ c N R) : p_X3_crew c b σ = some (crewS R b N 0 0, σ) := x_crewL h N 0 0 1000 (by omega) (by have := h.2.1; omega)
