/-! the kinds' numbers -/
theorem some_ite {α : Type} {P : Prop} {i : Decidable P} {a b : α} {σ : Mem} : (some ((if P then a else b), σ) : Option (α × Mem)) = if P then some (a, σ) else some (b, σ) := by split <;> rfl
def skV (k f : Int32) : Int32 := if k = 1 then f + 3 else if k = 2 then f / 2 else if k = 3 then 0 else if k = 4 then 2 * (f + 3) else if k = 5 then f / 2 + 1 else if k = 6 then f else if k = 7 then 9 else f
def rkV (k f s : Int32) : Int32 := if k = 1 then 0 else if k = 2 then (f - f / 5 * 5) + 4 else if k = 3 then 0 else if k = 4 then 1 else if k = 5 then ((f - f / 5 * 5) + 4) - (s - s / 2 * 2) else if k = 6 then (f + s) - (f + s) / 10 * 10 else if k = 7 then 0 else f - f / 5 * 5
def rcV (k f : Int32) : Int32 := if k = 1 then 6 + f / 3 else if k = 2 then 1 else if k = 3 then 0 else if k = 4 then 5 + f / 3 else if k = 5 then 2 else if k = 6 then 3 + f / 3 else if k = 7 then 9 else 3 + f / 3
def pyV (k f : Int32) : Int32 := if k = 1 then 2 + f else if k = 2 then 1 else if k = 3 then 0 else if k = 4 then 2 * (2 + f) else if k = 5 then 1 else if k = 6 then 3 else if k = 7 then 0 else 2
def prV (k f : Int32) : Int32 := if k = 1 then 2 + f else if k = 2 then 1 else if k = 3 then 9 else if k = 4 then 4 + 2 * f else if k = 5 then 4 else if k = 6 then 6 else if k = 7 then 4 else 2
def ghV (k : Int32) : Bool := decide (k = 3) || decide (k = 7)
theorem m_skill (k f : Int32) (σ : Mem) : p_X12_skill k f σ = some (skV k f, σ) := by simp only [p_X12_skill, skV, some_ite]
theorem m_risk (k f s : Int32) (σ : Mem) : p_X12_risk k f s σ = some (rkV k f s, σ) := by simp only [p_X12_risk, rkV, some_ite]
theorem m_reach (k f : Int32) (σ : Mem) : p_X12_reach k f σ = some (rcV k f, σ) := by simp only [p_X12_reach, rcV, some_ite]
theorem m_pay (k f : Int32) (σ : Mem) : p_X12_pay k f σ = some (pyV k f, σ) := by simp only [p_X12_pay, pyV, some_ite]
theorem m_cost (k f : Int32) (σ : Mem) : p_X12_costBy k f σ = some (prV k f, σ) := by simp only [p_X12_costBy, prV, some_ite]
def skillK (k : Nat) (x : Int32) : Int32 := if k = 0 then x else if k = 1 then x + 3 else if k = 2 then x / 2 else if k = 3 then 0 else if k = 4 then (x + 3) * 2 else if k = 5 then x / 2 + 1 else if k = 6 then x else 9
theorem skillK_eq : ∀ k < 8, ∀ f < 10, skillK k (n2 f) = skV (n2 k) (n2 f) := by decide +kernel
theorem x_Kskill {o k f : Nat} (ho : 41 ≤ o ∧ o ≤ 64) (hk : (o - 41) % 8 = k) (h8 : k < 8) (hf : f < 10) (σ : Mem) : p_K_skill o (n2 f) σ = some (skV (n2 k) (n2 f), σ) := by
  rw [← skillK_eq k h8 f hf]
  generalize n2 f = x
  unfold p_K_skill
  rw [if_neg (by omega), hk]
  match k, h8 with
  | 0, _ => rfl
  | 1, _ => rfl
  | 2, _ => rfl
  | 3, _ => rfl
  | 4, _ => rfl
  | 5, _ => rfl
  | 6, _ => rfl
  | 7, _ => rfl
def reachK (k : Nat) (x : Int32) : Int32 := if k = 0 then 3 + x / 3 else if k = 1 then 3 + x / 3 + 3 else if k = 2 then 1 else if k = 3 then 0 else if k = 4 then 3 + x / 3 + 3 - 1 else if k = 5 then 1 * 2 else if k = 6 then 3 + x / 3 else 9
theorem reachK_eq : ∀ k < 8, ∀ f < 10, reachK k (n2 f) = rcV (n2 k) (n2 f) := by decide +kernel
theorem x_Kreach {o k f : Nat} (ho : 41 ≤ o ∧ o ≤ 64) (hk : (o - 41) % 8 = k) (h8 : k < 8) (hf : f < 10) (σ : Mem) : p_K_reach o (n2 f) σ = some (rcV (n2 k) (n2 f), σ) := by
  rw [← reachK_eq k h8 f hf]
  generalize n2 f = x
  unfold p_K_reach
  rw [if_neg (by omega), hk]
  match k, h8 with
  | 0, _ => rfl
  | 1, _ => rfl
  | 2, _ => rfl
  | 3, _ => rfl
  | 4, _ => rfl
  | 5, _ => rfl
  | 6, _ => rfl
  | 7, _ => rfl
def payK (k : Nat) (x : Int32) : Int32 := if k = 0 then 2 else if k = 1 then 2 + x else if k = 2 then 1 else if k = 3 then 0 else if k = 4 then (2 + x) * 2 else if k = 5 then 1 else if k = 6 then 2 + 1 else 0
theorem payK_eq : ∀ k < 8, ∀ f < 10, payK k (n2 f) = pyV (n2 k) (n2 f) := by decide +kernel
theorem x_Kpay {o k f : Nat} (ho : 41 ≤ o ∧ o ≤ 64) (hk : (o - 41) % 8 = k) (h8 : k < 8) (hf : f < 10) (σ : Mem) : p_K_pay o (n2 f) σ = some (pyV (n2 k) (n2 f), σ) := by
  rw [← payK_eq k h8 f hf]
  generalize n2 f = x
  unfold p_K_pay
  rw [if_neg (by omega), hk]
  match k, h8 with
  | 0, _ => rfl
  | 1, _ => rfl
  | 2, _ => rfl
  | 3, _ => rfl
  | 4, _ => rfl
  | 5, _ => rfl
  | 6, _ => rfl
  | 7, _ => rfl
def priceK (k : Nat) (x : Int32) : Int32 := if k = 0 then 2 else if k = 1 then 2 + x else if k = 2 then 1 else if k = 3 then 9 else if k = 4 then (2 + x) * 2 else if k = 5 then 1 + 3 else if k = 6 then 2 + 4 else 9 / 2
theorem priceK_eq : ∀ k < 8, ∀ f < 10, priceK k (n2 f) = prV (n2 k) (n2 f) := by decide +kernel
theorem x_Kprice {o k f : Nat} (ho : 41 ≤ o ∧ o ≤ 64) (hk : (o - 41) % 8 = k) (h8 : k < 8) (hf : f < 10) (σ : Mem) : p_K_price o (n2 f) σ = some (prV (n2 k) (n2 f), σ) := by
  rw [← priceK_eq k h8 f hf]
  generalize n2 f = x
  unfold p_K_price
  rw [if_neg (by omega), hk]
  match k, h8 with
  | 0, _ => rfl
  | 1, _ => rfl
  | 2, _ => rfl
  | 3, _ => rfl
  | 4, _ => rfl
  | 5, _ => rfl
  | 6, _ => rfl
  | 7, _ => rfl
theorem odd_eq : ∀ s < 2000, n2 s &&& 1 = n2 s - n2 s / 2 * 2 := by decide +kernel
theorem x_Krisk {o k s : Nat} (ho : 41 ≤ o ∧ o ≤ 64) (hk : (o - 41) % 8 = k) (h8 : k < 8) (hs : s < 2000) (x : Int32) (σ : Mem) : p_K_risk o x (n2 s) σ = some (rkV (n2 k) x (n2 s), σ) := by
  have h5 := odd_eq s hs
  generalize n2 s = z at h5 ⊢
  unfold p_K_risk
  rw [if_neg (by omega), hk]
  match k, h8 with
  | 0, _ => rfl
  | 1, _ => rfl
  | 2, _ => rfl
  | 3, _ => rfl
  | 4, _ => rfl
  | 5, _ =>
    show some (((x - x / 5 * 5) + 4) - (z &&& 1), σ) = some (((x - x / 5 * 5) + 4) - (z - z / 2 * 2), σ)
    rw [h5]
  | 6, _ => rfl
  | 7, _ => rfl
theorem x_Kghost {o k : Nat} (ho : 41 ≤ o ∧ o ≤ 64) (hk : (o - 41) % 8 = k) (h8 : k < 8) (σ : Mem) : p_K_isGhost o σ = some ((if ghV (n2 k) = true then 1 else 0), σ) := by
  unfold p_K_isGhost
  rw [if_neg (by omega), hk]
  match k, h8 with
  | 0, _ => rfl
  | 1, _ => rfl
  | 2, _ => rfl
  | 3, _ => rfl
  | 4, _ => rfl
  | 5, _ => rfl
  | 6, _ => rfl
  | 7, _ => rfl
/-! what the row may hold -/
def OkR (R : Nat → Int32) (N : Nat) : Prop := R 0 = n2 N ∧ N ≤ 8 ∧ (∀ p, p < N → (∃ k, k < 8 ∧ kd R p = n2 k) ∧ (∃ f, f < 10 ∧ fg R p = n2 f) ∧ (bt R p = 0 ∨ bt R p = 1 ∨ bt R p = 2 ∨ bt R p = 9) ∧ (lo R p = 0 ∨ (lo R p = 1 ∧ bt R p = 9))) ∧ (∀ q, q < 64 → ∃ v, v < 4 ∧ R (36 + q) = n2 v) ∧ (∃ v, v < 4 ∧ R 1 = n2 v) ∧ (∃ v, v < 10 ∧ R 2 = n2 v) ∧ ∃ v, v < 2000 ∧ R 3 = n2 v
def isC (c : Nat) : Prop := 1 ≤ c ∧ c ≤ 3
theorem x_kindOf {c N p k : Nat} {σ : Mem} {R : Nat → Int32} (h : CR σ c N R) (hp : p < N) (hk : kd R p = n2 k) (h8 : k < 8) : p_X3_kindOf c (n2 p) σ = some (33 + 8 * c + k, σ) := by
  obtain ⟨-, hN8, hN, hP, -⟩ := h
  have h1 := (hP p hp).1
  unfold p_X3_kindOf
  simp (disch := omega) only [lt, n2_nat, iin, h1, hk]
theorem ko_in {c k : Nat} (hc : isC c) (h8 : k < 8) : (41 ≤ 33 + 8 * c + k ∧ 33 + 8 * c + k ≤ 64) ∧ (33 + 8 * c + k - 41) % 8 = k := by
  obtain ⟨h1, h2⟩ := hc
  omega
theorem m_read {r w p : Nat} {α : Type} (σ : Mem) (hp : p < 8) (hw : w < 4) (K : Int32 → Option α) : (if n2 (4 + 4 * p + w) < 0 ∨ 100 ≤ (n2 (4 + 4 * p + w)).toNatClampNeg then none else lt (σ r (n2 (4 + 4 * p + w)).toNatClampNeg) K) = K (σ r (4 + 4 * p + w)) := by
  simp (disch := omega) only [lt, n2_nat, iin]
theorem m_of0 (p : Nat) (σ : Mem) : p_X12_of (n2 p) 0 σ = some (n2 (4 + 4 * p + 0), σ) := m_of p 0 σ
theorem m_of1 (p : Nat) (σ : Mem) : p_X12_of (n2 p) 1 σ = some (n2 (4 + 4 * p + 1), σ) := m_of p 1 σ
theorem m_of2 (p : Nat) (σ : Mem) : p_X12_of (n2 p) 2 σ = some (n2 (4 + 4 * p + 2), σ) := m_of p 2 σ
theorem m_of3 (p : Nat) (σ : Mem) : p_X12_of (n2 p) 3 σ = some (n2 (4 + 4 * p + 3), σ) := m_of p 3 σ
theorem m_skillOf {r p : Nat} (σ : Mem) (hp : p < 8) : p_X12_skillOf r (n2 p) σ = some (skV (kd (σ r) p) (fg (σ r) p), σ) := by
  unfold p_X12_skillOf
  simp (disch := omega) only [m_of0, m_of1, bnd_some, m_read, m_skill]
  rfl
theorem m_riskOf {r p : Nat} (s : Int32) (σ : Mem) (hp : p < 8) : p_X12_riskOf r (n2 p) s σ = some (rkV (kd (σ r) p) (fg (σ r) p) s, σ) := by
  unfold p_X12_riskOf
  simp (disch := omega) only [m_of0, m_of1, bnd_some, m_read, m_risk]
  rfl
theorem m_reachOf {r p : Nat} (σ : Mem) (hp : p < 8) : p_X12_reachOf r (n2 p) σ = some (rcV (kd (σ r) p) (fg (σ r) p), σ) := by
  unfold p_X12_reachOf
  simp (disch := omega) only [m_of0, m_of1, bnd_some, m_read, m_reach]
  rfl
