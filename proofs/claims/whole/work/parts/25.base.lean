/-! small predicates on both sides -/
def b2 (b : Bool) : Int32 := if b = true then 1 else 0
theorem b2z {α : Type} {b : Bool} {A B : α} : (if b2 b = 0 then A else B) = if b = true then B else A := by cases b <;> rfl
theorem rz_b (b : Bool) (σ : Mem) : rz (b2 b) σ = some (b2 b, σ) := by cases b <;> rfl
def inV (x a b : Int32) : Bool := !decide (x < a) && !decide (b < x)
theorem m_isIn (x a b : Int32) (σ : Mem) : p_X12_isIn x a b σ = some (b2 (inV x a b), σ) := by
  unfold p_X12_isIn inV
  by_cases h1 : x < a
  · rw [if_pos h1, decide_eq_true h1]
    rfl
  · rw [if_neg h1, decide_eq_false h1]
    by_cases h2 : b < x
    · rw [if_pos h2, decide_eq_true h2]
      rfl
    · rw [if_neg h2, decide_eq_false h2]
      rfl
theorem x_within (x a b : Int32) (σ : Mem) : p_X11_within x a b σ = some (b2 (inV x a b), σ) := m_isIn x a b σ
def manV (N : Nat) (x : Int32) : Bool := !decide (x < 0) && !decide (n2 N ≤ x)
theorem n2_pred {N : Nat} (h : N ≤ 8) : (n2 N - 1).toInt = (N : Int) - 1 := by
  rw [Int32.toInt_sub, n2_int (by omega), show (1 : Int32).toInt = 1 from rfl]
  unfold Int.bmod
  simp only
  split <;> omega
theorem man_in {N : Nat} (h : N ≤ 8) (x : Int32) : inV x 0 (n2 N - 1) = manV N x := by
  unfold inV manV
  have e : (n2 N - 1 < x) ↔ (n2 N ≤ x) := by
    rw [Int32.lt_iff_toInt_lt, n2_pred h, Int32.le_iff_toInt_le, n2_int (by omega)]
    omega
  by_cases h1 : n2 N ≤ x
  · rw [decide_eq_true h1, decide_eq_true (e.mpr h1)]
  · rw [decide_eq_false h1, decide_eq_false (fun h2 => h1 (e.mp h2))]
theorem man_n2 {N : Nat} (h : N ≤ 8) {x : Int32} (hx : manV N x = true) : ∃ p, p < N ∧ x = n2 p := by
  unfold manV at hx
  simp only [Bool.and_eq_true, Bool.not_eq_true', decide_eq_false_iff_not] at hx
  rw [Int32.lt_iff_toInt_lt, Int32.le_iff_toInt_le, n2_int (by omega), show (0 : Int32).toInt = 0 from rfl] at hx
  refine ⟨x.toInt.toNat, by omega, ?_⟩
  apply Int32.toInt_inj.mp
  rw [n2_int (by omega)]
  omega
theorem m_isMan {N : Nat} {σ : Mem} (h0 : σ 66 0 = n2 N) (h : N ≤ 8) (x : Int32) : p_X12_isMan x σ = some (b2 (manV N x), σ) := by
  unfold p_X12_isMan
  simp (disch := omega) only [ii0, lt, c0, h0, m_isIn, bnd_some, man_in h, rz_b]
theorem x_has {c N : Nat} {σ : Mem} {R : Nat → Int32} (h : CR σ c N R) (x : Int32) : p_X3_has c x σ = some (b2 (manV N x), σ) := by
  obtain ⟨-, h8, hN, -⟩ := h
  unfold p_X3_has manV
  simp only [lt, hN]
  by_cases h1 : x < 0
  · rw [if_pos h1, decide_eq_true h1]
    rfl
  · rw [if_neg h1, decide_eq_false h1]
    by_cases h2 : n2 N ≤ x
    · rw [if_pos h2, decide_eq_true h2]
      rfl
    · rw [if_neg h2, decide_eq_false h2]
      rfl
def twoV (N : Nat) (x y : Int32) : Bool := manV N x && (manV N y && !decide (x = y))
theorem m_areTwo {N : Nat} {σ : Mem} (h0 : σ 66 0 = n2 N) (h : N ≤ 8) (x y : Int32) : p_X12_areTwo x y σ = some (b2 (twoV N x y), σ) := by
  unfold p_X12_areTwo twoV
  simp only [m_isMan h0 h, bnd_some, b2z]
  cases manV N x
  · rfl
  · cases manV N y
    · rfl
    · by_cases h1 : x = y
      · simp only [h1, if_true]
        rfl
      · simp only [h1, if_true, if_false]
        rfl
theorem x_hasTwo {c N : Nat} {σ : Mem} {R : Nat → Int32} (h : CR σ c N R) (x y : Int32) : p_X3_hasTwo c x y σ = some (b2 (twoV N x y), σ) := by
  unfold p_X3_hasTwo twoV
  simp only [x_has h, bnd_some, b2z]
  cases manV N x
  · rfl
  · cases manV N y
    · rfl
    · by_cases h1 : x = y
      · simp only [h1, if_true]
        rfl
      · simp only [h1, if_true, if_false]
        rfl
theorem m_isBoat (x : Int32) (σ : Mem) : p_X12_isBoat x σ = some (b2 (inV x 0 2), σ) := by
  unfold p_X12_isBoat
  simp only [m_isIn, bnd_some, rz_b]
theorem x_isBoat (x : Int32) (σ : Mem) : p_X11_isBoat x σ = some (b2 (inV x 0 2), σ) := by
  unfold p_X11_isBoat
  simp only [x_within, bnd_some, rz_b]
theorem x_isKind (x : Int32) (σ : Mem) : p_X11_isKind x σ = some (b2 (inV x 0 7), σ) := by
  unfold p_X11_isKind
  simp only [x_within, bnd_some, rz_b]
theorem x_isPart (x : Int32) (σ : Mem) : p_X11_isPart x σ = some (b2 (inV x 0 1), σ) := by
  unfold p_X11_isPart
  simp only [x_within, bnd_some, rz_b]
theorem x_isShelf (x : Int32) (σ : Mem) : p_X11_isShelf x σ = some (b2 (inV x 0 7), σ) := by
  unfold p_X11_isShelf
  simp only [x_within, bnd_some, rz_b]
theorem m_isShelf (x : Int32) (σ : Mem) : p_X12_isShelf x σ = some (b2 (inV x 0 7), σ) := by
  unfold p_X12_isShelf
  simp only [m_isIn, bnd_some, rz_b]
/-! who has saved whom -/
def svV (h law : Int32) : Bool := !decide (h < (if law = 0 then 1 else law))
theorem m_by (p q : Nat) (σ : Mem) : p_X12_by (n2 p) (n2 q) σ = some (n2 (36 + 8 * p + q), σ) := by
  unfold p_X12_by
  show some ((n2 36 + n2 8 * n2 p) + n2 q, σ) = _
  rw [show n2 8 * n2 p = n2 (8 * p) from (Int32.ofNat_mul 8 p).symm, n2_add, n2_add]
theorem m_hasSaved {r p q : Nat} (law : Int32) (σ : Mem) (hp : p < 8) (hq : q < 8) : p_X12_hasSaved r (n2 p) (n2 q) law σ = some (b2 (svV (hw (σ r) p q) law), σ) := by
  unfold p_X12_hasSaved
  simp (disch := omega) only [m_by, bnd_some, n2_nat, iin, lt, p_X12_hasSaved_B16]
  show (if law = 0 then (if hw (σ r) p q < 1 then _ else _) else (if hw (σ r) p q < law then _ else _)) = _
  unfold svV
  by_cases h1 : law = 0
  · simp only [h1, if_true]
    by_cases h2 : hw (σ r) p q < 1
    · rw [if_pos h2, decide_eq_true h2]
      rfl
    · rw [if_neg h2, decide_eq_false h2]
      rfl
  · simp only [h1, if_false]
    by_cases h2 : hw (σ r) p q < law
    · rw [if_pos h2, decide_eq_true h2]
      rfl
    · rw [if_neg h2, decide_eq_false h2]
      rfl
theorem cnt_eq : ∀ v < 4, ∀ w < 4, (!decide (n2 v ≤ 0) && !decide (n2 v < n2 w)) = svV (n2 v) (n2 w) := by decide +kernel
theorem x_counts {c N p q w : Nat} {σ : Mem} {R : Nat → Int32} (h : CR σ c N R) (hR : OkR R N) (hp : p < 8) (hq : q < 8) (hw4 : w < 4) : p_X3_counts c (n2 p) (n2 q) (n2 w) σ = some (b2 (svV (hw R p q) (n2 w)), σ) := by
  obtain ⟨-, -, -, -, hH, -⟩ := h
  obtain ⟨v, hv, e⟩ := hR.2.2.2.1 (8 * p + q) (by omega)
  have e1 : n2 p * 8 + n2 q = n2 (8 * p + q) := by
    show n2 p * n2 8 + n2 q = _
    rw [show n2 p * n2 8 = n2 (p * 8) from (Int32.ofNat_mul p 8).symm, n2_add, Nat.mul_comm]
  have e2 : hw R p q = n2 v := by
    rw [← e]
    show R (36 + 8 * p + q) = _
    rw [Nat.add_assoc]
  unfold p_X3_counts
  rw [e1, e2, ← cnt_eq v hv w hw4]
  simp (disch := omega) only [n2_nat, iin, lt, hH, e]
  by_cases h1 : n2 v ≤ 0
  · rw [if_pos h1, decide_eq_true h1]
    rfl
  · rw [if_neg h1, decide_eq_false h1]
    by_cases h2 : n2 v < n2 w
    · rw [if_pos h2, decide_eq_true h2]
      rfl
    · rw [if_neg h2, decide_eq_false h2]
      rfl
/-! who may sail with whom -/
def mayV (R : Nat → Int32) (p q : Nat) (law : Int32) : Bool := ghV (kd R p) || (ghV (kd R q) || (!svV (hw R p q) law && !svV (hw R q p) law))
theorem m_isGhost {r p : Nat} (σ : Mem) (hp : p < 8) : p_X12_isGhost r (n2 p) σ = some (b2 (ghV (kd (σ r) p)), σ) := by
  unfold p_X12_isGhost ghV
  simp (disch := omega) only [m_of0, bnd_some, m_read, p_X12_isGhost_B23]
  show (if kd (σ r) p = 3 then _ else (if kd (σ r) p = 7 then _ else _)) = _
  by_cases h1 : kd (σ r) p = 3
  · rw [if_pos h1, decide_eq_true h1]
    rfl
  · rw [if_neg h1, decide_eq_false h1]
    by_cases h2 : kd (σ r) p = 7
    · rw [if_pos h2, decide_eq_true h2]
      rfl
    · rw [if_neg h2, decide_eq_false h2]
      rfl
theorem m_mayBy {r p q : Nat} (law : Int32) (σ : Mem) (hp : p < 8) (hq : q < 8) : p_X12_mayBy r (n2 p) (n2 q) law σ = some (b2 (mayV (σ r) p q law), σ) := by
  unfold p_X12_mayBy mayV
  simp only [m_isGhost σ hp, m_isGhost σ hq, m_hasSaved law σ hp hq, m_hasSaved law σ hq hp, bnd_some, b2z, p_X12_mayBy_B36]
  cases ghV (kd (σ r) p) <;> cases ghV (kd (σ r) q) <;> cases svV (hw (σ r) p q) law <;> cases svV (hw (σ r) q p) law <;> rfl
theorem m_mayIn {r p q : Nat} (σ : Mem) (hp : p < 8) (hq : q < 8) : p_X12_mayIn r (n2 p) (n2 q) σ = some (b2 (mayV (σ r) p q (σ r 1)), σ) := by
  unfold p_X12_mayIn
  simp (disch := omega) only [ii1, lt, c1, m_mayBy, bnd_some, rz_b, hp, hq]
theorem x_agree {c N p q w : Nat} {σ : Mem} {R : Nat → Int32} (hc : isC c) (h : CR σ c N R) (hR : OkR R N) (hp : p < N) (hq : q < N) (hw4 : w < 4) : p_X3_agree c (n2 p) (n2 q) (n2 w) σ = some (b2 (mayV R p q (n2 w)), σ) := by
  have h8 : N ≤ 8 := h.2.1
  obtain ⟨⟨k1, hk1, e1⟩, -⟩ := hR.2.2.1 p hp
  obtain ⟨⟨k2, hk2, e2⟩, -⟩ := hR.2.2.1 q hq
  have i1 := ko_in hc hk1
  have i2 := ko_in hc hk2
  unfold p_X3_agree mayV
  rw [e1, e2]
  simp only [x_kindOf h hp e1 hk1, x_kindOf h hq e2 hk2, bnd_some, x_Kghost i1.1 i1.2 hk1, x_Kghost i2.1 i2.2 hk2, x_counts h hR (show p < 8 by omega) (show q < 8 by omega) hw4, x_counts h hR (show q < 8 by omega) (show p < 8 by omega) hw4]
  cases ghV (n2 k1) <;> cases ghV (n2 k2) <;> cases svV (hw R p q) (n2 w) <;> cases svV (hw R q p) (n2 w) <;> rfl
