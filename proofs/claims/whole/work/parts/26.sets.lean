/-! sets of men: numbers below 256 -/
theorem n2_or (a b : Nat) : n2 a ||| n2 b = n2 (a ||| b) := by
  apply Int32.toBitVec_inj.mp
  apply BitVec.eq_of_toNat_eq
  simp [n2, Nat.or_mod_two_pow]
theorem n2_shl : ∀ p < 8, (1 : Int32) <<< (n2 p &&& 31) = n2 (2 ^ p) := by decide +kernel
theorem n2_bit : ∀ a < 256, ∀ p < 8, (n2 a >>> (n2 p &&& 31)) &&& 1 = b2 (a.testBit p) := by decide +kernel
theorem n2_live : ∀ N < 9, ∀ a < 256, (((1 : Int32) <<< (n2 N &&& 31)) - 1) &&& (n2 a ^^^ (-1 : Int32)) = n2 ((2 ^ N - 1) &&& (255 ^^^ a)) := by decide +kernel
/-- those of p, p + 1 .. of whom b holds -/
def mk (b : Nat → Bool) : Nat → Nat → Nat → Nat
  | 0, _, acc => acc
  | t + 1, p, acc => mk b t (p + 1) (acc ||| (if b p = true then 2 ^ p else 0))
theorem mk_bit (b : Nat → Bool) (q : Nat) : ∀ t p acc, (mk b t p acc).testBit q = (acc.testBit q || (decide (p ≤ q) && decide (q < p + t) && b q)) := by
  intro t
  induction t with
  | zero =>
    intro p acc
    have : (decide (p ≤ q) && decide (q < p + 0)) = false := by
      rw [Bool.and_eq_false_iff, decide_eq_false_iff_not, decide_eq_false_iff_not]
      omega
    rw [this]
    simp [mk]
  | succ t ih =>
    intro p acc
    show (mk b t (p + 1) _).testBit q = _
    rw [ih, Nat.testBit_or]
    have e : (if b p = true then 2 ^ p else 0).testBit q = (decide (p = q) && b q) := by
      by_cases hp : p = q
      · subst hp
        cases b p <;> simp
      · rw [decide_eq_false hp]
        cases b p
        · simp
        · simp [Nat.testBit_two_pow, hp]
    rw [e]
    by_cases h1 : p = q
    · subst h1
      simp
      intro h
      omega
    · have e2 : decide (p + 1 ≤ q) = decide (p ≤ q) := by
        rw [decide_eq_decide]
        omega
      have e3 : decide (q < p + 1 + t) = decide (q < p + (t + 1)) := by
        rw [decide_eq_decide]
        omega
      rw [decide_eq_false h1, e2, e3]
      simp
theorem mk_lt (b : Nat → Bool) : ∀ t p acc, p + t ≤ 8 → acc < 256 → mk b t p acc < 256 := by
  intro t
  induction t with
  | zero => intro p acc _ h; exact h
  | succ t ih =>
    intro p acc hp h
    refine ih _ _ (by omega) ?_
    refine Nat.or_lt_two_pow (n := 8) h ?_
    split
    · exact Nat.pow_lt_pow_right (by omega) (by omega)
    · decide
def setV (b : Nat → Bool) (N : Nat) : Nat := mk b N 0 0
theorem set_bit {b : Nat → Bool} {N q : Nat} : (setV b N).testBit q = (decide (q < N) && b q) := by
  unfold setV
  rw [mk_bit]
  simp
theorem set_lt {b : Nat → Bool} {N : Nat} (h : N ≤ 8) : setV b N < 256 := mk_lt b N 0 0 (by omega) (by decide)
theorem set_ext {a c : Nat} (h : ∀ q, a.testBit q = c.testBit q) : a = c := Nat.eq_of_testBit_eq h
theorem or_step {acc p : Nat} (b : Bool) (hp : p < 8) : n2 acc ||| (if b = true then (1 : Int32) <<< (n2 p &&& 31) else 0) = n2 (acc ||| (if b = true then 2 ^ p else 0)) := by
  cases b
  · exact n2_or acc 0
  · rw [if_pos rfl, if_pos rfl, n2_shl p hp, n2_or]
theorem crew_mk (R : Nat → Int32) (b : Int32) : ∀ t p acc, p + t ≤ 8 → crewS R b t p (n2 acc) = n2 (mk (fun p => decide (bt R p = b)) t p acc) := by
  intro t
  induction t with
  | zero => intro p acc _; rfl
  | succ t ih =>
    intro p acc hp
    show crewS R b t (p + 1) (n2 acc ||| (if bt R p = b then (1 : Int32) <<< (n2 p &&& 31) else 0)) = n2 (mk _ t (p + 1) _)
    rw [← ih _ _ (by omega)]
    congr 1
    have h := or_step (acc := acc) (decide (bt R p = b)) (show p < 8 by omega)
    simp only [decide_eq_true_eq] at h ⊢
    exact h
/-- a boat's crew as a set -/
def crewV (R : Nat → Int32) (N : Nat) (b : Int32) : Nat := setV (fun p => decide (bt R p = b)) N
theorem m_crewV {r N : Nat} {σ : Mem} {b : Int32} (hN : σ r 0 = n2 N) (h8 : N ≤ 8) : p_X12_crew r b σ = some (n2 (crewV (σ r) N b), σ) := by
  rw [m_crew hN h8]
  show some (crewS (σ r) b N 0 (n2 0), σ) = _
  rw [crew_mk _ _ _ _ _ (by omega)]
  rfl
theorem x_crewV {c N : Nat} {σ : Mem} {b : Int32} {R : Nat → Int32} (h : CR σ c N R) : p_X3_crew c b σ = some (n2 (crewV R N b), σ) := by
  rw [x_crew h]
  show some (crewS R b N 0 (n2 0), σ) = _
  rw [crew_mk _ _ _ _ _ (by have := h.2.1; omega)]
  rfl
theorem m_has {a p : Nat} (σ : Mem) (ha : a < 256) (hp : p < 8) : p_X12_has (n2 a) (n2 p) σ = some (b2 (a.testBit p), σ) := by
  unfold p_X12_has
  rw [n2_bit a ha p hp]
  cases a.testBit p <;> rfl
theorem x_holds {a p : Nat} (σ : Mem) (ha : a < 256) (hp : p < 8) : p_X11_holds (n2 a) (n2 p) σ = some (b2 (a.testBit p), σ) := by
  unfold p_X11_holds
  rw [n2_bit a ha p hp]
  cases a.testBit p <;> rfl
/-- who is lost, as a set -/
def lostV (R : Nat → Int32) (N : Nat) : Nat := setV (fun p => decide (lo R p = 1)) N
theorem lost_lt {R : Nat → Int32} {N : Nat} (h : N ≤ 8) : lostV R N < 256 := set_lt h
theorem lost_bit {R : Nat → Int32} {N p : Nat} (hp : p < N) : (lostV R N).testBit p = decide (lo R p = 1) := by
  unfold lostV
  rw [set_bit, decide_eq_true hp]
  rfl
theorem m_lostL {r N : Nat} {σ : Mem} (hN : σ r 0 = n2 N) (h8 : N ≤ 8) (hl : ∀ p, p < N → lo (σ r) p = 0 ∨ lo (σ r) p = 1) : ∀ (t p acc f : Nat), p + t = N → t < f → p_X12_lostSet_L4 r f (n2 acc) (n2 p) σ = some (n2 (mk (fun p => decide (lo (σ r) p = 1)) t p acc), σ) := by
  intro t
  induction t with
  | zero =>
    intro p acc f hp hf
    obtain ⟨f, rfl⟩ : ∃ g, f = g + 1 := ⟨f - 1, by omega⟩
    show p_X12_lostSet_B4 (p_X12_lostSet_L4 r f) r (n2 acc) (n2 p) σ = _
    unfold p_X12_lostSet_B4
    simp (disch := omega) only [ii0, lt, c0, hN, ile_t]
    rfl
  | succ t ih =>
    intro p acc f hp hf
    obtain ⟨f, rfl⟩ : ∃ g, f = g + 1 := ⟨f - 1, by omega⟩
    show p_X12_lostSet_B4 (p_X12_lostSet_L4 r f) r (n2 acc) (n2 p) σ = _
    unfold p_X12_lostSet_B4
    simp (disch := omega) only [ii0, lt, c0, hN, ile_f, m_of3, bnd_some, n2_nat, iin, n2_succ]
    have e : n2 acc ||| (σ r (4 + 4 * p + 3) <<< (n2 p &&& 31)) = n2 (acc ||| (if decide (lo (σ r) p = 1) = true then 2 ^ p else 0)) := by
      rw [← or_step _ (by omega)]
      congr 1
      rcases hl p (by omega) with h | h
      · rw [show σ r (4 + 4 * p + 3) = 0 from h, show lo (σ r) p = 0 from h]
        have h0 : ∀ q < 8, (0 : Int32) <<< (n2 q &&& 31) = 0 := by decide +kernel
        rw [h0 p (by omega)]
        rfl
      · rw [show σ r (4 + 4 * p + 3) = 1 from h, show lo (σ r) p = 1 from h]
        rfl
    rw [e, ih _ _ _ (by omega) (by omega)]
    rfl
theorem m_lostSet {r N : Nat} {σ : Mem} (hR : OkR (σ r) N) : p_X12_lostSet r σ = some (n2 (lostV (σ r) N), σ) :=
  m_lostL hR.1 hR.2.1 (fun p hp => by rcases (hR.2.2.1 p hp).2.2.2 with h | h; exact Or.inl h; exact Or.inr h.1) N 0 0 1000 (by omega) (by have := hR.2.1; omega)
def aliveV (R : Nat → Int32) (N : Nat) : Nat := (2 ^ N - 1) &&& (255 ^^^ lostV R N)
theorem m_aliveSet {r N : Nat} {σ : Mem} (hR : OkR (σ r) N) : p_X12_aliveSet r σ = some (n2 (aliveV (σ r) N), σ) := by
  unfold p_X12_aliveSet
  simp (disch := omega) only [ii0, lt, c0, hR.1, m_lostSet hR, bnd_some]
  rw [n2_live N (by have := hR.2.1; omega) _ (lost_lt hR.2.1)]
  rfl
/-- cape c holds what the row tells, who is lost too -/
def CL3 (σ : Mem) (c N : Nat) (R : Nat → Int32) : Prop := CR σ c N R ∧ OkR R N ∧ σ c 6 = n2 (lostV R N)
theorem x_isLost {c N p : Nat} {σ : Mem} {R : Nat → Int32} (h : CL3 σ c N R) (hp : p < N) : p_X3_isLost c (n2 p) σ = some (b2 (decide (lo R p = 1)), σ) := by
  have h8 : N ≤ 8 := h.2.1.2.1
  unfold p_X3_isLost
  simp only [lt, h.2.2, x_holds σ (lost_lt h8) (show p < 8 by omega), bnd_some, rz_b, lost_bit hp]
theorem x_living {c N : Nat} {σ : Mem} {R : Nat → Int32} (h : CL3 σ c N R) : p_X3_living c σ = some (n2 (aliveV R N), σ) := by
  unfold p_X3_living
  simp only [lt, h.2.2, h.1.2.2.1]
  rw [n2_live N (by have := h.2.1.2.1; omega) _ (lost_lt h.2.1.2.1)]
  rfl
