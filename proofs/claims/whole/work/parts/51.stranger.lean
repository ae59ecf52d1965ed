/-! one set within another one -/
theorem n2_xor (a b : Nat) : n2 a ^^^ n2 b = n2 (a ^^^ b) := by
  apply Int32.toBitVec_inj.mp
  apply BitVec.eq_of_toNat_eq
  simp [n2, Nat.xor_mod_two_pow]
theorem high_bit {a q : Nat} (ha : a < 256) (hq : 8 ≤ q) : a.testBit q = false := by
  refine Nat.testBit_lt_two_pow ?_
  have : 2 ^ 8 ≤ 2 ^ q := Nat.pow_le_pow_right (by omega) hq
  omega
theorem n2_mask {a b : Nat} (ha : a < 256) (hb : b < 256) : n2 a &&& (n2 b ^^^ (-1 : Int32)) = n2 (a &&& (255 ^^^ b)) := by
  rw [show (-1 : Int32) = n2 4294967295 from rfl, n2_xor]
  have hx : b ^^^ 4294967295 < 4294967296 := Nat.xor_lt_two_pow (n := 32) (by omega) (by omega)
  rw [n2_and _ _ (by omega) hx]
  congr 1
  refine set_ext (fun q => ?_)
  rw [Nat.testBit_and, Nat.testBit_and, Nat.testBit_xor, Nat.testBit_xor]
  by_cases hq : q < 8
  · rw [show (4294967295 : Nat) = 2 ^ 32 - 1 from rfl, show (255 : Nat) = 2 ^ 8 - 1 from rfl, Nat.testBit_two_pow_sub_one, Nat.testBit_two_pow_sub_one, decide_eq_true hq, decide_eq_true (show q < 32 by omega)]
    cases a.testBit q <;> cases b.testBit q <;> rfl
  · rw [high_bit ha (by omega)]
    rfl
theorem mask_le {a b : Nat} (ha : a < 256) : a &&& (255 ^^^ b) < 256 := Nat.lt_of_le_of_lt Nat.and_le_left ha
theorem sub_iff {a b : Nat} (ha : a < 256) : (a &&& (255 ^^^ b) = 0) ↔ ∀ q, q < 8 → a.testBit q = true → b.testBit q = true := by
  constructor
  · intro h q hq h1
    have h2 : (a &&& (255 ^^^ b)).testBit q = false := by rw [h]; exact Nat.zero_testBit q
    rw [Nat.testBit_and, Nat.testBit_xor, h1, show (255 : Nat) = 2 ^ 8 - 1 from rfl, Nat.testBit_two_pow_sub_one, decide_eq_true hq] at h2
    cases h3 : b.testBit q
    · rw [h3] at h2
      cases h2
    · rfl
  · intro h
    refine set_ext (fun q => ?_)
    rw [Nat.testBit_and, Nat.testBit_xor, Nat.zero_testBit]
    by_cases hq : q < 8
    · rw [show (255 : Nat) = 2 ^ 8 - 1 from rfl, Nat.testBit_two_pow_sub_one, decide_eq_true hq]
      cases h1 : a.testBit q
      · rfl
      · rw [h q hq h1]
        rfl
    · rw [high_bit ha (by omega)]
      rfl
theorem al_iff {c : Nat → Bool} : ∀ t p, al c t p = true ↔ ∀ q, p ≤ q → q < p + t → c q = true := by
  intro t
  induction t with
  | zero => intro p; exact ⟨fun _ q h1 h2 => by omega, fun _ => rfl⟩
  | succ t ih =>
    intro p
    show (c p && al c t (p + 1)) = true ↔ _
    rw [Bool.and_eq_true, ih]
    constructor
    · intro h q h1 h2
      by_cases e : q = p
      · rw [e]
        exact h.1
      · exact h.2 q (by omega) (by omega)
    · intro h
      exact ⟨h p (by omega) (by omega), fun q h1 h2 => h q (by omega) (by omega)⟩
def b2a (b : Bool) : Int32 := b2 b
theorem b2_and1 (b : Bool) : b2 b &&& 1 = b2 b := by cases b <;> rfl
theorem b2_and0 (b : Bool) : b2 b &&& 0 = b2 false := by cases b <;> rfl
/-! with whom a stranger could sail -/
def stC (R : Nat → Int32) (p : Nat) (b : Int32) (q : Nat) : Bool := !decide (bt R q = b) || myB R p q
def stF (R : Nat → Int32) (N p b : Nat) (a : Option Nat × Nat) : Option Nat × Nat := if al (stC R p (n2 b)) N 0 = true then (if a.2 < pop (crewV R N (n2 b)) then (some b, pop (crewV R N (n2 b))) else a) else a
theorem stF_le {R : Nat → Int32} {N p b : Nat} {a : Option Nat × Nat} (h : a.2 ≤ 8) : (stF R N p b a).2 ≤ 8 := by
  unfold stF
  split
  · split
    · exact pop_le _
    · exact h
  · exact h
theorem st_sub {R : Nat → Int32} {N p b : Nat} (h : OkR R N) (hp : p < N) (hb : bt R p = 9) (hb3 : b < 3) : (crewV R N (n2 b) &&& (255 ^^^ setV (frB R p) N) = 0) ↔ al (stC R p (n2 b)) N 0 = true := by
  have h8 := h.2.1
  have hn9 : ¬ n2 b = 9 := fun e => by have := (n2_inj (a := b) (b := 9) (by omega) (by omega)).mp e; omega
  rw [sub_iff (crew_lt h8), al_iff]
  constructor
  · intro h1 q _ hq
    have hq : q < N := by omega
    unfold stC
    by_cases e : bt R q = n2 b
    · have h2 := h1 q (by omega) (by rw [crew_bit hq]; exact decide_eq_true e)
      rw [set_bit, decide_eq_true hq] at h2
      unfold frB at h2
      rw [Bool.or_eq_true]
      right
      cases h3 : myB R p q
      · rw [h3] at h2
        simp at h2
      · rfl
    · rw [decide_eq_false e]
      rfl
  · intro h1 q hq8 hq
    unfold crewV at hq
    rw [set_bit, Bool.and_eq_true, decide_eq_true_eq, decide_eq_true_eq] at hq
    have h2 := h1 q (by omega) (by omega)
    unfold stC at h2
    rw [decide_eq_true hq.2] at h2
    have h2 : myB R p q = true := h2
    rw [set_bit, decide_eq_true hq.1]
    unfold frB
    have e1 : ¬ q = p := fun e => by rw [e, hb] at hq; exact hn9 hq.2.symm
    have e2 : ¬ lo R q = 1 := fun e => by
      rcases (h.2.2.1 q hq.1).2.2.2 with e3 | e3
      · rw [e] at e3
        exact absurd e3 (by decide)
      · rw [e3.2] at hq
        exact hn9 hq.2.symm
    rw [h2, decide_eq_false e1, decide_eq_false e2]
    rfl
theorem m_stL {N p : Nat} {σ : Mem} (h : OkR (σ 66) N) (hp : p < N) (b : Int32) (x2 x3 x4 x5 : Int32) (k : Int32 → Int32 → Int32 → Int32 → Int32 → Mem → Option (Int32 × Mem)) : p_X12_stranger_L69 k (n2 p) x2 1000 x3 x4 x5 (n2 (crewV (σ 66) N b)) 1 0 σ = k x3 x4 x5 (n2 (crewV (σ 66) N b)) (b2 (al (stC (σ 66) p b) N 0)) σ := by
  have h8 := h.2.1
  have e : ∀ t p0 m, fo (fun q m => m && stC (σ 66) p b q) t p0 m = (m && al (stC (σ 66) p b) t p0) := by
    intro t
    induction t with
    | zero => intro p0 m; exact (Bool.and_true m).symm
    | succ t ih =>
      intro p0 m
      show fo (fun q m => m && stC (σ 66) p b q) t (p0 + 1) (m && stC (σ 66) p b p0) = _
      rw [ih, Bool.and_assoc]
      rfl
  have k1 := lp (L := fun g q m => p_X12_stranger_L69 k (n2 p) x2 g x3 x4 x5 (n2 (crewV (σ 66) N b)) (b2 m) (n2 q) σ) (f := fun q m => m && stC (σ 66) p b q) (fin := fun m => k x3 x4 x5 (n2 (crewV (σ 66) N b)) (b2 m) σ) (N := N) (fun _ _ => True) (fun _ _ _ _ => trivial) (fun g q m hq _ => ?_) (fun g m _ => ?_) N 0 true 1000 (by omega) (by omega) trivial
  · rw [e] at k1
    exact k1
  · show p_X12_stranger_B69 (p_X12_stranger_L69 k (n2 p) x2 g) k (n2 p) x2 x3 x4 x5 (n2 (crewV (σ 66) N b)) (b2 m) (n2 q) σ = _
    unfold p_X12_stranger_B69 p_X12_stranger_B105 p_X12_stranger_B110
    simp (disch := omega) only [ii0, c0, ltE, h.1, ile_f, m_has σ (crew_lt h8) (show q < 8 by omega), crew_bit hq, m_my h hp hq, bndE, b2z, n2_succ, b2_and1, b2_and0]
    unfold stC
    cases decide (bt (σ 66) q = b) <;> cases myB (σ 66) p q <;> cases m <;> rfl
  · show p_X12_stranger_B69 (p_X12_stranger_L69 k (n2 p) x2 g) k (n2 p) x2 x3 x4 x5 (n2 (crewV (σ 66) N b)) (b2 m) (n2 N) σ = _
    unfold p_X12_stranger_B69
    simp (disch := omega) only [ii0, c0, ltE, h.1, ile_t]
theorem st_stranger : St2 Inv p_X11_stranger p_X12_stranger := by
  intro a y σ hI
  obtain ⟨N, t, hL, -, -, -, -⟩ := getI hI
  have h8 := hL.le8
  have h := hL.2.1
  cases ha : manV N a
  · refine st_read hI (r := (-1 : Int32)) ?_ ?_
    · unfold p_X11_stranger
      simp only [x_has hL.1, bndE, b2z, ha]
      rfl
    · unfold p_X12_stranger
      simp only [m_isMan h.1 h8, bndE, b2z, ha]
      rfl
  cases hy : inV y 0 1
  · refine st_read hI (r := (-1 : Int32)) ?_ ?_
    · unfold p_X11_stranger
      simp only [x_has hL.1, bndE, b2z, ha, if_true, x_isPart, hy]
      rfl
    · unfold p_X12_stranger
      simp only [m_isMan h.1 h8, bndE, b2z, ha, if_true, m_isIn, hy]
      rfl
  obtain ⟨p, hp, rfl⟩ := man_n2 h8 ha
  have e31 : σ 31 p = bt (σ 66) p := hL.btq hp
  have e66 : σ 66 (4 + 4 * p + 2) = bt (σ 66) p := rfl
  by_cases hb : bt (σ 66) p = 9
  · generalize hw : fo (stF (σ 66) N p) 3 0 (none, 0) = w
    refine st_read hI (r := match w.1 with
      | none => -4
      | some b => if y = 0 then n2 b else n2 w.2) ?_ ?_
    · unfold p_X11_stranger
      simp (disch := omega) only [x_has hL.1, bndE, b2z, ha, if_true, x_isPart, hy, n2_nat, iin, ltE, e31, hb, x_friends isC1 hL hp]
      have k := fun (kk : Int32 → Int32 → Mem → Option (Int32 × Mem)) => lp (L := fun g b (a : Option Nat × Nat) => p_X11_stranger_L56 kk (n2 p) y g (n2 (setV (frB (σ 66) p) N)) (oe a.1) (n2 a.2) (n2 b) σ) (f := stF (σ 66) N p) (fin := fun a => kk (oe a.1) (n2 a.2) σ) (N := 3) (fun _ a => a.2 ≤ 8) (fun b a _ h => stF_le h) (fun g b a hb3 ha => by
        show p_X11_stranger_B56 (p_X11_stranger_L56 kk (n2 p) y g) kk (n2 p) y (n2 (setV (frB (σ 66) p) N)) (oe a.1) (n2 a.2) (n2 b) σ = _
        unfold p_X11_stranger_B56 p_X11_stranger_B103
        have l1 := crew_lt (R := σ 66) (b := n2 b) h8
        have l2 : setV (frB (σ 66) p) N < 256 := set_lt h8
        have l3 := mask_le (b := setV (frB (σ 66) p) N) l1
        have l4 := pop_le (crewV (σ 66) N (n2 b))
        rw [show (if (3 : Int32) ≤ n2 b then _ else _) = _ from ile_f (a := 3) (b := b) ⟨by omega, by omega⟩]
        simp (disch := omega) only [x_crewV hL.1, bndE, n2_mask l1 l2, ieq0, x_pop l1, ileq, n2_succ]
        unfold stF
        by_cases q1 : al (stC (σ 66) p (n2 b)) N 0 = true
        · rw [if_pos ((st_sub h hp hb hb3).mpr q1), if_pos q1]
          by_cases q2 : a.2 < pop (crewV (σ 66) N (n2 b))
          · rw [if_neg (by omega), if_pos q2]
            rfl
          · rw [if_pos (by omega), if_neg q2]
        · rw [if_neg (fun e => q1 ((st_sub h hp hb hb3).mp e)), if_neg q1]) (fun g a _ => rfl) 3 0 (none, 0) 1000 (by omega) (by omega) (by decide)
      refine (k _).trans ?_
      rw [hw]
      obtain ⟨w1, w2⟩ := w
      cases w1 with
      | none => rfl
      | some b =>
        have hb3 : b < 2147483648 := by
          have h1 := fo_inv (f := stF (σ 66) N p) (N := 3) (fun _ a => ∀ b, a.1 = some b → b < 3) (fun b a hb h => by
            unfold stF
            split
            · split
              · intro b' hb'
                cases hb'
                exact hb
              · exact h
            · exact h) 3 0 (none, 0) (by omega) (fun b hb => by cases hb)
          rw [hw] at h1
          have := h1 b rfl
          omega
        show (if n2 b < 0 then _ else _) = _
        rw [ilt0 hb3]
        unfold p_X11_stranger_B118
        split <;> rfl
    · unfold p_X12_stranger
      simp (disch := omega) only [m_isMan h.1 h8, bndE, b2z, ha, if_true, m_isIn, hy, m_of2, n2_nat, iin, ltE, e66, hb]
      have k := fun (kk : Int32 → Int32 → Mem → Option (Int32 × Mem)) => lp (L := fun g b (a : Option Nat × Nat) => p_X12_stranger_L46 kk (n2 p) y g (oe a.1) (n2 a.2) (n2 b) σ) (f := stF (σ 66) N p) (fin := fun a => kk (oe a.1) (n2 a.2) σ) (N := 3) (fun _ a => a.2 ≤ 8) (fun b a _ h => stF_le h) (fun g b a hb3 ha => by
        show p_X12_stranger_B46 (p_X12_stranger_L46 kk (n2 p) y g) kk (n2 p) y (oe a.1) (n2 a.2) (n2 b) σ = _
        unfold p_X12_stranger_B46 p_X12_stranger_B147
        have l1 := crew_lt (R := σ 66) (b := n2 b) h8
        have l4 := pop_le (crewV (σ 66) N (n2 b))
        rw [show (if (3 : Int32) ≤ n2 b then _ else _) = _ from ile_f (a := 3) (b := b) ⟨by omega, by omega⟩]
        simp (disch := omega) only [m_crewV h.1 h8, bndE, m_stL h hp, b2z, m_pop l1, iltq, n2_succ]
        unfold stF
        by_cases q1 : al (stC (σ 66) p (n2 b)) N 0 = true
        · rw [if_pos q1, if_pos q1]
          by_cases q2 : a.2 < pop (crewV (σ 66) N (n2 b))
          · rw [if_pos q2, if_pos q2]
            rfl
          · rw [if_neg q2, if_neg q2]
        · rw [if_neg q1, if_neg q1]) (fun g a _ => rfl) 3 0 (none, 0) 1000 (by omega) (by omega) (by decide)
      refine (k _).trans ?_
      rw [hw]
      obtain ⟨w1, w2⟩ := w
      cases w1 with
      | none => rfl
      | some b =>
        have hb3 : b < 2147483648 := by
          have h1 := fo_inv (f := stF (σ 66) N p) (N := 3) (fun _ a => ∀ b, a.1 = some b → b < 3) (fun b a hb h => by
            unfold stF
            split
            · split
              · intro b' hb'
                cases hb'
                exact hb
              · exact h
            · exact h) 3 0 (none, 0) (by omega) (fun b hb => by cases hb)
          rw [hw] at h1
          have := h1 b rfl
          omega
        show (if n2 b < 0 then _ else _) = _
        rw [ilt0 hb3]
        unfold p_X12_stranger_B161
        split <;> rfl
  · refine st_read hI (r := (-3 : Int32)) ?_ ?_
    · unfold p_X11_stranger
      simp (disch := omega) only [x_has hL.1, bndE, b2z, ha, if_true, x_isPart, hy, n2_nat, iin, ltE, e31, if_neg hb]
    · unfold p_X12_stranger
      simp (disch := omega) only [m_isMan h.1 h8, bndE, b2z, ha, if_true, m_isIn, hy, m_of2, n2_nat, iin, ltE, e66, if_neg hb]
