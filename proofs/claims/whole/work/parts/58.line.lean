/-! lines: sets that grow -/
def Sb (a b : Nat) : Prop := ∀ q, a.testBit q = true → b.testBit q = true
theorem Sb.tr {a b c : Nat} (h : Sb a b) (h2 : Sb b c) : Sb a c := fun q hq => h2 q (h q hq)
theorem Sb.anti {a b : Nat} (h : Sb a b) (h2 : Sb b a) : a = b := by
  refine set_ext (fun q => ?_)
  cases h1 : a.testBit q
  · cases h3 : b.testBit q
    · rfl
    · rw [h2 q h3] at h1
      cases h1
  · rw [h q h1]
theorem Sb.and {a b : Nat} (h : Sb a b) : a &&& b = a := by
  refine set_ext (fun q => ?_)
  rw [Nat.testBit_and]
  cases h1 : a.testBit q
  · rfl
  · rw [h q h1]
    rfl
theorem pop_lt {a b : Nat} (ha : a < 256) (hb : b < 256) (h : Sb a b) (hne : ¬ a = b) : pop a + 1 ≤ pop b := by
  have h1 := pop_mono a ha b hb h.and
  by_cases e : pop a = pop b
  · exact absurd (pop_sub a ha b hb h.and e) hne
  · omega
section LINE
variable {N : Nat} {R : Nat → Int32}
def svS (R : Nat → Int32) (N r : Nat) : Nat := setV (svB R r) N
theorem svS_lt {r : Nat} (h8 : N ≤ 8) : svS R N r < 256 := set_lt h8
theorem svS_bit {r q : Nat} : (svS R N r).testBit q = (decide (q < N) && svB R r q) := set_bit
def lnF (R : Nat → Int32) (N X r F : Nat) : Nat := if X.testBit r = true then F ||| svS R N r else F
def lnS (R : Nat → Int32) (N X : Nat) : Nat := fo (lnF R N X) N 0 X
theorem lnF_lt {X r F : Nat} (h8 : N ≤ 8) (h : F < 256) : lnF R N X r F < 256 := by
  unfold lnF
  split
  · exact Nat.or_lt_two_pow (n := 8) h (svS_lt h8)
  · exact h
theorem lnS_lt {X : Nat} (h8 : N ≤ 8) (h : X < 256) : lnS R N X < 256 := fo_inv (f := lnF R N X) (N := N) (fun _ F => F < 256) (fun r F _ h => lnF_lt h8 h) N 0 X (by omega) h
theorem lnS_bit {X q : Nat} : (lnS R N X).testBit q = true ↔ (X.testBit q = true ∨ ∃ r, r < N ∧ X.testBit r = true ∧ q < N ∧ svB R r q = true) := by
  have h := fo_inv (f := lnF R N X) (N := N) (fun t F => ∀ q, F.testBit q = true ↔ (X.testBit q = true ∨ ∃ r, r < t ∧ X.testBit r = true ∧ q < N ∧ svB R r q = true)) (fun t F ht hI q => by
    unfold lnF
    by_cases e : X.testBit t = true
    · rw [if_pos e, Nat.testBit_or, Bool.or_eq_true, hI q, svS_bit, Bool.and_eq_true, decide_eq_true_eq]
      constructor
      · rintro ((h1 | ⟨r, h1, h2⟩) | h1)
        · exact Or.inl h1
        · exact Or.inr ⟨r, by omega, h2⟩
        · exact Or.inr ⟨t, by omega, e, h1⟩
      · rintro (h1 | ⟨r, h1, h2⟩)
        · exact Or.inl (Or.inl h1)
        · by_cases er : r = t
          · subst er
            exact Or.inr h2.2
          · exact Or.inl (Or.inr ⟨r, by omega, h2⟩)
    · rw [if_neg e, hI q]
      constructor
      · rintro (h1 | ⟨r, h1, h2⟩)
        · exact Or.inl h1
        · exact Or.inr ⟨r, by omega, h2⟩
      · rintro (h1 | ⟨r, h1, h2⟩)
        · exact Or.inl h1
        · by_cases er : r = t
          · subst er
            exact absurd h2.1 e
          · exact Or.inr ⟨r, by omega, h2⟩) N 0 X (by omega) (fun q => ⟨fun h => Or.inl h, fun h => by
    rcases h with h | ⟨r, h1, -⟩
    · exact h
    · omega⟩)
  exact h q
theorem lnS_up {X : Nat} : Sb X (lnS R N X) := fun q hq => lnS_bit.mpr (Or.inl hq)
/-- k steps on -/
def lnK (R : Nat → Int32) (N k X : Nat) : Nat := fo (fun _ X => lnS R N X) k 0 X
theorem lnK_shift (j : Nat) : ∀ k X, fo (fun _ X => lnS R N X) k j X = lnK R N k X := by
  intro k
  induction k generalizing j with
  | zero => intro X; rfl
  | succ k ih =>
    intro X
    unfold lnK
    rw [fo_succ, fo_succ, ih, ih]
theorem lnK_succ (k X : Nat) : lnK R N (k + 1) X = lnS R N (lnK R N k X) := by
  unfold lnK
  rw [fo_snoc]
theorem lnK_succ' (k X : Nat) : lnK R N (k + 1) X = lnK R N k (lnS R N X) := by
  unfold lnK
  rw [fo_succ, lnK_shift]
  rfl
theorem lnK_lt {k X : Nat} (h8 : N ≤ 8) (h : X < 256) : lnK R N k X < 256 := fo_inv (f := fun _ X => lnS R N X) (N := k) (fun _ F => F < 256) (fun r F _ h => lnS_lt h8 h) k 0 X (by omega) h
theorem lnK_grow {X : Nat} (h8 : N ≤ 8) (hX : X < 256) (h1 : 1 ≤ pop X) : ∀ k, lnK R N (k + 1) X = lnK R N k X ∨ k + 1 ≤ pop (lnK R N k X) := by
  intro k
  induction k with
  | zero => exact Or.inr h1
  | succ k ih =>
    rcases ih with ih | ih
    · left
      rw [lnK_succ (k + 1), ih, ← lnK_succ, ih]
    · by_cases e : lnK R N k X = lnK R N (k + 1) X
      · left
        rw [lnK_succ (k + 1), ← e, ← lnK_succ, ← e]
      · right
        have h2 : Sb (lnK R N k X) (lnK R N (k + 1) X) := by
          rw [lnK_succ]
          exact lnS_up
        have h3 := pop_lt (lnK_lt h8 hX) (lnK_lt h8 hX) h2 e
        omega
/-- closed: who is saved by one of it is in it -/
def Cls (R : Nat → Int32) (N X : Nat) : Prop := ∀ r q, r < N → q < N → X.testBit r = true → svB R r q = true → X.testBit q = true
theorem lnK_closed {p : Nat} (h8 : N ≤ 8) (hp : p < N) : Cls R N (lnK R N 7 (2 ^ p)) := by
  have hp1 : ∀ p < 8, 2 ^ p < 256 ∧ 1 ≤ pop (2 ^ p) := by decide
  obtain ⟨h0, h1⟩ := hp1 p (by omega)
  intro r q hr hq h2 h3
  have hin : (lnK R N 8 (2 ^ p)).testBit q = true := by
    rw [lnK_succ 7]
    exact lnS_bit.mpr (Or.inr ⟨r, hr, h2, hq, h3⟩)
  rcases lnK_grow h8 h0 h1 7 with e | e
  · rw [← e]
    exact hin
  · have e7 := pop_full _ (lnK_lt h8 h0) e
    rw [e7, show (255 : Nat) = 2 ^ 8 - 1 from rfl, Nat.testBit_two_pow_sub_one]
    exact decide_eq_true (by omega)
theorem one_bit {p q : Nat} : (2 ^ p).testBit q = true ↔ q = p := by
  rw [Nat.testBit_two_pow, decide_eq_true_eq]
  exact ⟨fun h => h.symm, fun h => h.symm⟩
/-- the first link stands: the same but for him -/
theorem lnK_first {p : Nat} (hp : p < N) : ∀ k q, (lnK R N (k + 1) (2 ^ p)).testBit q = true ↔ (q = p ∨ (lnK R N k (svS R N p)).testBit q = true) := by
  have hup : ∀ k, Sb (svS R N p) (lnK R N k (svS R N p)) := by
    intro k
    induction k with
    | zero => exact fun q h => h
    | succ k ih =>
      rw [lnK_succ]
      exact ih.tr lnS_up
  intro k
  induction k with
  | zero =>
    intro q
    show (lnS R N (2 ^ p)).testBit q = true ↔ (q = p ∨ (svS R N p).testBit q = true)
    rw [lnS_bit, one_bit, svS_bit, Bool.and_eq_true, decide_eq_true_eq]
    constructor
    · rintro (h | ⟨r, h1, h2, h3⟩)
      · exact Or.inl h
      · rw [one_bit] at h2
        subst h2
        exact Or.inr h3
    · rintro (h | h)
      · exact Or.inl h
      · exact Or.inr ⟨p, hp, one_bit.mpr rfl, h⟩
  | succ k ih =>
    intro q
    rw [lnK_succ (k + 1) (2 ^ p), lnK_succ k (svS R N p), lnS_bit, lnS_bit, ih q]
    constructor
    · rintro ((h | h) | ⟨r, h1, h2, h3⟩)
      · exact Or.inl h
      · exact Or.inr (Or.inl h)
      · rcases (ih r).mp h2 with e | h2
        · subst e
          exact Or.inr (Or.inl (hup k q (by rw [svS_bit, decide_eq_true h3.1, h3.2]; rfl)))
        · exact Or.inr (Or.inr ⟨r, h1, h2, h3⟩)
    · rintro (h | h | ⟨r, h1, h2, h3⟩)
      · exact Or.inl (Or.inl h)
      · exact Or.inl (Or.inr h)
      · exact Or.inr ⟨r, h1, (ih r).mpr (Or.inr h2), h3⟩
/-! the model's way -/
def lmF (R : Nat → Int32) (a b X : Nat) : Nat := if (X.testBit a && svB R a b) = true then X ||| 2 ^ b else X
def lmB (R : Nat → Int32) (N a X : Nat) : Nat := fo (lmF R a) N 0 X
def lmR (R : Nat → Int32) (N X : Nat) : Nat := fo (lmB R N) N 0 X
theorem lmF_lt {a b X : Nat} (hb : b < 8) (h : X < 256) : lmF R a b X < 256 := by
  unfold lmF
  split
  · exact Nat.or_lt_two_pow (n := 8) h (Nat.pow_lt_pow_right (by omega) hb)
  · exact h
theorem lmB_lt {a X : Nat} (h8 : N ≤ 8) (h : X < 256) : lmB R N a X < 256 := fo_inv (f := lmF R a) (N := N) (fun _ F => F < 256) (fun b F hb h => lmF_lt (by omega) h) N 0 X (by omega) h
theorem lmR_lt {X : Nat} (h8 : N ≤ 8) (h : X < 256) : lmR R N X < 256 := fo_inv (f := lmB R N) (N := N) (fun _ F => F < 256) (fun b F hb h => lmB_lt h8 h) N 0 X (by omega) h
theorem lmF_up {a b X : Nat} : Sb X (lmF R a b X) := by
  intro q hq
  unfold lmF
  split
  · rw [Nat.testBit_or, hq]
    rfl
  · exact hq
theorem lmB_up {a X : Nat} : Sb X (lmB R N a X) := fo_inv (f := lmF R a) (N := N) (fun _ F => Sb X F) (fun b F _ h => h.tr lmF_up) N 0 X (by omega) (fun q h => h)
theorem lmR_up {X : Nat} : Sb X (lmR R N X) := fo_inv (f := lmB R N) (N := N) (fun _ F => Sb X F) (fun b F _ h => h.tr lmB_up) N 0 X (by omega) (fun q h => h)
theorem lmB_in {a X q : Nat} (hq : q < N) (ha : X.testBit a = true) (h : svB R a q = true) : (lmB R N a X).testBit q = true := by
  have h1 := fo_inv (f := lmF R a) (N := N) (fun t F => F.testBit a = true ∧ (q < t → F.testBit q = true)) (fun t F ht hI => ⟨lmF_up _ hI.1, fun hq2 => by
    by_cases e : q = t
    · subst e
      unfold lmF
      rw [hI.1, h, if_pos (show (true && true) = true from rfl), Nat.testBit_or, one_bit.mpr rfl, Bool.or_true]
    · exact lmF_up _ (hI.2 (by omega))⟩) N 0 X (by omega) ⟨ha, fun hq => by omega⟩
  exact h1.2 hq
theorem lmR_step {X : Nat} : Sb (lnS R N X) (lmR R N X) := by
  intro q hq
  rcases lnS_bit.mp hq with h | ⟨r, hr, h1, h2, h3⟩
  · exact lmR_up q h
  · have h4 := fo_inv (f := lmB R N) (N := N) (fun t F => F.testBit r = true ∧ (r < t → F.testBit q = true)) (fun t F ht hI => ⟨lmB_up _ hI.1, fun hr2 => by
      by_cases e : r = t
      · subst e
        exact lmB_in h2 hI.1 h3
      · exact lmB_up _ (hI.2 (by omega))⟩) N 0 X (by omega) ⟨h1, fun hr => by omega⟩
    exact h4.2 hr
theorem lmF_cl {a b X Z : Nat} (hZ : Cls R N Z) (ha : a < N) (hb : b < N) (h : Sb X Z) : Sb (lmF R a b X) Z := by
  intro q hq
  unfold lmF at hq
  split at hq
  · rename_i hc
    rw [Bool.and_eq_true] at hc
    rw [Nat.testBit_or, Bool.or_eq_true, one_bit] at hq
    rcases hq with hq | rfl
    · exact h q hq
    · exact hZ a q ha hb (h a hc.1) hc.2
  · exact h q hq
theorem lmR_cl {X Z : Nat} (hZ : Cls R N Z) (h : Sb X Z) : Sb (lmR R N X) Z :=
  fo_inv (f := lmB R N) (N := N) (fun _ F => Sb F Z) (fun a F ha h => fo_inv (f := lmF R a) (N := N) (fun _ F => Sb F Z) (fun b F hb h => lmF_cl hZ ha hb h) N 0 F (by omega) h) N 0 X (by omega) h
def lmK (R : Nat → Int32) (N X : Nat) : Nat := fo (fun _ X => lmR R N X) 8 0 X
theorem lnS_mono {X Y : Nat} (h : Sb X Y) : Sb (lnS R N X) (lnS R N Y) := by
  intro q hq
  rcases lnS_bit.mp hq with h1 | ⟨r, hr, h1, h2⟩
  · exact lnS_bit.mpr (Or.inl (h q h1))
  · exact lnS_bit.mpr (Or.inr ⟨r, hr, h r h1, h2⟩)
theorem line_eq {p : Nat} (h8 : N ≤ 8) (hp : p < N) : lmK R N (2 ^ p) = lnK R N 7 (2 ^ p) := by
  have hcl := lnK_closed (R := R) h8 hp
  have hup : ∀ k, Sb (2 ^ p) (lnK R N k (2 ^ p)) := by
    intro k
    induction k with
    | zero => exact fun q h => h
    | succ k ih =>
      rw [lnK_succ]
      exact ih.tr lnS_up
  refine Sb.anti ?_ ?_
  · exact fo_inv (f := fun _ X => lmR R N X) (N := 8) (fun _ F => Sb F (lnK R N 7 (2 ^ p))) (fun _ F _ h => lmR_cl hcl h) 8 0 (2 ^ p) (by omega) (hup 7)
  · have h := fo_inv (f := fun _ X => lmR R N X) (N := 8) (fun k F => Sb (lnK R N k (2 ^ p)) F) (fun k F _ h => by
      rw [lnK_succ]
      exact (lnS_mono h).tr lmR_step) 8 0 (2 ^ p) (by omega) (fun q h => h)
    have e : Sb (lnK R N 7 (2 ^ p)) (lnK R N 8 (2 ^ p)) := by
      rw [lnK_succ 7]
      exact lnS_up
    exact e.tr h
end LINE
section LINE2
variable {N : Nat} {σ : Mem}
theorem x_lineIn (hL : CL3 σ 1 N (σ 66)) {X : Nat} (hX : X < 256) (x1 x2 x4 : Int32) (k : Int32 → Int32 → Mem → Option (Int32 × Mem)) : p_X11_line_L39 k x1 x2 1000 (n2 X) x4 (n2 X) 0 σ = k x4 (n2 (lnS (σ 66) N X)) σ := by
  have h8 := hL.le8
  have e5 : σ 1 5 = n2 N := hL.sizeq
  refine lp (L := fun g r F => p_X11_line_L39 k x1 x2 g (n2 X) x4 (n2 F) (n2 r) σ) (f := lnF (σ 66) N X) (fin := fun F => k x4 (n2 F) σ) (N := N) (fun _ _ => True) (fun _ _ _ _ => trivial) (fun g r F hr _ => ?_) (fun g F _ => ?_) N 0 X 1000 (by omega) (by omega) trivial
  · show p_X11_line_B39 (p_X11_line_L39 k x1 x2 g) k x1 x2 (n2 X) x4 (n2 F) (n2 r) σ = _
    have hs : p_X3_savedBy 1 (n2 r) σ = some (n2 (svS (σ 66) N r), σ) := x_savedBy hL hr
    unfold p_X11_line_B39 p_X11_line_B75 lnF
    simp (disch := omega) only [ltE, e5, ile_f, x_holds σ hX (show r < 8 by omega), bndE, b2z, hs, n2_succ, n2_or, or_0]
    cases X.testBit r <;> rfl
  · show p_X11_line_B39 (p_X11_line_L39 k x1 x2 g) k x1 x2 (n2 X) x4 (n2 F) (n2 N) σ = _
    unfold p_X11_line_B39
    simp (disch := omega) only [ltE, e5, ile_t]
theorem m_lineB (h : OkR (σ 66) N) {X a : Nat} (ha : a < N) (hX : X < 256) (x1 x2 x4 : Int32) (k : Int32 → Int32 → Int32 → Mem → Option (Int32 × Mem)) : p_X12_line_L42 k x1 x2 1000 (n2 X) x4 (n2 a) 0 σ = k (n2 (lmB (σ 66) N a X)) x4 (n2 a) σ := by
  have h8 := h.2.1
  have hw := (lawN_eq h).1
  refine lp (L := fun g b F => p_X12_line_L42 k x1 x2 g (n2 F) x4 (n2 a) (n2 b) σ) (f := lmF (σ 66) a) (fin := fun F => k (n2 F) x4 (n2 a) σ) (N := N) (fun _ F => F < 256) (fun b F hb hF => lmF_lt (by omega) hF) (fun g b F hb hF => ?_) (fun g F _ => ?_) N 0 X 1000 (by omega) (by omega) hX
  · show p_X12_line_B42 (p_X12_line_L42 k x1 x2 g) k x1 x2 (n2 F) x4 (n2 a) (n2 b) σ = _
    unfold p_X12_line_B42 p_X12_line_B90 p_X12_line_B91 lmF
    simp (disch := omega) only [ii0, c0, ltE, h.1, ile_f, m_has σ hF (show a < 8 by omega), bndE, b2z, ii1, c1, hw, m_sv h ha hb, n2_succ, or_0, n2_bitor (show b < 8 by omega)]
    cases F.testBit a <;> cases svB (σ 66) a b <;> rfl
  · show p_X12_line_B42 (p_X12_line_L42 k x1 x2 g) k x1 x2 (n2 F) x4 (n2 a) (n2 N) σ = _
    unfold p_X12_line_B42
    simp (disch := omega) only [ii0, c0, ltE, h.1, ile_t]
theorem m_lineR (h : OkR (σ 66) N) {X : Nat} (hX : X < 256) (x1 x2 x4 : Int32) (k : Int32 → Int32 → Mem → Option (Int32 × Mem)) : p_X12_line_L28 k x1 x2 1000 (n2 X) x4 0 σ = k (n2 (lmR (σ 66) N X)) x4 σ := by
  have h8 := h.2.1
  refine lp (L := fun g a F => p_X12_line_L28 k x1 x2 g (n2 F) x4 (n2 a) σ) (f := lmB (σ 66) N) (fin := fun F => k (n2 F) x4 σ) (N := N) (fun _ F => F < 256) (fun b F hb hF => lmB_lt h8 hF) (fun g a F ha hF => ?_) (fun g F _ => ?_) N 0 X 1000 (by omega) (by omega) hX
  · show p_X12_line_B28 (p_X12_line_L28 k x1 x2 g) k x1 x2 (n2 F) x4 (n2 a) σ = _
    unfold p_X12_line_B28
    simp (disch := omega) only [ii0, c0, ltE, h.1, ile_f, m_lineB h ha hF, n2_succ]
  · show p_X12_line_B28 (p_X12_line_L28 k x1 x2 g) k x1 x2 (n2 F) x4 (n2 N) σ = _
    unfold p_X12_line_B28
    simp (disch := omega) only [ii0, c0, ltE, h.1, ile_t]
end LINE2
theorem st_line : St2 Inv p_X11_line p_X12_line := by
  intro a b σ hI
  obtain ⟨N, t, hL, -, -, -, -⟩ := getI hI
  have h8 := hL.le8
  have h := hL.2.1
  cases ht : twoV N a b
  · refine st_read hI (r := (-1 : Int32)) ?_ ?_
    · unfold p_X11_line
      simp only [x_hasTwo hL.1, bndE, b2z, ht]
      rfl
    · unfold p_X12_line
      simp only [m_areTwo h.1 h8, bndE, b2z, ht]
      rfl
  obtain ⟨p, q, hp, hq, hne, rfl, rfl⟩ := two_n2 h8 ht
  have hp2 : 2 ^ p < 2 ^ 8 := Nat.pow_lt_pow_right (by omega) (by omega)
  have hT := lnK_lt (R := σ 66) (k := 7) h8 hp2
  have hC := lnK_lt (R := σ 66) (k := 6) h8 (svS_lt (R := σ 66) (r := p) h8)
  have hbit : (lnK (σ 66) N 6 (svS (σ 66) N p)).testBit q = (lnK (σ 66) N 7 (2 ^ p)).testBit q := by
    rw [Bool.eq_iff_iff, lnK_first hp 6 q]
    exact ⟨fun h => Or.inr h, fun h => by
      rcases h with h | h
      · exact absurd h.symm hne
      · exact h⟩
  refine st_read hI (r := b2 ((lnK (σ 66) N 7 (2 ^ p)).testBit q)) ?_ ?_
  · have hs : p_X3_savedBy 1 (n2 p) σ = some (n2 (svS (σ 66) N p), σ) := x_savedBy hL hp
    unfold p_X11_line
    simp only [x_hasTwo hL.1, bndE, b2z, ht, if_true, hs]
    have k := fun (kk : Int32 → Mem → Option (Int32 × Mem)) => lp (L := fun g l X => p_X11_line_L26 kk (n2 p) (n2 q) g (n2 X) (n2 l) σ) (f := fun _ X => lnS (σ 66) N X) (fin := fun X => kk (n2 X) σ) (N := 8) (fun _ X => X < 256) (fun _ X _ h => lnS_lt h8 h) (fun g l X hl hX => by
      show p_X11_line_B26 (p_X11_line_L26 kk (n2 p) (n2 q) g) kk (n2 p) (n2 q) (n2 X) (n2 l) σ = _
      unfold p_X11_line_B26
      rw [ile8 (by omega), if_neg (by omega), x_lineIn hL hX, n2_succ]) (fun g X _ => by
      show p_X11_line_B26 (p_X11_line_L26 kk (n2 p) (n2 q) g) kk (n2 p) (n2 q) (n2 X) (n2 8) σ = _
      unfold p_X11_line_B26
      rw [ile8 (by omega), if_pos (by omega)]) 6 2 (svS (σ 66) N p) 1000 (by omega) (by omega) (svS_lt h8)
    refine (k _).trans ?_
    rw [lnK_shift, x_holds σ hC (show q < 8 by omega), bndE, b2z, hbit]
    cases (lnK (σ 66) N 7 (2 ^ p)).testBit q <;> rfl
  · unfold p_X12_line
    simp only [m_areTwo h.1 h8, bndE, b2z, ht, if_true]
    rw [n2_shl p (by omega)]
    have k := fun (kk : Int32 → Mem → Option (Int32 × Mem)) => lp (L := fun g l X => p_X12_line_L18 kk (n2 p) (n2 q) g (n2 X) (n2 l) σ) (f := fun _ X => lmR (σ 66) N X) (fin := fun X => kk (n2 X) σ) (N := 8) (fun _ X => X < 256) (fun _ X _ h => lmR_lt h8 h) (fun g l X hl hX => by
      show p_X12_line_B18 (p_X12_line_L18 kk (n2 p) (n2 q) g) kk (n2 p) (n2 q) (n2 X) (n2 l) σ = _
      unfold p_X12_line_B18
      rw [ile8 (by omega), if_neg (by omega), m_lineR h hX, n2_succ]) (fun g X _ => by
      show p_X12_line_B18 (p_X12_line_L18 kk (n2 p) (n2 q) g) kk (n2 p) (n2 q) (n2 X) (n2 8) σ = _
      unfold p_X12_line_B18
      rw [ile8 (by omega), if_pos (by omega)]) 8 0 (2 ^ p) 1000 (by omega) (by omega) hp2
    refine (k _).trans ?_
    rw [show fo (fun _ X => lmR (σ 66) N X) 8 0 (2 ^ p) = lmK (σ 66) N (2 ^ p) from rfl, line_eq h8 hp, m_has σ hT (show q < 8 by omega), bndE, b2z]
    cases (lnK (σ 66) N 7 (2 ^ p)).testBit q <;> rfl
