/-! what a statement does -/
def ob98 (R : Nat → Int32) (N x y : Nat) : Option ((Nat → Int32) × Nat) := if x < N then (if y = 9 then some (upd R (4 + 4 * x + 2) (n2 y), N) else if y < 3 then (if lo R x = 1 then none else some (upd R (4 + 4 * x + 2) (n2 y), N)) else none) else none
def ob108 (R : Nat → Int32) (N x : Nat) : Option ((Nat → Int32) × Nat) := if x < 4 then some (upd R 1 (n2 x), N) else none
def ob110 (R : Nat → Int32) (N k : Nat) : Option ((Nat → Int32) × Nat) := if 1 ≤ k ∧ k ≤ 60 then (if ssN R + k ≤ 999 then some (seR N k R, N) else none) else none
def ob112 (R : Nat → Int32) (N x y : Nat) : Option ((Nat → Int32) × Nat) := if x < 8 then (if N < 8 then some (addR R N x y 9, N + 1) else none) else none
def ob115 (R : Nat → Int32) (N x y z : Nat) : Option ((Nat → Int32) × Nat) := if (x < N ∧ y < N ∧ x ≠ y) then (if z < 4 then some (upd R (36 + (8 * x + y)) (n2 z), N) else none) else none
def obV (R : Nat → Int32) (N : Nat) (E : Nat → Int32) (a : Nat) : Option ((Nat → Int32) × Nat) :=
  if bcd (E a) = 98 then ob98 R N (dg E (a + 1)) (dg E (a + 2)) else if bcd (E a) = 108 then ob108 R N (dg E (a + 1)) else if bcd (E a) = 110 then ob110 R N (10 * dg E (a + 1) + dg E (a + 2)) else if bcd (E a) = 112 then ob112 R N (dg E (a + 1)) (dg E (a + 2)) else if bcd (E a) = 115 then ob115 R N (dg E (a + 1)) (dg E (a + 2)) (dg E (a + 3)) else some (upd R 2 (n2 (dg E (a + 1))), N)
def PoX (τ : Mem) : Option ((Nat → Int32) × Nat) → Int32 → Mem → Prop
  | some q, r, s => r = 1 ∧ FrC 3 τ s ∧ CL3 s 3 q.2 q.1
  | none, r, s => r = 0 ∧ FrC 3 τ s
def Fr66 (τ s : Mem) : Prop := ∀ o, o ≠ 66 → s o = τ o
def PoD (τ : Mem) (R : Nat → Int32) : Option ((Nat → Int32) × Nat) → Int32 → Mem → Prop
  | some q, r, s => r = 1 ∧ Fr66 τ s ∧ s 66 = q.1
  | none, r, s => r = 0 ∧ Fr66 τ s ∧ ∀ k, 100 ≤ k → s 66 k = R k
theorem man_x {N x : Nat} (h8 : N ≤ 8) (hx : x < 1000) : manV N (n2 x) = decide (x < N) := by
  unfold manV
  have e1 : ¬ (n2 x < 0) := fun e => by have := (n2_lt (a := x) (b := 0) (by omega) (by omega)).mp e; omega
  rw [decide_eq_false e1]
  by_cases h : x < N
  · rw [decide_eq_true h, decide_eq_false (fun e => by have := (n2_le (by omega) (by omega)).mp e; omega)]
    rfl
  · rw [decide_eq_false h, decide_eq_true ((n2_le (by omega) (by omega)).mpr (by omega))]
    rfl
theorem two_x {N x y : Nat} (h8 : N ≤ 8) (hx : x < 1000) (hy : y < 1000) : twoV N (n2 x) (n2 y) = decide (x < N ∧ y < N ∧ x ≠ y) := by
  unfold twoV
  rw [man_x h8 hx, man_x h8 hy]
  by_cases e : x = y
  · rw [decide_eq_true (show n2 x = n2 y by rw [e]), decide_eq_false (show ¬ (x < N ∧ y < N ∧ x ≠ y) from fun h => h.2.2 e)]
    simp
  · rw [decide_eq_false (fun h => e ((n2_inj (by omega) (by omega)).mp h))]
    by_cases h1 : x < N <;> by_cases h2 : y < N <;> simp [h1, h2, e]
theorem in7x : ∀ x < 10, inV (n2 x) 0 7 = decide (x < 8) := by decide +kernel
theorem in3x : ∀ x < 10, inV (n2 x) 0 3 = decide (x < 4) := by decide +kernel
theorem in9x : ∀ x < 10, inV (n2 x) 0 9 = true := by decide +kernel
theorem in2x : ∀ x < 10, inV (n2 x) 0 2 = decide (x < 3) := by decide +kernel
theorem in60x : ∀ k < 110, inV (n2 k) 1 60 = decide (1 ≤ k ∧ k ≤ 60) := by decide +kernel
theorem nine_x : ∀ y < 10, (n2 y = 9 ↔ y = 9) := by decide +kernel
theorem boat_x : ∀ y < 10, (y = 9 ∨ y < 3) → (n2 y = 0 ∨ n2 y = 1 ∨ n2 y = 2 ∨ n2 y = 9) := by decide +kernel
theorem bt_nn {R : Nat → Int32} {N p : Nat} (h : OkR R N) (hp : p < N) : ¬ bt R p < 0 := by
  rcases (h.2.2.1 p hp).2.2.1 with e | e | e | e <;> rw [e] <;> decide
theorem upd_bt9 {R : Nat → Int32} {N p : Nat} (h : OkR R N) (hp : p < N) (hl : lo R p = 1) : upd R (4 + 4 * p + 2) (n2 9) = R := by
  refine upd_self ?_
  rcases (h.2.2.1 p hp).2.2.2 with e | e
  · rw [hl] at e
    exact absurd e (by decide)
  · exact e.2
section XOB
variable {τ : Mem} {R : Nat → Int32} {N : Nat}
theorem x_ob98 (h : CL3 τ 3 N R) {x y : Nat} (hx : x < 10) (hy : y < 10) : Tm (bnd (p_X3_comesTo 3 (n2 x) (n2 y) τ) fun v9 s10 => rz v9 s10) (PoX τ (ob98 R N x y)) := by
  have h8 := h.le8
  have hmx := man_x (N := N) (x := x) h8 (by omega)
  have h2 := in2x y hy
  have r0 : ∀ s : Mem, rz 0 s = some (0, s) := fun s => rfl
  have r1 : ∀ s : Mem, rz 1 s = some (1, s) := fun s => rfl
  have no : ∀ v : Int32, v < 0 → p_X3_moves 3 (n2 x) (n2 y) τ = some (v, τ) → Tm (bnd (p_X3_comesTo_B27 3 (n2 x) (n2 y) 0 τ) fun v9 s10 => rz v9 s10) (PoX τ none) := fun v hv hm => by
    unfold p_X3_comesTo_B27
    rw [if_pos rfl, hm, bndE, if_pos hv, bndE, r0]
    exact Tm.ret ⟨rfl, FrC.rf 3 τ⟩
  unfold p_X3_comesTo p_X3_comesTo_B26 ob98
  by_cases hxN : x < N
  · rw [decide_eq_true hxN] at hmx
    have hbt : τ 33 x = bt R x := h.btq hxN
    rw [x_has h.1, bndE, b2z, hmx, if_pos rfl, x_isLost h hxN, bndE, b2z, if_pos hxN]
    have mv : p_X3_moves 3 (n2 x) (n2 y) τ = if y < 3 then p_X3_moves_B23 3 (n2 x) (n2 y) τ else (if y = 9 then p_X3_moves_B23 3 (n2 x) (n2 y) τ else some (-1, τ)) := by
      unfold p_X3_moves
      rw [x_has h.1, bndE, b2z, hmx, if_pos rfl, x_isBoat, bndE, b2z, h2]
      by_cases g : y < 3
      · rw [if_pos (decide_eq_true g), if_pos g]
      · rw [if_neg (fun e => g (decide_eq_true_eq.mp e)), if_neg g]
        by_cases g9 : y = 9
        · rw [if_pos ((nine_x y hy).mpr g9), if_pos g9]
        · rw [if_neg (fun e => g9 ((nine_x y hy).mp e)), if_neg g9]
    by_cases hl : lo R x = 1
    · rw [if_pos (decide_eq_true hl)]
      have b23 : p_X3_moves_B23 3 (n2 x) (n2 y) τ = some (-3, τ) := by
        unfold p_X3_moves_B23
        rw [x_isLost h hxN, bndE, b2z, if_pos (decide_eq_true hl)]
      by_cases g9 : y = 9
      · rw [if_pos ((nine_x y hy).mpr g9), if_pos g9]
        unfold p_X3_comesTo_B27 p_X3_comesTo_B41
        rw [if_neg (by decide), bndE, r1, g9]
        refine Tm.ret ⟨rfl, FrC.rf 3 τ, ?_⟩
        show CL3 τ 3 N (upd R (4 + 4 * x + 2) (n2 9))
        rw [upd_bt9 h.2.1 hxN hl]
        exact h
      · rw [if_neg (fun e => g9 ((nine_x y hy).mp e)), if_neg g9]
        by_cases g : y < 3
        · rw [if_pos g, if_pos hl]
          exact no (-3) (by decide) (by rw [mv, if_pos g, b23])
        · rw [if_neg g]
          exact no (-1) (by decide) (by rw [mv, if_neg g, if_neg g9])
    · rw [if_neg (fun e => hl (decide_eq_true_eq.mp e))]
      have hl0 : lo R x = 0 := by
        rcases (h.2.1.2.2.1 x hxN).2.2.2 with e | e
        · exact e
        · exact absurd e.1 hl
      have b23 : p_X3_moves_B23 3 (n2 x) (n2 y) τ = some (bt R x, mu τ 33 x (n2 y)) := by
        unfold p_X3_moves_B23
        rw [x_isLost h hxN, bndE, b2z, if_neg (fun e => hl (decide_eq_true_eq.mp e))]
        simp (disch := omega) only [n2_nat, iin, ltE, wrE, hbt]
      have yes : (y = 9 ∨ y < 3) → p_X3_moves 3 (n2 x) (n2 y) τ = some (bt R x, mu τ 33 x (n2 y)) → Tm (bnd (p_X3_comesTo_B27 3 (n2 x) (n2 y) 0 τ) fun v9 s10 => rz v9 s10) (PoX τ (some (upd R (4 + 4 * x + 2) (n2 y), N))) := fun hyb hm => by
        unfold p_X3_comesTo_B27 p_X3_comesTo_B41
        rw [if_pos rfl, hm, bndE, if_neg (bt_nn h.2.1 hxN), bndE, r1]
        exact Tm.ret ⟨rfl, (FrC.rf 3 τ).w (Or.inr (Or.inr (Or.inr (Or.inl rfl)))), h.boat isC3 hxN (boat_x y hy hyb) (Or.inl hl0)⟩
      by_cases g9 : y = 9
      · rw [if_pos g9]
        exact yes (Or.inl g9) (by rw [mv, if_neg (by omega), if_pos g9, b23])
      · rw [if_neg g9]
        by_cases g : y < 3
        · rw [if_pos g, if_neg hl]
          exact yes (Or.inr g) (by rw [mv, if_pos g, b23])
        · rw [if_neg g]
          exact no (-1) (by decide) (by rw [mv, if_neg g, if_neg g9])
  · rw [decide_eq_false hxN] at hmx
    rw [x_has h.1, bndE, b2z, hmx, if_neg (by decide), if_neg hxN]
    refine no (-1) (by decide) ?_
    unfold p_X3_moves
    rw [x_has h.1, bndE, b2z, hmx, if_neg (by decide)]
theorem x_ob108 (h : CL3 τ 3 N R) {x : Nat} (hx : x < 10) : Tm (bnd (p_X3_rules 3 0 (n2 x) τ) fun v13 s14 => (if v13 < 0 then some ((0 : Int32), s14) else some ((1 : Int32), s14))) (PoX τ (ob108 R N x)) := by
  have hL := lawN_eq h.2.1
  have e7 : τ 3 7 = n2 (lawN R) := h.lawq
  unfold p_X3_rules p_X3_rules_B25 ob108
  rw [if_pos rfl, x_within, bndE, b2z, in3x x hx]
  by_cases g : x < 4
  · rw [if_pos (decide_eq_true g), if_pos g, ltE, wrE, bndE, e7, ilt0 (by omega)]
    exact Tm.ret ⟨rfl, (FrC.rf 3 τ).w (Or.inl rfl), h.rule isC3 (w := 1) (Or.inl rfl) (h.2.1.law g)⟩
  · rw [if_neg (fun e => g (decide_eq_true_eq.mp e)), if_neg g, if_neg (by decide), bndE, if_pos (by decide)]
    exact Tm.ret ⟨rfl, FrC.rf 3 τ⟩
theorem x_ob119 (h : CL3 τ 3 N R) {x : Nat} (hx : x < 10) : Tm (bnd (p_X3_rules 3 1 (n2 x) τ) fun v13 s14 => (if v13 < 0 then some ((0 : Int32), s14) else some ((1 : Int32), s14))) (PoX τ (some (upd R 2 (n2 x), N))) := by
  have hL := seaN_eq h.2.1
  have e8 : τ 3 8 = n2 (seaN R) := h.seaq
  unfold p_X3_rules p_X3_rules_B25
  rw [if_neg (by decide), if_pos rfl, x_within, bndE, b2z, in9x x hx, if_pos rfl, ltE, wrE, bndE, e8, ilt0 (by omega)]
  exact Tm.ret ⟨rfl, (FrC.rf 3 τ).w (Or.inl rfl), h.rule isC3 (w := 2) (Or.inr rfl) (h.2.1.sea hx)⟩
theorem x_ob110 (h : CL3 τ 3 N R) (hs : ssN R ≤ 999) {k : Nat} (hk : k < 110) : Tm (bnd (p_X3_passes 3 (n2 k) τ) fun v17 s18 => (if v17 < 0 then some ((0 : Int32), s18) else some ((1 : Int32), s18))) (PoX τ (ob110 R N k)) := by
  have hss := ssN_eq h.2.1
  have e9 : τ 3 9 = n2 (ssN R) := h.ssq
  unfold p_X3_passes ob110
  rw [x_within, bndE, b2z, in60x k hk]
  by_cases g : 1 ≤ k ∧ k ≤ 60
  · rw [if_pos (decide_eq_true g), if_pos g, ltE, e9, n2_add, show (if n2 (ssN R + k) ≤ 999 then _ else _) = _ from ileq (b := 999) ⟨by omega, by omega⟩]
    by_cases g2 : ssN R + k ≤ 999
    · rw [if_pos g2, if_pos g2]
      obtain ⟨u, s, e, q⟩ := x_sails isC3 h hss.1 (n := k) (by omega) (by omega)
      have p1 := pop_le (lostV (seR N k R) N)
      rw [e, bndE, q.1.lostOnesq, bndE, bndE, ilt0 (by omega)]
      exact Tm.ret ⟨rfl, q.2, q.1⟩
    · rw [if_neg g2, if_neg g2, bndE, if_pos (by decide)]
      exact Tm.ret ⟨rfl, FrC.rf 3 τ⟩
  · rw [if_neg (fun e => g (decide_eq_true_eq.mp e)), if_neg g, bndE, if_pos (by decide)]
    exact Tm.ret ⟨rfl, FrC.rf 3 τ⟩
theorem x_ob112 (h : CL3 τ 3 N R) {x y : Nat} (hx : x < 10) (hy : y < 10) : Tm (bnd (p_X3_adds 3 (n2 x) (n2 y) τ) fun v21 s22 => (if v21 < 0 then some ((0 : Int32), s22) else some ((1 : Int32), s22))) (PoX τ (ob112 R N x y)) := by
  unfold ob112
  by_cases g : x < 8
  · rw [x_adds isC3 h g hy, if_pos g]
    by_cases hN : N < 8
    · rw [if_pos hN, if_pos hN, bndE, ilt0 (by omega)]
      have hA := h.add isC3 hN g hy
      exact Tm.ret ⟨rfl, hA.2, hA.1⟩
    · rw [if_neg hN, if_neg hN, bndE, if_pos (by decide)]
      exact Tm.ret ⟨rfl, FrC.rf 3 τ⟩
  · rw [if_neg g]
    unfold p_X3_adds
    rw [x_isKind, bndE, b2z, in7x x hx, if_neg (fun e => g (decide_eq_true_eq.mp e)), bndE, if_pos (by decide)]
    exact Tm.ret ⟨rfl, FrC.rf 3 τ⟩
theorem x_ob115 (h : CL3 τ 3 N R) {x y z : Nat} (hx : x < 10) (hy : y < 10) (hz : z < 10) : Tm (bnd (p_X3_notes 3 (n2 x) (n2 y) (n2 z) τ) fun v28 s29 => (if v28 < 0 then some ((0 : Int32), s29) else some ((1 : Int32), s29))) (PoX τ (ob115 R N x y z)) := by
  have h8 := h.le8
  unfold p_X3_notes ob115
  rw [x_hasTwo h.1, bndE, b2z, two_x h8 (by omega) (by omega)]
  by_cases g : x < N ∧ y < N ∧ x ≠ y
  · rw [if_pos (decide_eq_true g), if_pos g, x_within, bndE, b2z, in3x z hz]
    by_cases g2 : z < 4
    · rw [if_pos (decide_eq_true g2), if_pos g2]
      obtain ⟨v, hv, e⟩ := h.2.1.2.2.2.1 (8 * x + y) (by omega)
      have e36 : τ 36 (8 * x + y) = n2 v := (h.1.2.2.2.2.1 _ (by omega)).trans e
      simp (disch := omega) only [how_n2, n2_nat, iin, ltE, wrE, e36, bndE, ilt0]
      exact Tm.ret ⟨rfl, (FrC.rf 3 τ).w (Or.inr (Or.inr (Or.inr (Or.inr rfl)))), h.how isC3 (by omega) g2⟩
    · rw [if_neg (fun e => g2 (decide_eq_true_eq.mp e)), if_neg g2, bndE, if_pos (by decide)]
      exact Tm.ret ⟨rfl, FrC.rf 3 τ⟩
  · rw [if_neg (fun e => g (decide_eq_true_eq.mp e)), if_neg g, bndE, if_pos (by decide)]
    exact Tm.ret ⟨rfl, FrC.rf 3 τ⟩
theorem flt_none {E : Nat → Int32} {n a : Nat} (h : flt E n a = none) : a < n ∧ ndA E n a ≠ 0 ∧ (∀ k, a + 1 ≤ k → k < a + 1 + ndA E n a → isD E n k = true) ∧ a + ndA E n a + 1 < n := by
  unfold flt at h
  by_cases h0 : ndA E n a = 0
  · rw [if_pos h0] at h
    cases h
  · rw [if_neg h0] at h
    have han : a < n := by
      by_cases q : a < n
      · exact q
      · exact absurd (by unfold ndA; rw [if_neg q]) h0
    cases hf : fdg E n (ndA E n a) (a + 1) with
    | some f =>
      rw [hf] at h
      cases h
    | none =>
      rw [hf] at h
      refine ⟨han, h0, fdg_at _ _ hf, ?_⟩
      have h : flE E n (a + ndA E n a + 1) = none := h
      unfold flE at h
      by_cases q : a + ndA E n a + 1 < n ∧ bcd (E (a + ndA E n a + 1)) = 59
      · exact q.1
      · rw [if_neg q] at h
        cases h
theorem nd_is {E : Nat → Int32} {n a b : Nat} (han : a < n) (hb : bcd (E a) = b) : ndA E n a = ndB b := by
  unfold ndA
  rw [if_pos han, hb]
theorem nd_six {E : Nat → Int32} {n a : Nat} (h : ndA E n a ≠ 0) (q1 : ¬ bcd (E a) = 98) (q2 : ¬ bcd (E a) = 108) (q3 : ¬ bcd (E a) = 110) (q4 : ¬ bcd (E a) = 112) (q5 : ¬ bcd (E a) = 115) : bcd (E a) = 119 := by
  by_cases q6 : bcd (E a) = 119
  · exact q6
  · refine absurd ?_ h
    unfold ndA ndB
    by_cases han : a < n
    · rw [if_pos han, if_neg q1, if_neg q2, if_neg q3, if_neg q4, if_neg q5, if_neg q6]
    · rw [if_neg han]
theorem x_obeys {d n a : Nat} {E : Nat → Int32} (h : CL3 τ 3 N R) (hs : ssN R ≤ 999) (hT : Txt τ d n E) (hE : ∀ j, j < 100 → By (E j) (bcd (E j))) (hn : n ≤ 100) (hfl : flt E n a = none) : Tm (p_X3_obeys 3 (6 + d) (n2 a) τ) (PoX τ (obV R N E a)) := by
  obtain ⟨han, hnd, hD, -⟩ := flt_none hfl
  have e86 : 8 + (6 + d) = 14 + d := by omega
  obtain ⟨-, -, -, -, -, b1, b2', b3, b4, b5, b6, -⟩ := hE a (by omega)
  have hd1 := hD (a + 1) (by omega) (by omega)
  have hx1 := dg_le hd1
  unfold p_X3_obeys
  rw [n2_succ, x_digit hT hE hn (by omega), bndE, if_pos hd1, n2_add2, x_digit hT hE hn (by omega), bndE]
  simp (disch := omega) only [n2_nat, iin]
  rw [ltE, e86, hT.2]
  unfold obV
  by_cases q1 : bcd (E a) = 98
  · have hd2 := hD (a + 2) (by omega) (by rw [nd_is han q1]; show a + 2 < a + 1 + 2; omega)
    rw [if_pos (b1.mpr q1), if_pos q1, if_pos hd2]
    exact x_ob98 h hx1 (dg_le hd2)
  rw [if_neg (fun e => q1 (b1.mp e)), if_neg q1]
  by_cases q2 : bcd (E a) = 108
  · rw [if_pos (b2'.mpr q2), if_pos q2]
    exact x_ob108 h hx1
  rw [if_neg (fun e => q2 (b2'.mp e)), if_neg q2]
  by_cases q3 : bcd (E a) = 110
  · have hd2 := hD (a + 2) (by omega) (by rw [nd_is han q3]; show a + 2 < a + 1 + 2; omega)
    have hx2 := dg_le hd2
    rw [if_pos (b3.mpr q3), if_pos q3, if_pos hd2, n2_ten]
    exact x_ob110 h hs (by omega)
  rw [if_neg (fun e => q3 (b3.mp e)), if_neg q3]
  by_cases q4 : bcd (E a) = 112
  · have hd2 := hD (a + 2) (by omega) (by rw [nd_is han q4]; show a + 2 < a + 1 + 2; omega)
    rw [if_pos (b4.mpr q4), if_pos q4, if_pos hd2]
    exact x_ob112 h hx1 (dg_le hd2)
  rw [if_neg (fun e => q4 (b4.mp e)), if_neg q4]
  by_cases q5 : bcd (E a) = 115
  · have hd2 := hD (a + 2) (by omega) (by rw [nd_is han q5]; show a + 2 < a + 1 + 3; omega)
    have hd3 := hD (a + 3) (by omega) (by rw [nd_is han q5]; show a + 3 < a + 1 + 3; omega)
    rw [if_pos (b5.mpr q5), if_pos q5, if_pos hd2, show n2 a + 3 = n2 (a + 3) from n2_add a 3, x_digit hT hE hn (by omega), bndE, if_pos hd3]
    exact x_ob115 h hx1 (dg_le hd2) (dg_le hd3)
  rw [if_neg (fun e => q5 (b5.mp e)), if_neg q5, if_pos (b6.mpr (nd_six hnd q1 q2 q3 q4 q5))]
  exact x_ob119 h hx1
end XOB
section MOB
variable {τ : Mem} {R : Nat → Int32} {N : Nat}
theorem Fr66.of (f : Nat → Int32) : Fr66 τ (ms τ 66 f) := fun _ ho => ms_ne ho
theorem m_isDone {n a : Nat} {E : Nat → Int32} (hR : OkR R N) (e66 : τ 66 = R) (hs : ssN R ≤ 999) (hb256 : bcd (E a) < 256) (hfl : flt E n a = none) (hnum : numS E a τ) : Tm (p_X12_isDone (n2 (bcd (E a))) τ) (PoD τ R (obV R N E a)) := by
  obtain ⟨han, hnd, hD, -⟩ := flt_none hfl
  have h8 := hR.2.1
  have hd1 := hD (a + 1) (by omega) (by omega)
  have hx1 := dg_le hd1
  have e0 : τ 66 0 = n2 N := by rw [e66]; exact hR.1
  obtain ⟨n1, n2', n3, n4⟩ := hnum
  have no : Tm (some ((0 : Int32), τ)) (PoD τ R none) := Tm.ret ⟨rfl, fun _ _ => rfl, fun k _ => by rw [e66]⟩
  unfold p_X12_isDone obV
  rw [if_neg (show ¬ ((0 : Int32) < 0 ∨ 3 ≤ (0 : Int32).toNatClampNeg) by decide), ltE, if_neg (show ¬ ((1 : Int32) < 0 ∨ 3 ≤ (1 : Int32).toNatClampNeg) by decide), ltE, c0, c1]
  by_cases q1 : bcd (E a) = 98
  · obtain ⟨g0, g1⟩ := n1 (Or.inl q1)
    have hd2 := hD (a + 2) (by omega) (by rw [nd_is han q1]; show a + 2 < a + 1 + 2; omega)
    have hy := dg_le hd2
    rw [q1, if_pos (show n2 98 = 98 from rfl), if_pos (show (98 : Nat) = 98 from rfl), g0, g1]
    generalize dg E (a + 1) = x at hx1
    generalize dg E (a + 2) = y at hy
    unfold ob98 p_X12_isDone_B172
    rw [m_isMan e0 h8, bndE, b2z, man_x h8 (by omega)]
    by_cases g : x < N
    · rw [if_pos (decide_eq_true g), if_pos g]
      have hwr : Tm (bnd (p_X12_of (n2 x) 2 τ) fun v1 s2 => (if v1 < 0 ∨ 100 ≤ v1.toNatClampNeg then none else wr s2 66 v1.toNatClampNeg (n2 y) fun s4 => some ((1 : Int32), s4))) (PoD τ R (some (upd R (4 + 4 * x + 2) (n2 y), N))) := by
        simp (disch := omega) only [m_of2, bndE, n2_nat, iin, wrE]
        rw [mu_ms, e66]
        exact Tm.ret ⟨rfl, Fr66.of _, ms_at _ _ _⟩
      by_cases g9 : y = 9
      · rw [if_pos ((nine_x y hy).mpr g9), if_pos g9]
        exact hwr
      · rw [if_neg (fun e => g9 ((nine_x y hy).mp e)), if_neg g9, m_isBoat, bndE, b2z, in2x y hy]
        by_cases g3 : y < 3
        · rw [if_pos (decide_eq_true g3), if_pos g3]
          simp (disch := omega) only [m_of3, bndE, n2_nat, iin]
          rw [ltE, e66]
          by_cases hl : lo R x = 1
          · rw [if_pos (show R (4 + 4 * x + 3) = 1 from hl), if_pos hl]
            exact no
          · rw [if_neg (show ¬ R (4 + 4 * x + 3) = 1 from hl), if_neg hl]
            exact hwr
        · rw [if_neg (fun e => g3 (decide_eq_true_eq.mp e)), if_neg g3]
          exact no
    · rw [if_neg (fun e => g (decide_eq_true_eq.mp e)), if_neg g]
      exact no
  rw [if_neg (show ¬ n2 (bcd (E a)) = 98 from fun e => q1 ((n2_inj (b := 98) (by omega) (by omega)).mp e)), if_neg q1]
  by_cases q2 : bcd (E a) = 108
  · have g0 := n3 (Or.inl q2)
    rw [q2, if_pos (show n2 108 = 108 from rfl), if_pos (show (108 : Nat) = 108 from rfl), g0, if_neg (show ¬ ((1 : Int32) < 0 ∨ 100 ≤ 1) by decide)]
    generalize dg E (a + 1) = x at hx1
    unfold ob108
    rw [wrE, igt3 (by omega), mu_ms, e66]
    by_cases g : x < 4
    · rw [if_neg (by omega), if_pos g]
      exact Tm.ret ⟨rfl, Fr66.of _, ms_at _ _ _⟩
    · rw [if_pos (by omega), if_neg g]
      refine Tm.ret ⟨rfl, Fr66.of _, fun k hk => ?_⟩
      rw [ms_at, upd_ne (by omega)]
  by_cases q3 : bcd (E a) = 110
  · have hd2 := hD (a + 2) (by omega) (by rw [nd_is han q3]; show a + 2 < a + 1 + 2; omega)
    have hy := dg_le hd2
    have g0 := n4 q3
    rw [q3, if_neg (show ¬ n2 110 = 108 by decide), if_neg (show ¬ n2 110 = 112 by decide), if_neg (show ¬ n2 110 = 115 by decide), if_neg (show ¬ n2 110 = 119 by decide), if_neg (show ¬ ((110 : Nat) = 108) by decide), if_pos (show (110 : Nat) = 110 from rfl), g0, m_isIn, bndE, b2z, in60x _ (by omega)]
    generalize hk : 10 * dg E (a + 1) + dg E (a + 2) = k
    unfold ob110
    by_cases g : 1 ≤ k ∧ k ≤ 60
    · rw [if_pos (decide_eq_true g), if_pos g]
      have hss := ssN_eq hR
      simp (disch := omega) only [ii3, c3]
      rw [ltE, e66, hss.1, n2_add, show (if n2 (ssN R + k) ≤ 999 then _ else _) = _ from ileq (b := 999) ⟨by omega, by omega⟩]
      by_cases g2 : ssN R + k ≤ 999
      · rw [if_pos g2, if_pos g2]
        have hm := m_seasonsOn (r := 66) (N := N) (n := k) (s := ssN R) (σ := τ) (by rw [e66]; exact hR) (by rw [e66]; exact hss.1) (by omega) (by omega)
        rw [hm, bndE, e66]
        exact Tm.ret ⟨rfl, Fr66.of _, ms_at _ _ _⟩
      · rw [if_neg g2, if_neg g2]
        exact no
    · rw [if_neg (fun e => g (decide_eq_true_eq.mp e)), if_neg g]
      exact no
  by_cases q4 : bcd (E a) = 112
  · obtain ⟨g0, g1⟩ := n1 (Or.inr (Or.inl q4))
    have hd2 := hD (a + 2) (by omega) (by rw [nd_is han q4]; show a + 2 < a + 1 + 2; omega)
    have hy := dg_le hd2
    rw [q4, if_neg (show ¬ n2 112 = 108 by decide), if_pos (show n2 112 = 112 from rfl), if_neg (show ¬ ((112 : Nat) = 108) by decide), if_neg (show ¬ ((112 : Nat) = 110) by decide), if_pos (show (112 : Nat) = 112 from rfl), g0, g1]
    generalize dg E (a + 1) = x at hx1
    generalize dg E (a + 2) = y at hy
    unfold ob112
    rw [ile8 (by omega)]
    by_cases g : x < 8
    · rw [if_neg (by omega), if_pos g, ltE, e0]
      by_cases hN : N < 8
      · rw [if_neg (show ¬ ((0 : Int32) < 0 ∨ 100 ≤ 0) by decide), if_neg (show ¬ n2 N = 8 from fun e => by have := (n2_inj (a := N) (b := 8) (by omega) (by omega)).mp e; omega), if_pos hN, m_adds 9 e0 hN, bndE, e66]
        exact Tm.ret ⟨rfl, Fr66.of _, ms_at _ _ _⟩
      · rw [if_pos (show n2 N = 8 by rw [show N = 8 by omega]; rfl), if_neg hN]
        exact no
    · rw [if_pos (by omega), if_neg g]
      exact no
  by_cases q5 : bcd (E a) = 115
  · obtain ⟨g0, g1⟩ := n1 (Or.inr (Or.inr q5))
    have g2 := n2' q5
    have hd2 := hD (a + 2) (by omega) (by rw [nd_is han q5]; show a + 2 < a + 1 + 3; omega)
    have hd3 := hD (a + 3) (by omega) (by rw [nd_is han q5]; show a + 3 < a + 1 + 3; omega)
    have hy := dg_le hd2
    have hz := dg_le hd3
    rw [q5, if_neg (show ¬ n2 115 = 108 by decide), if_neg (show ¬ n2 115 = 112 by decide), if_pos (show n2 115 = 115 from rfl), if_neg (show ¬ ((115 : Nat) = 108) by decide), if_neg (show ¬ ((115 : Nat) = 110) by decide), if_neg (show ¬ ((115 : Nat) = 112) by decide), if_pos (show (115 : Nat) = 115 from rfl), g0, g1]
    generalize dg E (a + 1) = x at hx1
    generalize dg E (a + 2) = y at hy
    generalize dg E (a + 3) = z at hz g2
    unfold ob115
    rw [m_areTwo e0 h8, bndE, b2z, two_x h8 (by omega) (by omega)]
    by_cases g : x < N ∧ y < N ∧ x ≠ y
    · rw [if_pos (decide_eq_true g), if_pos g]
      simp (disch := omega) only [ii2, c2]
      rw [ltE, g2, show (if n2 z ≤ 3 then _ else _) = _ from ileq (b := 3) ⟨by omega, by omega⟩]
      by_cases h4 : z < 4
      · rw [if_pos (show z ≤ 3 by omega), if_pos h4, m_by, bndE]
        simp (disch := omega) only [ii2, c2, n2_nat, iin]
        rw [ltE, g2, wrE, mu_ms, e66, Nat.add_assoc]
        exact Tm.ret ⟨rfl, Fr66.of _, ms_at _ _ _⟩
      · rw [if_neg (show ¬ z ≤ 3 by omega), if_neg h4]
        exact no
    · rw [if_neg (fun e => g (decide_eq_true_eq.mp e)), if_neg g]
      exact no
  have q6 := nd_six hnd q1 q2 q3 q4 q5
  have g0 := n3 (Or.inr q6)
  rw [q6, if_neg (show ¬ n2 119 = 108 by decide), if_neg (show ¬ n2 119 = 112 by decide), if_neg (show ¬ n2 119 = 115 by decide), if_pos (show n2 119 = 119 from rfl), if_neg (show ¬ ((119 : Nat) = 108) by decide), if_neg (show ¬ ((119 : Nat) = 110) by decide), if_neg (show ¬ ((119 : Nat) = 112) by decide), if_neg (show ¬ ((119 : Nat) = 115) by decide), g0, if_neg (show ¬ ((2 : Int32) < 0 ∨ 100 ≤ (2 : Int32).toNatClampNeg) by decide), wrE, c2, mu_ms, e66]
  exact Tm.ret ⟨rfl, Fr66.of _, ms_at _ _ _⟩
end MOB
