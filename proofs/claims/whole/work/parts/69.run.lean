/-! the statements of a row, one after another -/
theorem ssN_ne {R : Nat → Int32} {k : Nat} {v : Int32} (h : k ≠ 3) : ssN (upd R k v) = ssN R := by
  unfold ssN
  rw [upd_ne (fun e => h e.symm)]
def OkS (R : Nat → Int32) (N : Nat) (B : Nat → Int32) : Prop := OkR R N ∧ ssN R ≤ 999 ∧ ∀ k, 100 ≤ k → R k = B k
section OBOK
variable {R B : Nat → Int32} {N : Nat} {q : (Nat → Int32) × Nat}
theorem OkS.up {k : Nat} {v : Int32} (h : OkS R N B) (hk : k ≠ 3) (h1 : k < 100) (hO : OkR (upd R k v) N) : OkS (upd R k v) N B :=
  ⟨hO, by rw [ssN_ne hk]; exact h.2.1, fun j hj => by rw [upd_ne (by omega)]; exact h.2.2 j hj⟩
theorem ob98_ok {x y : Nat} (h : OkS R N B) (hy : y < 10) (e : ob98 R N x y = some q) : OkS q.1 q.2 B := by
  have h8 := h.1.2.1
  unfold ob98 at e
  by_cases g : x < N
  · rw [if_pos g] at e
    by_cases g9 : y = 9
    · rw [if_pos g9] at e
      cases e
      exact h.up (by omega) (by omega) (h.1.boat g (boat_x y hy (Or.inl g9)) (Or.inr (by rw [g9]; rfl)))
    · rw [if_neg g9] at e
      by_cases g3 : y < 3
      · rw [if_pos g3] at e
        by_cases hl : lo R x = 1
        · rw [if_pos hl] at e
          cases e
        · rw [if_neg hl] at e
          cases e
          have hl0 : lo R x = 0 := by
            rcases (h.1.2.2.1 x g).2.2.2 with e | e
            · exact e
            · exact absurd e.1 hl
          exact h.up (by omega) (by omega) (h.1.boat g (boat_x y hy (Or.inr g3)) (Or.inl hl0))
      · rw [if_neg g3] at e
        cases e
  · rw [if_neg g] at e
    cases e
theorem ob108_ok {x : Nat} (h : OkS R N B) (e : ob108 R N x = some q) : OkS q.1 q.2 B := by
  unfold ob108 at e
  by_cases g : x < 4
  · rw [if_pos g] at e
    cases e
    exact h.up (by omega) (by omega) (h.1.law g)
  · rw [if_neg g] at e
    cases e
theorem ob110_ok {k : Nat} (h : OkS R N B) (e : ob110 R N k = some q) : OkS q.1 q.2 B := by
  unfold ob110 at e
  by_cases g : 1 ≤ k ∧ k ≤ 60
  · rw [if_pos g] at e
    by_cases g2 : ssN R + k ≤ 999
    · rw [if_pos g2] at e
      cases e
      have hss := ssN_eq h.1
      obtain ⟨o1, o2, o3⟩ := seR_ok h.1 hss.1 (n := k) (by omega)
      exact ⟨o1, by rw [ssN_of o2 (by omega)]; exact g2, fun j hj => (o3 j hj).trans (h.2.2 j hj)⟩
    · rw [if_neg g2] at e
      cases e
  · rw [if_neg g] at e
    cases e
theorem ob112_ok {x y : Nat} (h : OkS R N B) (hy : y < 10) (e : ob112 R N x y = some q) : OkS q.1 q.2 B := by
  unfold ob112 at e
  by_cases g : x < 8
  · rw [if_pos g] at e
    by_cases hN : N < 8
    · rw [if_pos hN] at e
      cases e
      refine ⟨h.1.add hN g hy (Or.inr (Or.inr (Or.inr rfl))), ?_, fun j hj => ?_⟩
      · show (addR R N x y 9 3).toNatClampNeg ≤ 999
        rw [add_ne (by omega) (Or.inl (by omega))]
        exact h.2.1
      · show addR R N x y 9 j = B j
        rw [add_ne (by omega) (Or.inr (by omega))]
        exact h.2.2 j hj
    · rw [if_neg hN] at e
      cases e
  · rw [if_neg g] at e
    cases e
theorem ob115_ok {x y z : Nat} (h : OkS R N B) (e : ob115 R N x y z = some q) : OkS q.1 q.2 B := by
  have h8 := h.1.2.1
  unfold ob115 at e
  by_cases g : x < N ∧ y < N ∧ x ≠ y
  · rw [if_pos g] at e
    by_cases g2 : z < 4
    · rw [if_pos g2] at e
      cases e
      exact h.up (by omega) (by omega) (h.1.how (by omega) g2)
    · rw [if_neg g2] at e
      cases e
  · rw [if_neg g] at e
    cases e
theorem obV_ok {E : Nat → Int32} {n a : Nat} (h : OkS R N B) (hfl : flt E n a = none) (e : obV R N E a = some q) : OkS q.1 q.2 B := by
  obtain ⟨han, hnd, hD, -⟩ := flt_none hfl
  have hx1 := dg_le (hD (a + 1) (by omega) (by omega))
  unfold obV at e
  by_cases q1 : bcd (E a) = 98
  · rw [if_pos q1] at e
    exact ob98_ok h (dg_le (hD (a + 2) (by omega) (by rw [nd_is han q1]; show a + 2 < a + 1 + 2; omega))) e
  rw [if_neg q1] at e
  by_cases q2 : bcd (E a) = 108
  · rw [if_pos q2] at e
    exact ob108_ok h e
  rw [if_neg q2] at e
  by_cases q3 : bcd (E a) = 110
  · rw [if_pos q3] at e
    exact ob110_ok h e
  rw [if_neg q3] at e
  by_cases q4 : bcd (E a) = 112
  · rw [if_pos q4] at e
    exact ob112_ok h (dg_le (hD (a + 2) (by omega) (by rw [nd_is han q4]; show a + 2 < a + 1 + 2; omega))) e
  rw [if_neg q4] at e
  by_cases q5 : bcd (E a) = 115
  · rw [if_pos q5] at e
    exact ob115_ok h e
  rw [if_neg q5] at e
  cases e
  exact h.up (by omega) (by omega) (h.1.sea hx1)
end OBOK
def runC (E : Nat → Int32) (n : Nat) : Nat → Nat → (Nat → Int32) → Nat → Option ((Nat → Int32) × Nat) × Nat
  | 0, _, R, N => (some (R, N), 0)
  | t + 1, a, R, N => if n ≤ a then (some (R, N), 0) else match obV R N E a with
    | none => (none, a)
    | some q => runC E n t (a + ndA E n a + 2) q.1 q.2
def Fr13 (τ s : Mem) : Prop := ∀ o, ¬ capeO 1 o → ¬ capeO 3 o → s o = τ o
def PoCp (τ : Mem) (C : Nat) : Option ((Nat → Int32) × Nat) × Nat → Int32 → Mem → Prop
  | (none, a), r, s => r = -2000 - n2 a ∧ FrC 3 τ s
  | (some q, _), r, s => r = n2 C ∧ CL3 s 1 q.2 q.1 ∧ Fr13 τ s
theorem Txt.fr {σ s : Mem} {d n : Nat} {E : Nat → Int32} (hd : d < 8) (h : Txt σ d n E) (hf : FrC 3 σ s) : Txt s d n E := by
  have e1 := hf (6 + d) (by unfold capeO; omega)
  have e2 := hf (14 + d) (by unfold capeO; omega)
  exact ⟨by rw [e1]; exact h.1, by rw [e2]; exact h.2⟩
theorem prs_end {E : Nat → Int32} {n t a c C : Nat} (h : n ≤ a) (hp : prs E n t a c = (none, C)) : C = c := by
  cases t with
  | zero =>
    cases hp
    rfl
  | succ t =>
    unfold prs at hp
    rw [if_pos h] at hp
    cases hp
    rfl
theorem prs_go {E : Nat → Int32} {n t a c C : Nat} (h : ¬ n ≤ a) (hp : prs E n (t + 1) a c = (none, C)) : flt E n a = none ∧ prs E n t (a + ndA E n a + 2) (c + 1) = (none, C) := by
  unfold prs at hp
  rw [if_neg h] at hp
  cases hf : flt E n a with
  | none =>
    rw [hf] at hp
    exact ⟨rfl, hp⟩
  | some f =>
    rw [hf] at hp
    cases hp
theorem run_end {E : Nat → Int32} {n t a N : Nat} {R : Nat → Int32} (h : n ≤ a) : runC E n t a R N = (some (R, N), 0) := by
  cases t with
  | zero => rfl
  | succ t =>
    unfold runC
    rw [if_pos h]
theorem run_no {E : Nat → Int32} {n t a N : Nat} {R : Nat → Int32} (h : ¬ n ≤ a) (e : obV R N E a = none) : runC E n (t + 1) a R N = (none, a) := by
  unfold runC
  rw [if_neg h, e]
theorem run_go {E : Nat → Int32} {n t a N : Nat} {R : Nat → Int32} {q : (Nat → Int32) × Nat} (h : ¬ n ≤ a) (e : obV R N E a = some q) : runC E n (t + 1) a R N = runC E n t (a + ndA E n a + 2) q.1 q.2 := by
  rw [runC, if_neg h, e]
section XRUN
variable {σ : Mem} {d n C : Nat} {E B : Nat → Int32} {x1 : Int32}
theorem x_capeL (hd : d < 8) (hE : ∀ j, j < 100 → By (E j) (bcd (E j))) (hn : n ≤ 100) (hT : Txt σ d n E) : ∀ t a c g R N s, FrC 3 σ s → OkS R N B → CL3 s 3 N R → prs E n t a c = (none, C) → n ≤ a + 3 * t → 3 * c ≤ a → a ≤ 105 → t < g → Tm (p_X11_cape_L65 (fun (x6) (m22 : Mem) => some ((-2000 - x6), m22)) (p_X11_cape_B118 x1) x1 g (6 + d) (n2 c) (n2 a) s) (PoCp σ C (runC E n t a R N)) := by
  intro t
  induction t with
  | zero =>
    intro a c g R N s hF hO hL hp hna hc ha hg
    obtain ⟨g, rfl⟩ : ∃ k, g = k + 1 := ⟨g - 1, by omega⟩
    have hT' := hT.fr hd hF
    show Tm (p_X11_cape_B65 (p_X11_cape_L65 (fun (x6) (m22 : Mem) => some ((-2000 - x6), m22)) (p_X11_cape_B118 x1) x1 g) (fun (x6) (m22 : Mem) => some ((-2000 - x6), m22)) (p_X11_cape_B118 x1) x1 (6 + d) (n2 c) (n2 a) s) _
    unfold p_X11_cape_B65
    rw [show (if (100 : Int32) ≤ n2 c then _ else _) = _ from ile_f (a := 100) (b := c) ⟨by omega, by omega⟩, ltE, hT'.1, ile_t ⟨by omega, by omega⟩, run_end (by omega), prs_end (by omega) hp]
    unfold p_X11_cape_B118
    refine (x_becomes isC1 isC3 (by decide) hL).bd (fun _ s2 h2 => Tm.ret ⟨rfl, h2.1, fun o h1 h3 => (h2.2 o h1).trans (hF o h3)⟩)
  | succ t ih =>
    intro a c g R N s hF hO hL hp hna hc ha hg
    obtain ⟨g, rfl⟩ : ∃ k, g = k + 1 := ⟨g - 1, by omega⟩
    have hT' := hT.fr hd hF
    show Tm (p_X11_cape_B65 (p_X11_cape_L65 (fun (x6) (m22 : Mem) => some ((-2000 - x6), m22)) (p_X11_cape_B118 x1) x1 g) (fun (x6) (m22 : Mem) => some ((-2000 - x6), m22)) (p_X11_cape_B118 x1) x1 (6 + d) (n2 c) (n2 a) s) _
    unfold p_X11_cape_B65
    rw [show (if (100 : Int32) ≤ n2 c then _ else _) = _ from ile_f (a := 100) (b := c) ⟨by omega, by omega⟩, ltE, hT'.1]
    by_cases h : n ≤ a
    · rw [ile_t ⟨by omega, by omega⟩, run_end h, prs_end h hp]
      unfold p_X11_cape_B118
      refine (x_becomes isC1 isC3 (by decide) hL).bd (fun _ s2 h2 => Tm.ret ⟨rfl, h2.1, fun o h1 h3 => (h2.2 o h1).trans (hF o h3)⟩)
    · obtain ⟨hfl, hp'⟩ := prs_go h hp
      rw [ile_f ⟨by omega, by omega⟩]
      refine (x_obeys hL hO.2.1 hT' hE hn hfl).bd (fun r s6 hx => ?_)
      cases ho : obV R N E a with
      | none =>
        rw [ho] at hx
        obtain ⟨rfl, hf⟩ := hx
        rw [if_pos rfl, run_no h ho]
        exact Tm.ret ⟨rfl, hF.tr hf⟩
      | some q =>
        rw [ho] at hx
        obtain ⟨rfl, hf, hL2⟩ := hx
        have hF2 := hF.tr hf
        have hnd := ndA_le E n a
        have hnz := (flt_none hfl).2.1
        rw [if_neg (by decide), x_lenAt (hT.fr hd hF2) hE hn (by omega), bndE, n2_succ, n2_add, run_go h ho, ← Nat.add_assoc]
        exact ih (a + ndA E n a + 2) (c + 1) g q.1 q.2 s6 hF2 (obV_ok hO hfl ho) hL2 hp' (by omega) (by omega) (by omega) (by omega)
end XRUN
