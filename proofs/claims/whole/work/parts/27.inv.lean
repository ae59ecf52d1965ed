/-! what both sides hold alike between calls -/
def seas (R : Nat → Int32) : Prop := ∃ s, s ≤ 999 ∧ R 3 = n2 s
def ShR (σ : Mem) (d : Nat) : Prop := σ 73 d = σ (6 + d) 1 ∧
  (σ (6 + d) 1 = 0 ∨
   (σ (6 + d) 1 = 1 ∧ ∃ k f, k < 8 ∧ f < 10 ∧ σ (6 + d) 2 = n2 k ∧ σ 74 d = n2 k ∧ σ (6 + d) 3 = n2 f ∧ σ 75 d = n2 f) ∨
   (σ (6 + d) 1 = 2 ∧ ∃ w n, w < 3 ∧ n ≤ 100 ∧ σ (6 + d) 4 = n2 w ∧ σ 76 d = n2 w ∧ σ (6 + d) 5 = n2 n ∧ σ 77 d = n2 n ∧ (∀ j, j < 100 → σ (14 + d) j = σ 78 (100 * d + j)) ∧
     (w = 0 → ∀ j, j < 100 → -128 ≤ (σ (14 + d) j).toInt ∧ (σ (14 + d) j).toInt ≤ 127) ∧ (w = 1 → ∀ j, j < 100 → -32768 ≤ (σ (14 + d) j).toInt ∧ (σ (14 + d) j).toInt ≤ 32767)))
def InvN (σ : Mem) : Prop := ∃ N, CL3 σ 1 N (σ 66) ∧ seas (σ 66)
def InvI (σ : Mem) : Prop := (σ 0 5 = 0 ∧ σ 65 4 = 0) ∨ (σ 0 5 = 1 ∧ σ 65 4 = 1 ∧ ∃ N, CL3 σ 2 N (σ 68) ∧ seas (σ 68))
def Inv (σ : Mem) : Prop := InvN σ ∧ InvI σ ∧ ∀ d, d < 8 → ShR σ d
theorem inv0 : Inv s0 := by
  refine ⟨⟨0, ⟨⟨rfl, by decide, rfl, fun p hp => by omega, fun q hq => ?_, rfl, rfl, rfl⟩, ⟨rfl, by decide, fun p hp => by omega, fun q hq => ⟨0, by decide, ?_⟩, ⟨2, by decide, rfl⟩, ⟨5, by decide, rfl⟩, ⟨0, by decide, rfl⟩⟩, rfl⟩, ⟨0, by decide, rfl⟩⟩, Or.inl ⟨rfl, rfl⟩, fun d hd => ⟨?_, Or.inl ?_⟩⟩
  · have h : s0 66 (36 + q) = 0 := by
      show upd (upd (fun _ => 0) 1 2) 2 5 (36 + q) = 0
      unfold upd
      rw [if_neg (by omega), if_neg (by omega)]
    rw [h]
    rfl
  · show upd (upd (fun _ => 0) 1 2) 2 5 (36 + q) = 0
    unfold upd
    rw [if_neg (by omega), if_neg (by omega)]
  · match d, hd with
    | 0, _ => rfl
    | 1, _ => rfl
    | 2, _ => rfl
    | 3, _ => rfl
    | 4, _ => rfl
    | 5, _ => rfl
    | 6, _ => rfl
    | 7, _ => rfl
  · match d, hd with
    | 0, _ => rfl
    | 1, _ => rfl
    | 2, _ => rfl
    | 3, _ => rfl
    | 4, _ => rfl
    | 5, _ => rfl
    | 6, _ => rfl
    | 7, _ => rfl
/-- a call that only reads -/
theorem st_read {α : Type} {σ : Mem} (hI : Inv σ) {p q : Mem → Option (α × Mem)} {r : α} (h1 : p σ = some (r, σ)) (h2 : q σ = some (r, σ)) : ∃ r s1 s2, p σ = some (r, s1) ∧ q s1 = some (r, s2) ∧ Inv s2 := ⟨r, σ, σ, h1, h2, hI⟩
theorem how_n2 {p q : Nat} : n2 p * 8 + n2 q = n2 (8 * p + q) := by
  show n2 p * n2 8 + n2 q = _
  rw [show n2 p * n2 8 = n2 (p * 8) from (Int32.ofNat_mul p 8).symm, n2_add, Nat.mul_comm]
theorem two_n2 {N : Nat} (h : N ≤ 8) {x y : Int32} (hx : twoV N x y = true) : ∃ p q, p < N ∧ q < N ∧ p ≠ q ∧ x = n2 p ∧ y = n2 q := by
  unfold twoV at hx
  simp only [Bool.and_eq_true, Bool.not_eq_true', decide_eq_false_iff_not] at hx
  obtain ⟨p, hp, rfl⟩ := man_n2 h hx.1
  obtain ⟨q, hq, rfl⟩ := man_n2 h hx.2.1
  exact ⟨p, q, hp, hq, fun e => hx.2.2 (by rw [e]), rfl, rfl⟩
theorem st_saved : St2 Inv p_X11_saved p_X12_saved := by
  intro a b σ hI
  obtain ⟨⟨N, ⟨hC, hR, hl⟩, hs⟩, -⟩ := id hI
  have h8 : N ≤ 8 := hR.2.1
  cases ht : twoV N a b
  · refine st_read hI (r := (-1 : Int32)) ?_ ?_
    · unfold p_X11_saved
      simp only [x_hasTwo hC, bnd_some, b2z, ht]
      rfl
    · unfold p_X12_saved
      simp only [m_areTwo hR.1 h8, bnd_some, b2z, ht]
      rfl
  · obtain ⟨p, q, hp, hq, -, rfl, rfl⟩ := two_n2 h8 ht
    refine st_read hI (r := hw (σ 66) p q) ?_ ?_
    · unfold p_X11_saved
      simp (disch := omega) only [x_hasTwo hC, bnd_some, b2z, ht, if_true, how_n2, n2_nat, iin, lt, hC.2.2.2.2.1]
      show some (σ 66 (36 + (8 * p + q)), σ) = some (σ 66 (36 + 8 * p + q), σ)
      rw [Nat.add_assoc]
    · unfold p_X12_saved
      simp (disch := omega) only [m_areTwo hR.1 h8, bnd_some, b2z, ht, if_true, m_by, n2_nat, iin, lt]
      rfl
theorem st_may : St2 Inv p_X11_may p_X12_may := by
  intro a b σ hI
  obtain ⟨⟨N, ⟨hC, hR, hl⟩, hs⟩, -⟩ := id hI
  have h8 : N ≤ 8 := hR.2.1
  cases ht : twoV N a b
  · refine st_read hI (r := (-1 : Int32)) ?_ ?_
    · unfold p_X11_may
      simp only [x_hasTwo hC, bnd_some, b2z, ht]
      rfl
    · unfold p_X12_may
      simp only [m_areTwo hR.1 h8, bnd_some, b2z, ht]
      rfl
  · obtain ⟨p, q, hp, hq, -, rfl, rfl⟩ := two_n2 h8 ht
    obtain ⟨w, hw4, ew⟩ := hR.2.2.2.2.1
    refine st_read hI (r := b2 (mayV (σ 66) p q (n2 w))) ?_ ?_
    · unfold p_X11_may
      simp only [x_hasTwo hC, bnd_some, b2z, ht, if_true, lt, hC.2.2.2.2.2.1, ew, x_agree ⟨by decide, by decide⟩ hC hR hp hq hw4]
      cases mayV (σ 66) p q (n2 w) <;> rfl
    · unfold p_X12_may
      simp only [m_areTwo hR.1 h8, bnd_some, b2z, ht, if_true, m_mayIn σ (show p < 8 by omega) (show q < 8 by omega), ew]
      cases mayV (σ 66) p q (n2 w) <;> rfl
