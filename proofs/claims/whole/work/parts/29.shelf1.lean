/-! shelves: calls that only read -/
theorem sh_cases (x : Int32) : inV x 0 7 = false ∨ ∃ d, d < 8 ∧ x = n2 d ∧ inV (n2 d) 0 7 = true := by
  cases h : inV x 0 7
  · exact Or.inl rfl
  · right
    have h2 := h
    rw [in7] at h2
    obtain ⟨d, hd, rfl⟩ := man_n2 (by decide) h2
    exact ⟨d, hd, rfl, h⟩
/-- what a call that wants a sailor on shelf x is told -/
def refS (σ : Mem) (x : Int32) : Int32 := if inV x 0 7 = true then (if σ 73 x.toNatClampNeg = 0 then -11 else if σ 73 x.toNatClampNeg = 2 then -12 else 0) else -1
theorem m_refS (x : Int32) (σ : Mem) : p_X12_wrongKept x σ = some (refS σ x, σ) := by
  unfold p_X12_wrongKept refS
  rcases sh_cases x with h | ⟨d, hd, rfl, h⟩
  · simp only [m_isShelf, bnd_some, b2z, h]
    rfl
  · simp (disch := omega) only [m_isShelf, bnd_some, b2z, h, if_true, n2_nat, iin, lt, some_ite]
theorem x_refS {σ : Mem} (hS : ∀ d, d < 8 → ShR σ d) (x : Int32) : p_X11_refusal x 1 σ = some (refS σ x, σ) := by
  unfold p_X11_refusal refS
  rcases sh_cases x with h | ⟨d, hd, rfl, h⟩
  · simp only [x_isShelf, bnd_some, b2z, h]
    rfl
  · obtain ⟨e, h1⟩ := hS d hd
    simp (disch := omega) only [x_isShelf, bnd_some, b2z, h, if_true, n2_nat, iin, lt, e]
    rcases h1 with h1 | ⟨h1, -⟩ | ⟨h1, -⟩ <;> rw [h1] <;> rfl
theorem refS_0 {σ : Mem} (hS : ∀ d, d < 8 → ShR σ d) {x : Int32} (h : refS σ x = 0) : ∃ d, d < 8 ∧ x = n2 d ∧ ∃ k f, k < 8 ∧ f < 10 ∧ σ (6 + d) 2 = n2 k ∧ σ 74 d = n2 k ∧ σ (6 + d) 3 = n2 f ∧ σ 75 d = n2 f := by
  unfold refS at h
  rcases sh_cases x with h2 | ⟨d, hd, rfl, h2⟩
  · rw [h2, if_neg (by decide)] at h
    exact absurd h (by decide)
  · obtain ⟨e, h1⟩ := hS d hd
    simp (disch := omega) only [h2, if_true, n2_nat, e] at h
    rcases h1 with h1 | ⟨-, h1⟩ | ⟨h1, -⟩
    · rw [h1] at h
      exact absurd h (by decide)
    · exact ⟨d, hd, rfl, h1⟩
    · rw [h1] at h
      exact absurd h (by decide)
theorem st_cost : St1 Inv p_X11_cost p_X12_cost := by
  intro a σ hI
  have hS := hI.2.2
  by_cases h0 : refS σ a = 0
  · obtain ⟨d, hd, rfl, k, f, hk, hf, e1, e2, e3, e4⟩ := refS_0 hS h0
    have i1 := ko_in (c := 1) ⟨by decide, by decide⟩ hk
    refine st_read hI (r := prV (n2 k) (n2 f)) ?_ ?_
    · unfold p_X11_cost
      simp (disch := omega) only [x_refS hS, bnd_some, h0, if_true, n2_nat, iin, lt, e1, e3, x_Kprice i1.1 i1.2 hk hf]
    · unfold p_X12_cost
      simp (disch := omega) only [m_refS, bnd_some, h0, if_true, n2_nat, iin, lt, e2, e4, m_cost]
  · refine st_read hI (r := refS σ a) ?_ ?_
    · unfold p_X11_cost
      simp only [x_refS hS, bnd_some, h0, if_false]
    · unfold p_X12_cost
      simp only [m_refS, bnd_some, h0, if_false]
theorem n2_z {f : Nat} (h : f < 10) : n2 f = 0 ↔ f = 0 := n2_inj (a := f) (b := 0) (by omega) (by decide)
theorem st_toss : St1 Inv p_X11_toss p_X12_toss := by
  intro a σ hI
  have hS := hI.2.2
  by_cases h0 : refS σ a = 0
  · obtain ⟨d, hd, rfl, k, f, hk, hf, e1, e2, e3, e4⟩ := refS_0 hS h0
    have i1 := ko_in (c := 1) ⟨by decide, by decide⟩ hk
    by_cases hz : f = 0
    · subst hz
      refine st_read hI (r := (-15 : Int32)) ?_ ?_
      · unfold p_X11_toss
        simp (disch := omega) only [x_refS hS, bnd_some, h0, if_true, n2_nat, iin, lt, e1, e3]
        rfl
      · unfold p_X12_toss
        simp (disch := omega) only [m_refS, bnd_some, h0, if_true, n2_nat, iin, lt, e2, e4]
        split
        · rfl
        · split
          · rfl
          · rfl
    · have hz2 : ¬ n2 f = 0 := fun h => hz ((n2_z hf).mp h)
      have T : ∀ r : Int32, p_toss_T (33 + 8 * 1 + k) (n2 f) σ = some (r, σ) → (if n2 k = 3 then some ((-15 : Int32), σ) else (if n2 k = 7 then some ((-15 : Int32), σ) else (if n2 k = 4 then some ((200 : Int32) + prV (n2 k) (n2 f), σ) else (if n2 k = 1 then some ((100 : Int32) + n2 f, σ) else some (n2 f, σ))))) = some (r, σ) → ∃ r s1 s2, p_X11_toss (n2 d) σ = some (r, s1) ∧ p_X12_toss (n2 d) s1 = some (r, s2) ∧ Inv s2 := by
        intro r h1 h2
        refine st_read hI (r := r) ?_ ?_
        · unfold p_X11_toss
          simp (disch := omega) only [x_refS hS, bnd_some, h0, if_true, n2_nat, iin, lt, e1, e3, hz2, if_false]
          exact h1
        · unfold p_X12_toss
          simp (disch := omega) only [m_refS, bnd_some, h0, if_true, n2_nat, iin, lt, e2, e4, hz2, if_false, m_cost]
          exact h2
      have hp := x_Kprice i1.1 i1.2 hk hf σ
      unfold p_toss_T at T
      rw [i1.2, hp] at T
      match k, hk with
      | 0, _ => exact T (n2 f) rfl rfl
      | 1, _ => exact T (100 + n2 f) rfl rfl
      | 2, _ => exact T (n2 f) rfl rfl
      | 3, _ => exact T (-15) rfl rfl
      | 4, _ => exact T (200 + prV (n2 4) (n2 f)) rfl rfl
      | 5, _ => exact T (n2 f) rfl rfl
      | 6, _ => exact T (n2 f) rfl rfl
      | 7, _ => exact T (-15) rfl rfl
  · refine st_read hI (r := refS σ a) ?_ ?_
    · unfold p_X11_toss
      simp only [x_refS hS, bnd_some, h0, if_false]
    · unfold p_X12_toss
      simp only [m_refS, bnd_some, h0, if_false]
