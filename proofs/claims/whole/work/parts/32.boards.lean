theorem OkR.boat {R : Nat → Int32} {N p : Nat} {v : Int32} (h : OkR R N) (hp : p < N) (hv : v = 0 ∨ v = 1 ∨ v = 2 ∨ v = 9) (hl : lo R p = 0 ∨ v = 9) : OkR (upd R (4 + 4 * p + 2) v) N := by
  obtain ⟨a1, a2, a3, a4, a5, a6, a7⟩ := h
  refine ⟨by rw [upd_ne (by omega)]; exact a1, a2, fun q hq => ?_, fun q hq => ?_, by rw [upd_ne (by omega)]; exact a5, by rw [upd_ne (by omega)]; exact a6, by rw [upd_ne (by omega)]; exact a7⟩
  · obtain ⟨b1, b2', b3, b4⟩ := a3 q hq
    refine ⟨?_, ?_, ?_, ?_⟩
    · unfold kd at b1 ⊢
      rw [upd_ne (by omega)]
      exact b1
    · unfold fg at b2' ⊢
      rw [upd_ne (by omega)]
      exact b2'
    · unfold bt at b3 ⊢
      by_cases e : q = p
      · subst e
        rw [upd_at]
        exact hv
      · rw [upd_ne (by omega)]
        exact b3
    · unfold lo bt at b4 ⊢
      unfold lo at hl
      rw [upd_ne (show 4 + 4 * q + 3 ≠ 4 + 4 * p + 2 by omega)]
      by_cases e : q = p
      · subst e
        rw [upd_at]
        rcases hl with hl | hl
        · exact Or.inl hl
        · rcases b4 with b4 | b4
          · exact Or.inl b4
          · exact Or.inr ⟨b4.1, hl⟩
      · rw [upd_ne (by omega)]
        exact b4
  · rw [upd_ne (by omega)]
    exact a4 q hq
theorem CL3.boat {σ : Mem} {c N p : Nat} {v : Int32} {R : Nat → Int32} (hc : isC c) (h : CL3 σ c N R) (hp : p < N) (hv : v = 0 ∨ v = 1 ∨ v = 2 ∨ v = 9) (hl : lo R p = 0 ∨ v = 9) : CL3 (mu σ (30 + c) p v) c N (upd R (4 + 4 * p + 2) v) := by
  obtain ⟨hc1, hc3⟩ := hc
  have hR := h.2.1.boat hp hv hl
  obtain ⟨⟨a1, a2, a3, a4, a5, a6, a7, a8⟩, -, hlo⟩ := h
  have o1 : mu σ (30 + c) p v c = σ c := mu_off (by omega)
  have o2 : mu σ (30 + c) p v (24 + c) = σ (24 + c) := mu_off (by omega)
  have o3 : mu σ (30 + c) p v (27 + c) = σ (27 + c) := mu_off (by omega)
  have o4 : mu σ (30 + c) p v (33 + c) = σ (33 + c) := mu_off (by omega)
  refine ⟨⟨hR.1, a2, by rw [o1]; exact a3, fun q hq => ?_, fun q hq => ?_, ?_, ?_, ?_⟩, hR, ?_⟩
  · unfold kd fg bt
    rw [o2, o3, mu_row, upd_ne (by omega), upd_ne (by omega)]
    obtain ⟨b1, b2', b3⟩ := a4 q hq
    refine ⟨b1, b2', ?_⟩
    by_cases e : q = p
    · subst e
      rw [upd_at, upd_at]
    · rw [upd_ne e, upd_ne (by omega)]
      exact b3
  · rw [o4, upd_ne (by omega)]
    exact a5 q hq
  · rw [o1, upd_ne (by omega)]
    exact a6
  · rw [o1, upd_ne (by omega)]
    exact a7
  · rw [o1, upd_ne (by omega)]
    exact a8
  · rw [o1, hlo, lost_congr (fun q hq => ?_)]
    unfold lo
    rw [upd_ne (by omega)]
theorem boat_in {x : Int32} (h : inV x 0 2 = true) : x = 0 ∨ x = 1 ∨ x = 2 ∨ x = 9 := by
  rw [show inV x 0 2 = manV 3 x from man_in (N := 3) (by decide) x] at h
  obtain ⟨p, hp, rfl⟩ := man_n2 (by decide) h
  match p, hp with
  | 0, _ => exact Or.inl rfl
  | 1, _ => exact Or.inr (Or.inl rfl)
  | 2, _ => exact Or.inr (Or.inr (Or.inl rfl))
theorem inv_boat {σ : Mem} {N p : Nat} {v : Int32} (hI : Inv σ) (hL3 : CL3 σ 1 N (σ 66)) (hs : seas (σ 66)) (hp : p < N) (hv : v = 0 ∨ v = 1 ∨ v = 2 ∨ v = 9) (hl : lo (σ 66) p = 0 ∨ v = 9) : Inv (mu (mu σ 31 p v) 66 (4 + 4 * p + 2) v) := by
  have o66 : mu σ 31 p v 66 = σ 66 := mu_off (by decide)
  refine inv_now hI ⟨N, ?_, ?_⟩ ?_ ?_ (fun o ho => ?_)
  · rw [mu_row, o66]
    exact CL3.same (CL3.boat (c := 1) ⟨by decide, by decide⟩ hL3 hp hv hl) (mu_off (by decide)) (mu_off (by decide)) (mu_off (by decide)) (mu_off (by decide)) (mu_off (by decide))
  · rw [mu_row, o66]
    obtain ⟨s, h1, h2⟩ := hs
    exact ⟨s, h1, by rw [upd_ne (by omega)]; exact h2⟩
  · rw [mu_off (by decide), mu_off (by decide)]
  · rw [mu_off (by decide), mu_off (by decide)]
  · rw [mu_off (by omega), mu_off (by omega)]
theorem st_boards : St2 Inv p_X11_boards p_X12_boards := by
  intro a v σ hI
  obtain ⟨⟨N, hL3, hs⟩, -⟩ := id hI
  obtain ⟨hC, hR, hl⟩ := id hL3
  have h8 : N ≤ 8 := hR.2.1
  cases ht : manV N a
  · refine st_read hI (r := (-1 : Int32)) ?_ ?_
    · unfold p_X11_boards p_X3_moves
      simp only [x_has hC, bnd_some, b2z, ht]
      rfl
    · unfold p_X12_boards
      simp only [m_isMan hR.1 h8, bnd_some, b2z, ht]
      rfl
  · obtain ⟨p, hp, rfl⟩ := man_n2 h8 ht
    have B : (v = 0 ∨ v = 1 ∨ v = 2 ∨ v = 9) → ∃ r s1 s2, (bnd (p_X3_moves_B23 1 (n2 p) v σ) fun v1 s2 => some (v1, s2)) = some (r, s1) ∧ p_X12_boards_B23 (n2 p) v s1 = some (r, s2) ∧ (s1 66 = σ 66) ∧ Inv s2 := by
      intro hv
      have hlo := (hR.2.2.1 p hp).2.2.2
      have e30 : σ 31 p = bt (σ 66) p := (hC.2.2.2.1 p hp).2.2
      rcases hlo with h0 | ⟨h1, -⟩
      · refine ⟨bt (σ 66) p, mu σ 31 p v, mu (mu σ 31 p v) 66 (4 + 4 * p + 2) v, ?_, ?_, mu_off (by decide), inv_boat hI hL3 hs hp hv (Or.inl h0)⟩
        · unfold p_X3_moves_B23
          have hd : decide (lo (σ 66) p = 1) = false := by rw [h0]; rfl
          simp (disch := omega) only [x_isLost hL3 hp, bnd_some, b2z, hd, n2_nat, iin, lt, wr]
          show some (σ 31 p, mu σ 31 p v) = _
          rw [e30]
        · have o66 : mu σ 31 p v 66 = σ 66 := mu_off (by decide)
          unfold p_X12_boards_B23
          have h0' : σ 66 (4 + 4 * p + 3) = 0 := h0
          simp (disch := omega) only [m_of3, m_of2, bnd_some, n2_nat, iin, lt, wr, o66, h0']
          rfl
      · refine ⟨-3, σ, σ, ?_, ?_, rfl, hI⟩
        · unfold p_X3_moves_B23
          have hd : decide (lo (σ 66) p = 1) = true := by rw [h1]; rfl
          simp (disch := omega) only [x_isLost hL3 hp, bnd_some, b2z, hd, if_true]
        · unfold p_X12_boards_B23
          have h1' : σ 66 (4 + 4 * p + 3) = 1 := h1
          simp (disch := omega) only [m_of3, bnd_some, n2_nat, iin, lt, h1', if_true]
    have M : ∀ s1 : Mem, s1 66 = σ 66 → p_X12_boards (n2 p) v s1 = if inV v 0 2 = true then p_X12_boards_B23 (n2 p) v s1 else (if v = 9 then p_X12_boards_B23 (n2 p) v s1 else some (-1, s1)) := by
      intro s1 e
      have hR0 : s1 66 0 = n2 N := by rw [e]; exact hR.1
      unfold p_X12_boards
      simp only [m_isMan hR0 h8, bnd_some, b2z, ht, if_true, m_isBoat]
    have X : p_X11_boards (n2 p) v σ = bnd (if inV v 0 2 = true then p_X3_moves_B23 1 (n2 p) v σ else (if v = 9 then p_X3_moves_B23 1 (n2 p) v σ else some (-1, σ))) fun v1 s2 => some (v1, s2) := by
      unfold p_X11_boards p_X3_moves
      simp only [x_has hC, bnd_some, b2z, ht, if_true, x_isBoat]
    by_cases hb : inV v 0 2 = true
    · obtain ⟨r, s1, s2, e1, e2, e3, e4⟩ := B (boat_in hb)
      exact ⟨r, s1, s2, by rw [X, if_pos hb]; exact e1, by rw [M s1 e3, if_pos hb]; exact e2, e4⟩
    · by_cases h9 : v = 9
      · obtain ⟨r, s1, s2, e1, e2, e3, e4⟩ := B (Or.inr (Or.inr (Or.inr h9)))
        exact ⟨r, s1, s2, by rw [X, if_neg hb, if_pos h9]; exact e1, by rw [M s1 e3, if_neg hb, if_pos h9]; exact e2, e4⟩
      · exact ⟨-1, σ, σ, by rw [X, if_neg hb, if_neg h9]; rfl, by rw [M σ rfl, if_neg hb, if_neg h9], hI⟩
