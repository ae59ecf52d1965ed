/-! calls that write -/
theorem set_congr {b b' : Nat → Bool} {N : Nat} (h : ∀ q, q < N → b q = b' q) : setV b N = setV b' N := by
  refine set_ext (fun q => ?_)
  rw [set_bit, set_bit]
  by_cases hq : q < N
  · rw [h q hq]
  · rw [decide_eq_false hq]
    rfl
theorem lost_congr {R R' : Nat → Int32} {N : Nat} (h : ∀ p, p < N → lo R' p = lo R p) : lostV R' N = lostV R N := set_congr (fun q hq => by rw [h q hq])
theorem CL3.same {σ σ' : Mem} {c N : Nat} {R : Nat → Int32} (h : CL3 σ c N R) (e0 : σ' c = σ c) (e1 : σ' (24 + c) = σ (24 + c)) (e2 : σ' (27 + c) = σ (27 + c)) (e3 : σ' (30 + c) = σ (30 + c)) (e4 : σ' (33 + c) = σ (33 + c)) : CL3 σ' c N R := by
  obtain ⟨⟨a1, a2, a3, a4, a5, a6, a7, a8⟩, hR, hl⟩ := h
  exact ⟨⟨a1, a2, by rw [e0]; exact a3, fun p hp => by rw [e1, e2, e3]; exact a4 p hp, fun q hq => by rw [e4]; exact a5 q hq, by rw [e0]; exact a6, by rw [e0]; exact a7, by rw [e0]; exact a8⟩, hR, by rw [e0]; exact hl⟩
/-- only what stands now has changed -/
theorem inv_now {σ σ' : Mem} (hI : Inv σ) (hN : InvN σ') (h0 : σ' 0 5 = σ 0 5) (h65 : σ' 65 4 = σ 65 4) (hq : ∀ o, (o = 2 ∨ o = 26 ∨ o = 29 ∨ o = 32 ∨ o = 35 ∨ o = 68 ∨ (6 ≤ o ∧ o < 22) ∨ (73 ≤ o ∧ o ≤ 78)) → σ' o = σ o) : Inv σ' := by
  obtain ⟨-, hi, hS⟩ := hI
  refine ⟨hN, ?_, fun d hd => ?_⟩
  · rcases hi with ⟨a, b⟩ | ⟨a, b, N, hL, hs⟩
    · exact Or.inl ⟨by rw [h0]; exact a, by rw [h65]; exact b⟩
    · have e68 := hq 68 (by omega)
      exact Or.inr ⟨by rw [h0]; exact a, by rw [h65]; exact b, N, by rw [e68]; exact hL.same (hq 2 (by omega)) (hq 26 (by omega)) (hq 29 (by omega)) (hq 32 (by omega)) (hq 35 (by omega)), by rw [e68]; exact hs⟩
  · have h := hS d hd
    unfold ShR at h ⊢
    rw [hq (6 + d) (by omega), hq (14 + d) (by omega), hq 73 (by omega), hq 74 (by omega), hq 75 (by omega), hq 76 (by omega), hq 77 (by omega), hq 78 (by omega)]
    exact h
theorem upd_at (R : Nat → Int32) (i : Nat) (v : Int32) : upd R i v i = v := by simp [upd]
theorem upd_ne {R : Nat → Int32} {i j : Nat} {v : Int32} (h : j ≠ i) : upd R i v j = R j := by simp [upd, h]
theorem OkR.how {R : Nat → Int32} {N j v : Nat} (h : OkR R N) (hj : j < 64) (hv : v < 4) : OkR (upd R (36 + j) (n2 v)) N := by
  obtain ⟨a1, a2, a3, a4, a5, a6, a7⟩ := h
  refine ⟨by rw [upd_ne (by omega)]; exact a1, a2, fun p hp => ?_, fun q hq => ?_, by rw [upd_ne (by omega)]; exact a5, by rw [upd_ne (by omega)]; exact a6, by rw [upd_ne (by omega)]; exact a7⟩
  · unfold kd fg bt lo
    rw [upd_ne (by omega), upd_ne (by omega), upd_ne (by omega), upd_ne (by omega)]
    exact a3 p hp
  · by_cases e : q = j
    · subst e
      exact ⟨v, hv, upd_at _ _ _⟩
    · rw [upd_ne (by omega)]
      exact a4 q hq
theorem CL3.how {σ : Mem} {c N j v : Nat} {R : Nat → Int32} (hc : isC c) (h : CL3 σ c N R) (hj : j < 64) (hv : v < 4) : CL3 (mu σ (33 + c) j (n2 v)) c N (upd R (36 + j) (n2 v)) := by
  obtain ⟨hc1, hc3⟩ := hc
  have hR := h.2.1.how hj hv
  obtain ⟨⟨a1, a2, a3, a4, a5, a6, a7, a8⟩, -, hl⟩ := h
  have o1 : mu σ (33 + c) j (n2 v) c = σ c := mu_off (by omega)
  have o2 : mu σ (33 + c) j (n2 v) (24 + c) = σ (24 + c) := mu_off (by omega)
  have o3 : mu σ (33 + c) j (n2 v) (27 + c) = σ (27 + c) := mu_off (by omega)
  have o4 : mu σ (33 + c) j (n2 v) (30 + c) = σ (30 + c) := mu_off (by omega)
  refine ⟨⟨hR.1, a2, by rw [o1]; exact a3, fun p hp => ?_, fun q hq => ?_, ?_, ?_, ?_⟩, hR, ?_⟩
  · unfold kd fg bt
    rw [o2, o3, o4, upd_ne (by omega), upd_ne (by omega), upd_ne (by omega)]
    exact a4 p hp
  · rw [mu_row]
    by_cases e : q = j
    · subst e
      rw [upd_at, upd_at]
    · rw [upd_ne e, upd_ne (by omega)]
      exact a5 q hq
  · rw [o1, upd_ne (by omega)]
    exact a6
  · rw [o1, upd_ne (by omega)]
    exact a7
  · rw [o1, upd_ne (by omega)]
    exact a8
  · rw [o1, hl, lost_congr (fun p hp => ?_)]
    unfold lo
    rw [upd_ne (by omega)]
theorem in3 {x : Int32} (h : inV x 0 3 = true) : ∃ v, v < 4 ∧ x = n2 v := by
  rw [show inV x 0 3 = manV 4 x from man_in (N := 4) (by decide) x] at h
  exact man_n2 (by decide) h
theorem st_saves : St3 Inv p_X11_saves p_X12_saves := by
  intro a b v σ hI
  obtain ⟨⟨N, hL3, hs⟩, -⟩ := id hI
  obtain ⟨hC, hR, hl⟩ := id hL3
  have h8 : N ≤ 8 := hR.2.1
  cases ht : twoV N a b
  · refine st_read hI (r := (-1 : Int32)) ?_ ?_
    · unfold p_X11_saves p_X3_notes
      simp only [x_hasTwo hC, bnd_some, b2z, ht]
      rfl
    · unfold p_X12_saves
      simp only [m_areTwo hR.1 h8, bnd_some, b2z, ht]
      rfl
  · cases hv : inV v 0 3
    · refine st_read hI (r := (-1 : Int32)) ?_ ?_
      · unfold p_X11_saves p_X3_notes
        simp only [x_hasTwo hC, bnd_some, b2z, ht, if_true, x_within, hv]
        rfl
      · unfold p_X12_saves
        simp only [m_areTwo hR.1 h8, bnd_some, b2z, ht, if_true, m_isIn, hv]
        rfl
    · obtain ⟨p, q, hp, hq, -, rfl, rfl⟩ := two_n2 h8 ht
      obtain ⟨w, hw4, rfl⟩ := in3 hv
      have hj : 8 * p + q < 64 := by omega
      have hH := CL3.how (c := 1) ⟨by decide, by decide⟩ hL3 hj hw4
      have e1 : σ 34 (8 * p + q) = σ 66 (36 + (8 * p + q)) := hC.2.2.2.2.1 _ hj
      refine ⟨σ 66 (36 + (8 * p + q)), mu σ 34 (8 * p + q) (n2 w), mu (mu σ 34 (8 * p + q) (n2 w)) 66 (36 + (8 * p + q)) (n2 w), ?_, ?_, ?_⟩
      · unfold p_X11_saves p_X3_notes
        simp (disch := omega) only [x_hasTwo hC, bnd_some, b2z, ht, if_true, x_within, hv, how_n2, n2_nat, iin, lt, wr]
        rw [← e1]
      · have o66 : mu σ 34 (8 * p + q) (n2 w) 66 = σ 66 := mu_off (by decide)
        have hR0 : mu σ 34 (8 * p + q) (n2 w) 66 0 = n2 N := by rw [o66]; exact hR.1
        unfold p_X12_saves
        simp (disch := omega) only [m_areTwo hR0 h8, bnd_some, b2z, ht, if_true, m_isIn, hv, m_by, n2_nat, iin, lt, wr, o66, Nat.add_assoc]
      · have o66 : mu σ 34 (8 * p + q) (n2 w) 66 = σ 66 := mu_off (by decide)
        refine inv_now hI ⟨N, ?_, ?_⟩ ?_ ?_ (fun o ho => ?_)
        · rw [mu_row, o66]
          exact CL3.same hH (mu_off (by decide)) (mu_off (by decide)) (mu_off (by decide)) (mu_off (by decide)) (mu_off (by decide))
        · rw [mu_row, o66]
          obtain ⟨s, h1, h2⟩ := hs
          exact ⟨s, h1, by rw [upd_ne (by omega)]; exact h2⟩
        · rw [mu_off (by decide), mu_off (by decide)]
        · rw [mu_off (by decide), mu_off (by decide)]
        · rw [mu_off (by omega), mu_off (by omega)]
