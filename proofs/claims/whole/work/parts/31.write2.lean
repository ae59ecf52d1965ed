/-! sets, boards -/
theorem OkR.law {R : Nat → Int32} {N v : Nat} (h : OkR R N) (hv : v < 4) : OkR (upd R 1 (n2 v)) N := by
  obtain ⟨a1, a2, a3, a4, a5, a6, a7⟩ := h
  refine ⟨by rw [upd_ne (by omega)]; exact a1, a2, fun p hp => ?_, fun q hq => ?_, ⟨v, hv, upd_at _ _ _⟩, by rw [upd_ne (by omega)]; exact a6, by rw [upd_ne (by omega)]; exact a7⟩
  · unfold kd fg bt lo
    rw [upd_ne (by omega), upd_ne (by omega), upd_ne (by omega), upd_ne (by omega)]
    exact a3 p hp
  · rw [upd_ne (by omega)]
    exact a4 q hq
theorem OkR.sea {R : Nat → Int32} {N v : Nat} (h : OkR R N) (hv : v < 10) : OkR (upd R 2 (n2 v)) N := by
  obtain ⟨a1, a2, a3, a4, a5, a6, a7⟩ := h
  refine ⟨by rw [upd_ne (by omega)]; exact a1, a2, fun p hp => ?_, fun q hq => ?_, by rw [upd_ne (by omega)]; exact a5, ⟨v, hv, upd_at _ _ _⟩, by rw [upd_ne (by omega)]; exact a7⟩
  · unfold kd fg bt lo
    rw [upd_ne (by omega), upd_ne (by omega), upd_ne (by omega), upd_ne (by omega)]
    exact a3 p hp
  · rw [upd_ne (by omega)]
    exact a4 q hq
/-- law (w = 1, slot 7) or sea (w = 2, slot 8) -/
theorem CL3.rule {σ : Mem} {c N w : Nat} {v : Int32} {R : Nat → Int32} (hc : isC c) (h : CL3 σ c N R) (hw : w = 1 ∨ w = 2) (hR : OkR (upd R w v) N) : CL3 (mu σ c (6 + w) v) c N (upd R w v) := by
  obtain ⟨hc1, hc3⟩ := hc
  obtain ⟨⟨a1, a2, a3, a4, a5, a6, a7, a8⟩, -, hl⟩ := h
  have o1 : mu σ c (6 + w) v (24 + c) = σ (24 + c) := mu_off (by omega)
  have o2 : mu σ c (6 + w) v (27 + c) = σ (27 + c) := mu_off (by omega)
  have o3 : mu σ c (6 + w) v (30 + c) = σ (30 + c) := mu_off (by omega)
  have o4 : mu σ c (6 + w) v (33 + c) = σ (33 + c) := mu_off (by omega)
  refine ⟨⟨hR.1, a2, ?_, fun p hp => ?_, fun q hq => ?_, ?_, ?_, ?_⟩, hR, ?_⟩
  · rw [mu_row, upd_ne (by omega)]
    exact a3
  · unfold kd fg bt
    rw [o1, o2, o3, upd_ne (by omega), upd_ne (by omega), upd_ne (by omega)]
    exact a4 p hp
  · rw [o4, upd_ne (by omega)]
    exact a5 q hq
  · rw [mu_row]
    rcases hw with rfl | rfl
    · rw [upd_at, upd_at]
    · rw [upd_ne (by omega), upd_ne (by omega)]
      exact a6
  · rw [mu_row]
    rcases hw with rfl | rfl
    · rw [upd_ne (by omega), upd_ne (by omega)]
      exact a7
    · rw [upd_at, upd_at]
  · rw [mu_row, upd_ne (by omega), upd_ne (by omega)]
    exact a8
  · rw [mu_row, upd_ne (by omega), hl, lost_congr (fun p hp => ?_)]
    unfold lo
    rw [upd_ne (by omega)]
theorem in9 {x : Int32} (h : inV x 0 9 = true) : ∃ v, v < 10 ∧ x = n2 v := by
  unfold inV at h
  simp only [Bool.and_eq_true, Bool.not_eq_true', decide_eq_false_iff_not] at h
  rw [Int32.lt_iff_toInt_lt, Int32.lt_iff_toInt_lt, show (0 : Int32).toInt = 0 from rfl, show (9 : Int32).toInt = 9 from rfl] at h
  refine ⟨x.toInt.toNat, by omega, ?_⟩
  apply Int32.toInt_inj.mp
  rw [n2_int (by omega)]
  omega
theorem inv_rule {σ : Mem} {N w : Nat} {v : Int32} (hI : Inv σ) (hL3 : CL3 σ 1 N (σ 66)) (hs : seas (σ 66)) (hw : w = 1 ∨ w = 2) (hR : OkR (upd (σ 66) w v) N) : Inv (mu (mu σ 1 (6 + w) v) 66 w v) := by
  have o66 : mu σ 1 (6 + w) v 66 = σ 66 := mu_off (by decide)
  refine inv_now hI ⟨N, ?_, ?_⟩ ?_ ?_ (fun o ho => ?_)
  · rw [mu_row, o66]
    exact CL3.same (CL3.rule ⟨by decide, by decide⟩ hL3 hw hR) (mu_off (by decide)) (mu_off (by decide)) (mu_off (by decide)) (mu_off (by decide)) (mu_off (by decide))
  · rw [mu_row, o66]
    obtain ⟨s, h1, h2⟩ := hs
    exact ⟨s, h1, by rw [upd_ne (by omega)]; exact h2⟩
  · rw [mu_off (by decide), mu_off (by decide)]
  · rw [mu_off (by decide), mu_off (by decide)]
  · rw [mu_off (by omega), mu_off (by omega)]
theorem part_cases (x : Int32) : (inV x 0 1 = false ∧ ¬ x = 0 ∧ ¬ x = 1) ∨ x = 0 ∨ x = 1 := by
  by_cases h0 : x = 0
  · exact Or.inr (Or.inl h0)
  · by_cases h1 : x = 1
    · exact Or.inr (Or.inr h1)
    · refine Or.inl ⟨?_, h0, h1⟩
      cases h : inV x 0 1
      · rfl
      · rw [show inV x 0 1 = manV 2 x from man_in (N := 2) (by decide) x] at h
        obtain ⟨p, hp, rfl⟩ := man_n2 (by decide) h
        match p, hp with
        | 0, _ => exact absurd rfl h0
        | 1, _ => exact absurd rfl h1
theorem st_sets : St2 Inv p_X11_sets p_X12_sets := by
  intro a v σ hI
  obtain ⟨⟨N, hL3, hs⟩, -⟩ := id hI
  obtain ⟨hC, hR, hl⟩ := id hL3
  rcases part_cases a with ⟨ha, h0, h1⟩ | rfl | rfl
  · refine st_read hI (r := (-1 : Int32)) ?_ ?_
    · unfold p_X11_sets p_X3_rules p_X3_rules_B25
      simp only [h0, h1, if_false, bnd_some]
    · unfold p_X12_sets
      simp only [m_isIn, bnd_some, b2z, ha]
      rfl
  · cases hv : inV v 0 3
    · refine st_read hI (r := (-1 : Int32)) ?_ ?_
      · unfold p_X11_sets p_X3_rules p_X3_rules_B25
        simp only [if_true, x_within, bnd_some, b2z, hv]
        rfl
      · unfold p_X12_sets p_X12_sets_B21
        simp only [m_isIn, bnd_some, b2z, hv, if_true]
        rfl
    · obtain ⟨w, hw4, rfl⟩ := in3 hv
      have e7 : σ 1 7 = σ 66 1 := hC.2.2.2.2.2.1
      refine ⟨σ 66 1, mu σ 1 (6 + 1) (n2 w), mu (mu σ 1 (6 + 1) (n2 w)) 66 1 (n2 w), ?_, ?_, inv_rule hI hL3 hs (Or.inl rfl) (hR.law hw4)⟩
      · unfold p_X11_sets p_X3_rules
        simp only [if_true, x_within, bnd_some, b2z, hv, lt, wr, e7]
      · have o66 : mu σ 1 (6 + 1) (n2 w) 66 = σ 66 := mu_off (by decide)
        unfold p_X12_sets p_X12_sets_B21
        simp only [m_isIn, bnd_some, b2z, hv, if_true]
        show some (mu σ 1 (6 + 1) (n2 w) 66 1, _) = _
        rw [o66]
        rfl
  · cases hv : inV v 0 9
    · refine st_read hI (r := (-1 : Int32)) ?_ ?_
      · unfold p_X11_sets p_X3_rules p_X3_rules_B25
        rw [if_neg (by decide), if_pos rfl]
        simp only [x_within, bnd_some, b2z, hv]
        rfl
      · unfold p_X12_sets p_X12_sets_B21
        rw [m_isIn, bnd_some]
        show (if (1 : Int32) = 0 then _ else _) = _
        rw [if_neg (by decide)]
        simp only [m_isIn, bnd_some, b2z, hv]
        rfl
    · obtain ⟨w, hw4, rfl⟩ := in9 hv
      have e8 : σ 1 8 = σ 66 2 := hC.2.2.2.2.2.2.1
      refine ⟨σ 66 2, mu σ 1 (6 + 2) (n2 w), mu (mu σ 1 (6 + 2) (n2 w)) 66 2 (n2 w), ?_, ?_, inv_rule hI hL3 hs (Or.inr rfl) (hR.sea hw4)⟩
      · unfold p_X11_sets p_X3_rules p_X3_rules_B25
        rw [if_neg (by decide), if_pos rfl]
        simp only [if_true, x_within, bnd_some, b2z, hv, lt, wr, e8]
      · have o66 : mu σ 1 (6 + 2) (n2 w) 66 = σ 66 := mu_off (by decide)
        unfold p_X12_sets p_X12_sets_B21
        rw [m_isIn, bnd_some]
        show (if (1 : Int32) = 0 then _ else _) = _
        rw [if_neg (by decide)]
        simp only [m_isIn, bnd_some, b2z, hv, if_true]
        show some (mu σ 1 (6 + 2) (n2 w) 66 2, _) = _
        rw [o66]
        rfl
