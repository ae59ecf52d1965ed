/-! calls that only read, one by one -/
theorem in7 (x : Int32) : inV x 0 7 = manV 8 x := man_in (N := 8) (by decide) x
theorem in7_no {x : Int32} (h : inV x 0 7 = false) {k : Nat} (hk : k < 8) : ¬ x = n2 k := by
  intro e
  rw [e] at h
  have : ∀ k < 8, inV (n2 k) 0 7 = true := by decide +kernel
  rw [this k hk] at h
  cases h
theorem st_sailor : St2 Inv p_X11_sailor p_X12_sailor := by
  intro a b σ hI
  obtain ⟨⟨N, hL3, s, hs9, hs⟩, -⟩ := id hI
  obtain ⟨hC, hR, hl⟩ := id hL3
  have h8 : N ≤ 8 := hR.2.1
  cases ht : manV N a
  · refine st_read hI (r := (-1 : Int32)) ?_ ?_
    · unfold p_X11_sailor
      simp only [x_has hC, bnd_some, b2z, ht]
      rfl
    · unfold p_X12_sailor
      simp only [m_isMan hR.1 h8, bnd_some, b2z, ht]
      rfl
  · obtain ⟨p, hp, rfl⟩ := man_n2 h8 ht
    have hp8 : p < 8 := by omega
    obtain ⟨⟨k, hk, ek⟩, ⟨f, hf, ef⟩, -, hlo⟩ := hR.2.2.1 p hp
    obtain ⟨e24, e27, e30⟩ := hC.2.2.2.1 p hp
    have e24 : σ 25 p = kd (σ 66) p := e24
    have e27 : σ 28 p = fg (σ 66) p := e27
    have e30 : σ 31 p = bt (σ 66) p := e30
    have i1 := ko_in (c := 1) ⟨by decide, by decide⟩ hk
    have hkf : kd (σ 66) p = σ 66 (4 + 4 * p + 0) := rfl
    have hff : fg (σ 66) p = σ 66 (4 + 4 * p + 1) := rfl
    cases hb : inV b 0 7
    · have n0 : ¬ b = (0 : Int32) := in7_no hb (k := 0) (by decide)
      have n1 : ¬ b = (1 : Int32) := in7_no hb (k := 1) (by decide)
      have n2' : ¬ b = (2 : Int32) := in7_no hb (k := 2) (by decide)
      have n3 : ¬ b = (3 : Int32) := in7_no hb (k := 3) (by decide)
      have n4 : ¬ b = (4 : Int32) := in7_no hb (k := 4) (by decide)
      have n5 : ¬ b = (5 : Int32) := in7_no hb (k := 5) (by decide)
      have n6 : ¬ b = (6 : Int32) := in7_no hb (k := 6) (by decide)
      have n7 : ¬ b = (7 : Int32) := in7_no hb (k := 7) (by decide)
      refine st_read hI (r := (-1 : Int32)) ?_ ?_
      · unfold p_X11_sailor
        simp only [x_has hC, bnd_some, b2z, ht, if_true]
        rw [if_neg n0, if_neg n1, if_neg n2', if_neg n3, if_neg n4, if_neg n5, if_neg n6, if_neg n7]
      · unfold p_X12_sailor
        simp only [m_isMan hR.1 h8, bnd_some, b2z, ht, if_true, m_isIn, hb]
        rfl
    · rw [in7] at hb
      obtain ⟨w, hw, rfl⟩ := man_n2 (by decide) hb
      rw [← in7] at hb
      match w, hw with
      | 0, _ =>
        refine st_read hI (r := n2 k) ?_ ?_
        · unfold p_X11_sailor
          simp (decide := true) (disch := omega) only [x_has hC, bnd_some, b2z, ht, if_true, if_false, n2_nat, iin, lt, e24, e27, e30, ek, ef]
        · unfold p_X12_sailor
          simp (decide := true) (disch := omega) only [m_isMan hR.1 h8, bnd_some, b2z, ht, if_true, if_false, m_isIn, hb, n2_nat, iin, lt, m_of p 0 σ]
          exact congrArg (fun v => some (v, σ)) ek
      | 1, _ =>
        refine st_read hI (r := n2 f) ?_ ?_
        · unfold p_X11_sailor
          simp (decide := true) (disch := omega) only [x_has hC, bnd_some, b2z, ht, if_true, if_false, n2_nat, iin, lt, e24, e27, e30, ek, ef]
        · unfold p_X12_sailor
          simp (decide := true) (disch := omega) only [m_isMan hR.1 h8, bnd_some, b2z, ht, if_true, if_false, m_isIn, hb, n2_nat, iin, lt, m_of p 1 σ]
          exact congrArg (fun v => some (v, σ)) ef
      | 2, _ =>
        refine st_read hI (r := bt (σ 66) p) ?_ ?_
        · unfold p_X11_sailor
          simp (decide := true) (disch := omega) only [x_has hC, bnd_some, b2z, ht, if_true, if_false, n2_nat, iin, lt, e24, e27, e30, ek, ef]
        · unfold p_X12_sailor
          simp (decide := true) (disch := omega) only [m_isMan hR.1 h8, bnd_some, b2z, ht, if_true, if_false, m_isIn, hb, n2_nat, iin, lt, m_of p 2 σ]
          rfl
      | 3, _ =>
        refine st_read hI (r := lo (σ 66) p) ?_ ?_
        · unfold p_X11_sailor
          simp (decide := true) (disch := omega) only [x_has hC, bnd_some, b2z, ht, if_true, if_false, n2_nat, iin, lt, e24, e27, e30, ek, ef, x_isLost hL3 hp]
          rcases hlo with h | ⟨h, -⟩ <;> rw [h] <;> rfl
        · unfold p_X12_sailor
          simp (decide := true) (disch := omega) only [m_isMan hR.1 h8, bnd_some, b2z, ht, if_true, if_false, m_isIn, hb, n2_nat, iin, lt, m_of p 3 σ]
          rfl
      | 4, _ =>
        refine st_read hI (r := skV (n2 k) (n2 f)) ?_ ?_
        · unfold p_X11_sailor
          simp (decide := true) (disch := omega) only [x_has hC, bnd_some, b2z, ht, if_true, if_false, n2_nat, iin, lt, e24, e27, e30, ek, ef, x_kindOf hC hp ek hk, x_Kskill i1.1 i1.2 hk hf]
        · unfold p_X12_sailor
          simp (decide := true) (disch := omega) only [m_isMan hR.1 h8, bnd_some, b2z, ht, if_true, if_false, m_isIn, hb, n2_nat, iin, lt, m_skillOf σ hp8, ek, ef]
      | 5, _ =>
        refine st_read hI (r := rkV (n2 k) (n2 f) (n2 s)) ?_ ?_
        · unfold p_X11_sailor
          simp (decide := true) (disch := omega) only [x_has hC, bnd_some, b2z, ht, if_true, if_false, n2_nat, iin, lt, e24, e27, e30, ek, ef, x_kindOf hC hp ek hk, hC.2.2.2.2.2.2.2, hs, x_Krisk i1.1 i1.2 hk (show s < 2000 by omega)]
        · unfold p_X12_sailor
          simp (decide := true) (disch := omega) only [m_isMan hR.1 h8, bnd_some, b2z, ht, if_true, if_false, m_isIn, hb, n2_nat, iin, lt, m_riskOf _ σ hp8, ii3, c3, hs, ek, ef]
      | 6, _ =>
        refine st_read hI (r := rcV (n2 k) (n2 f)) ?_ ?_
        · unfold p_X11_sailor
          simp (decide := true) (disch := omega) only [x_has hC, bnd_some, b2z, ht, if_true, if_false, n2_nat, iin, lt, e24, e27, e30, ek, ef, x_kindOf hC hp ek hk, x_Kreach i1.1 i1.2 hk hf]
        · unfold p_X12_sailor
          simp (decide := true) (disch := omega) only [m_isMan hR.1 h8, bnd_some, b2z, ht, if_true, if_false, m_isIn, hb, n2_nat, iin, lt, m_reachOf σ hp8, ek, ef]
      | 7, _ =>
        refine st_read hI (r := pyV (n2 k) (n2 f)) ?_ ?_
        · unfold p_X11_sailor
          simp (decide := true) (disch := omega) only [x_has hC, bnd_some, b2z, ht, if_true, if_false, n2_nat, iin, lt, e24, e27, e30, ek, ef, x_kindOf hC hp ek hk, x_Kpay i1.1 i1.2 hk hf]
        · unfold p_X12_sailor
          simp (decide := true) (disch := omega) only [m_isMan hR.1 h8, bnd_some, b2z, ht, if_true, if_false, m_isIn, hb, n2_nat, iin, lt, m_of0, m_of1, m_pay]
          exact (by rw [← hkf, ← hff, ek, ef])
