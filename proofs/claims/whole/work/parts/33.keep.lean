/-! shelves: calls that write -/
theorem ShR.frame {σ σ' : Mem} {d : Nat} (h : ShR σ d) (e6 : σ' (6 + d) = σ (6 + d)) (e14 : σ' (14 + d) = σ (14 + d)) (e73 : σ' 73 d = σ 73 d) (e74 : σ' 74 d = σ 74 d) (e75 : σ' 75 d = σ 75 d) (e76 : σ' 76 d = σ 76 d) (e77 : σ' 77 d = σ 77 d) (e78 : ∀ j, j < 100 → σ' 78 (100 * d + j) = σ 78 (100 * d + j)) : ShR σ' d := by
  unfold ShR at h ⊢
  rw [e6, e14, e73, e74, e75, e76, e77]
  refine ⟨h.1, ?_⟩
  rcases h.2 with h | h | ⟨h0, w, n, h1, h2, h3, h4, h5, h6, h7, h8⟩
  · exact Or.inl h
  · exact Or.inr (Or.inl h)
  · exact Or.inr (Or.inr ⟨h0, w, n, h1, h2, h3, h4, h5, h6, fun j hj => by rw [e78 j hj]; exact h7 j hj, h8⟩)
theorem inv_shelf {σ σ' : Mem} (hI : Inv σ) (h0 : σ' 0 5 = σ 0 5) (h65 : σ' 65 4 = σ 65 4) (hq : ∀ o, (o = 1 ∨ o = 2 ∨ o = 25 ∨ o = 26 ∨ o = 28 ∨ o = 29 ∨ o = 31 ∨ o = 32 ∨ o = 34 ∨ o = 35 ∨ o = 66 ∨ o = 68) → σ' o = σ o) (hS : ∀ d, d < 8 → ShR σ' d) : Inv σ' := by
  obtain ⟨⟨N, hL, hs⟩, hi, -⟩ := hI
  have e66 := hq 66 (by omega)
  refine ⟨⟨N, by rw [e66]; exact hL.same (hq 1 (by omega)) (hq 25 (by omega)) (hq 28 (by omega)) (hq 31 (by omega)) (hq 34 (by omega)), by rw [e66]; exact hs⟩, ?_, hS⟩
  rcases hi with ⟨a, b⟩ | ⟨a, b, M, hM, hsM⟩
  · exact Or.inl ⟨by rw [h0]; exact a, by rw [h65]; exact b⟩
  · have e68 := hq 68 (by omega)
    exact Or.inr ⟨by rw [h0]; exact a, by rw [h65]; exact b, M, by rw [e68]; exact hM.same (hq 2 (by omega)) (hq 26 (by omega)) (hq 29 (by omega)) (hq 32 (by omega)) (hq 35 (by omega)), by rw [e68]; exact hsM⟩
theorem mu_at (σ : Mem) (o k : Nat) (v : Int32) : mu σ o k v o k = v := by rw [mu_row, upd_at]
theorem mu_ne {σ : Mem} {o k q j : Nat} {v : Int32} (h : q ≠ o ∨ j ≠ k) : mu σ o k v q j = σ q j := by
  by_cases e : q = o
  · subst e
    rw [mu_row, upd_ne (by omega)]
  · rw [mu_off e]
theorem st_keep : St4 Inv p_X11_keep p_X12_keep := by
  intro a w k f σ hI
  have hS := hI.2.2
  rcases sh_cases a with h | ⟨d, hd, rfl, h⟩
  · refine st_read hI (r := (-1 : Int32)) ?_ ?_
    · unfold p_X11_keep
      simp only [x_isShelf, bnd_some, b2z, h]
      rfl
    · unfold p_X12_keep
      simp only [m_isShelf, bnd_some, b2z, h]
      rfl
  · rcases part_cases w with ⟨hw, h0, h1⟩ | rfl | rfl
    · refine st_read hI (r := (-1 : Int32)) ?_ ?_
      · unfold p_X11_keep
        simp only [x_isShelf, bnd_some, b2z, h, if_true, x_within, hw]
        rfl
      · unfold p_X12_keep
        simp only [m_isShelf, bnd_some, b2z, h, if_true, m_isIn, hw]
        rfl
    · have hin : inV (0 : Int32) 0 1 = true := by decide
      refine ⟨0, mu σ (6 + d) 1 0, mu (mu (mu (mu σ (6 + d) 1 0) 73 d 0) 74 d k) 75 d f, ?_, ?_, inv_shelf hI ?_ ?_ (fun o ho => ?_) (fun d2 hd2 => ?_)⟩
      · unfold p_X11_keep
        simp (disch := omega) only [x_isShelf, bnd_some, b2z, h, if_true, x_within, hin, n2_nat, iin, wr]
      · unfold p_X12_keep p_X12_keep_B44
        have h01 : ¬ (0 : Int32) = 1 := by decide
        simp (disch := omega) only [m_isShelf, bnd_some, b2z, h, if_true, if_false, m_isIn, hin, h01, n2_nat, iin, wr]
      · rw [mu_ne (by omega), mu_ne (by omega), mu_ne (by omega), mu_ne (by omega)]
      · rw [mu_ne (by omega), mu_ne (by omega), mu_ne (by omega), mu_ne (by omega)]
      · rw [mu_off (by omega), mu_off (by omega), mu_off (by omega), mu_off (by omega)]
      · by_cases e : d2 = d
        · subst e
          refine ⟨?_, Or.inl ?_⟩
          · rw [mu_ne (by omega), mu_ne (by omega), mu_at, mu_ne (by omega), mu_ne (by omega), mu_ne (by omega), mu_at]
          · rw [mu_ne (by omega), mu_ne (by omega), mu_ne (by omega), mu_at]
        · refine (hS d2 hd2).frame ?_ ?_ ?_ ?_ ?_ ?_ ?_ (fun j hj => ?_)
          · rw [mu_off (by omega), mu_off (by omega), mu_off (by omega), mu_off (by omega)]
          · rw [mu_off (by omega), mu_off (by omega), mu_off (by omega), mu_off (by omega)]
          all_goals rw [mu_ne (by omega), mu_ne (by omega), mu_ne (by omega), mu_ne (by omega)]
    · have hin : inV (1 : Int32) 0 1 = true := by decide
      have h10 : ¬ (1 : Int32) = 0 := by decide
      cases hk : inV k 0 7
      · refine st_read hI (r := (-1 : Int32)) ?_ ?_
        · unfold p_X11_keep
          simp only [x_isShelf, bnd_some, b2z, h, if_true, if_false, x_within, hin, h10, x_isKind, hk]
          rfl
        · unfold p_X12_keep
          simp only [m_isShelf, bnd_some, b2z, h, if_true, m_isIn, hin, hk]
          rfl
      · cases hf : inV f 0 9
        · refine st_read hI (r := (-1 : Int32)) ?_ ?_
          · unfold p_X11_keep
            simp only [x_isShelf, bnd_some, b2z, h, if_true, if_false, x_within, hin, h10, x_isKind, hk, hf]
            rfl
          · unfold p_X12_keep
            simp only [m_isShelf, bnd_some, b2z, h, if_true, m_isIn, hin, hk, hf]
            rfl
        · obtain ⟨f, hf10, rfl⟩ := in9 hf
          have hk2 := hk
          rw [in7] at hk2
          obtain ⟨k, hk8, rfl⟩ := man_n2 (by decide) hk2
          refine ⟨0, mu (mu (mu σ (6 + d) 1 1) (6 + d) 2 (n2 k)) (6 + d) 3 (n2 f), mu (mu (mu (mu (mu (mu σ (6 + d) 1 1) (6 + d) 2 (n2 k)) (6 + d) 3 (n2 f)) 73 d 1) 74 d (n2 k)) 75 d (n2 f), ?_, ?_, inv_shelf hI ?_ ?_ (fun o ho => ?_) (fun d2 hd2 => ?_)⟩
          · unfold p_X11_keep
            simp (disch := omega) only [x_isShelf, bnd_some, b2z, h, if_true, if_false, x_within, hin, h10, x_isKind, hk, hf, n2_nat, iin, wr]
          · unfold p_X12_keep p_X12_keep_B44
            simp (disch := omega) only [m_isShelf, bnd_some, b2z, h, if_true, m_isIn, hin, hk, hf, n2_nat, iin, wr]
          · rw [mu_ne (by omega), mu_ne (by omega), mu_ne (by omega), mu_ne (by omega), mu_ne (by omega), mu_ne (by omega)]
          · rw [mu_ne (by omega), mu_ne (by omega), mu_ne (by omega), mu_ne (by omega), mu_ne (by omega), mu_ne (by omega)]
          · rw [mu_off (by omega), mu_off (by omega), mu_off (by omega), mu_off (by omega), mu_off (by omega), mu_off (by omega)]
          · by_cases e : d2 = d
            · subst e
              refine ⟨?_, Or.inr (Or.inl ⟨?_, k, f, hk8, hf10, ?_, ?_, ?_, ?_⟩)⟩
              · rw [mu_ne (by omega), mu_ne (by omega), mu_at, mu_ne (by omega), mu_ne (by omega), mu_ne (by omega), mu_ne (by omega), mu_ne (by omega), mu_at]
              · rw [mu_ne (by omega), mu_ne (by omega), mu_ne (by omega), mu_ne (by omega), mu_ne (by omega), mu_at]
              · rw [mu_ne (by omega), mu_ne (by omega), mu_ne (by omega), mu_ne (by omega), mu_at]
              · rw [mu_ne (by omega), mu_at]
              · rw [mu_ne (by omega), mu_ne (by omega), mu_ne (by omega), mu_at]
              · rw [mu_at]
            · refine (hS d2 hd2).frame ?_ ?_ ?_ ?_ ?_ ?_ ?_ (fun j hj => ?_)
              · rw [mu_off (by omega), mu_off (by omega), mu_off (by omega), mu_off (by omega), mu_off (by omega), mu_off (by omega)]
              · rw [mu_off (by omega), mu_off (by omega), mu_off (by omega), mu_off (by omega), mu_off (by omega), mu_off (by omega)]
              all_goals rw [mu_ne (by omega), mu_ne (by omega), mu_ne (by omega), mu_ne (by omega), mu_ne (by omega), mu_ne (by omega)]
