/-! put -/
theorem b8_rng (x : Int32) : -128 ≤ ((Int32.toInt8 x).toInt32).toInt ∧ ((Int32.toInt8 x).toInt32).toInt ≤ 127 := by
  rw [Int8.toInt_toInt32]
  have h1 := Int8.le_toInt (Int32.toInt8 x)
  have h2 := Int8.toInt_lt (Int32.toInt8 x)
  omega
theorem b16_rng (x : Int32) : -32768 ≤ ((Int32.toInt16 x).toInt32).toInt ∧ ((Int32.toInt16 x).toInt32).toInt ≤ 32767 := by
  rw [Int16.toInt_toInt32]
  have h1 := Int16.le_toInt (Int32.toInt16 x)
  have h2 := Int16.toInt_lt (Int32.toInt16 x)
  omega
/-- what a shelf of that sort keeps of x -/
def lowV (w : Nat) (x : Int32) : Int32 := if w = 0 then (Int32.toInt8 x).toInt32 else if w = 1 then (Int32.toInt16 x).toInt32 else x
theorem m_wrong {σ : Mem} {d : Nat} (hd : d < 8) (hs : inV (n2 d) 0 7 = true) : p_X12_wrongRow (n2 d) (-1) σ = some ((if σ 73 d = 0 then -11 else if σ 73 d = 2 then 0 else -12), σ) := by
  unfold p_X12_wrongRow p_X12_wrongRow_B49
  have hm : ((-1 : Int32) < 0) := by decide
  simp (disch := omega) only [m_isShelf, bnd_some, b2z, hs, if_true, n2_nat, iin, lt, some_ite, hm]
theorem inv_cell {σ : Mem} {d i w : Nat} {v : Int32} (hI : Inv σ) (hd : d < 8) (hi : i < 100) (h4 : σ (6 + d) 4 = n2 w) (hw : w < 3) (hv : v = lowV w v) : Inv (mu (mu σ (14 + d) i v) 78 (100 * d + i) v) := by
  have hS := hI.2.2
  refine inv_shelf hI ?_ ?_ (fun o ho => ?_) (fun d2 hd2 => ?_)
  · rw [mu_ne (by omega), mu_ne (by omega)]
  · rw [mu_ne (by omega), mu_ne (by omega)]
  · rw [mu_off (by omega), mu_off (by omega)]
  · by_cases e : d2 = d
    · subst e
      have h := hS d2 hd2
      unfold ShR at h ⊢
      have o6 : mu (mu σ (14 + d2) i v) 78 (100 * d2 + i) v (6 + d2) = σ (6 + d2) := by rw [mu_off (by omega), mu_off (by omega)]
      rw [o6, mu_ne (by omega), mu_ne (by omega), mu_ne (by omega), mu_ne (by omega), mu_ne (by omega), mu_ne (by omega), mu_ne (by omega), mu_ne (by omega), mu_ne (by omega), mu_ne (by omega)]
      refine ⟨h.1, ?_⟩
      rcases h.2 with h | h | ⟨h0, w2, n, h1, h2, h3, h4', h5, h6, h7, h8, h9⟩
      · exact Or.inl h
      · exact Or.inr (Or.inl h)
      · have ew : w2 = w := (n2_inj (by omega) (by omega)).mp (h3.symm.trans h4)
        subst ew
        refine Or.inr (Or.inr ⟨h0, w2, n, h1, h2, h3, h4', h5, h6, fun j hj => ?_, fun hz j hj => ?_, fun hz j hj => ?_⟩)
        · by_cases ej : j = i
          · subst ej
            rw [mu_ne (by omega), mu_at, mu_at]
          · rw [mu_ne (by omega), mu_ne (by omega), mu_ne (by omega), mu_ne (by omega)]
            exact h7 j hj
        · rw [mu_ne (by omega)]
          by_cases ej : j = i
          · subst ej
            rw [mu_at, hv]
            unfold lowV
            rw [if_pos hz]
            exact b8_rng v
          · rw [mu_ne (by omega)]
            exact h8 hz j hj
        · rw [mu_ne (by omega)]
          by_cases ej : j = i
          · subst ej
            rw [mu_at, hv]
            unfold lowV
            rw [if_neg (by omega), if_pos hz]
            exact b16_rng v
          · rw [mu_ne (by omega)]
            exact h9 hz j hj
    · refine (hS d2 hd2).frame ?_ ?_ ?_ ?_ ?_ ?_ ?_ (fun j hj => ?_)
      · rw [mu_off (by omega), mu_off (by omega)]
      · rw [mu_off (by omega), mu_off (by omega)]
      all_goals rw [mu_ne (by omega), mu_ne (by omega)]
theorem low_low (w : Nat) (x : Int32) : lowV w (lowV w x) = lowV w x := by
  unfold lowV
  split
  · simp
  · split
    · simp
    · rfl
theorem x_lowest {σ : Mem} {o w : Nat} (hw : w < 3) (h4 : σ o 4 = n2 w) (x : Int32) : p_X8_lowest o x σ = some (lowV w x, σ) := by
  unfold p_X8_lowest lowV
  simp only [lt, h4]
  match w, hw with
  | 0, _ => rfl
  | 1, _ => rfl
  | 2, _ => rfl
theorem st_put : St3 Inv p_X11_put p_X12_put := by
  intro a b x σ hI
  have hS := hI.2.2
  rcases sh_cases a with h | ⟨d, hd, rfl, h⟩
  · refine st_read hI (r := (-1 : Int32)) ?_ ?_
    · unfold p_X11_put p_X11_refusal
      simp only [x_isShelf, bnd_some, b2z, h]
      rfl
    · unfold p_X12_put p_X12_wrongRow
      simp only [m_isShelf, bnd_some, b2z, h]
      rfl
  · obtain ⟨e, h1⟩ := hS d hd
    rcases h1 with h1 | ⟨h1, -⟩ | ⟨h1, w, n, hw, hn, e4, e76, e5, e77, hel, -⟩
    · refine st_read hI (r := (-11 : Int32)) ?_ ?_
      · unfold p_X11_put
        rw [x_ref2 hd h, h1]
        rfl
      · unfold p_X12_put
        rw [m_wrong hd h, e, h1]
        rfl
    · refine st_read hI (r := (-12 : Int32)) ?_ ?_
      · unfold p_X11_put
        rw [x_ref2 hd h, h1]
        rfl
      · unfold p_X12_put
        rw [m_wrong hd h, e, h1]
        rfl
    · have r1 : p_X11_refusal (n2 d) 2 σ = some (0, σ) := by
        rw [x_ref2 hd h, h1]
        rfl
      have r2 : p_X12_wrongRow (n2 d) (-1) σ = some (0, σ) := by
        rw [m_wrong hd h, e, h1]
        rfl
      cases hb : inV b 0 (n2 n - 1)
      · refine st_read hI (r := (-13 : Int32)) ?_ ?_
        · unfold p_X11_put
          simp (disch := omega) only [r1, bnd_some, if_true, n2_nat, iin, lt, e5, x_within, b2z, hb]
          rfl
        · unfold p_X12_put
          simp (disch := omega) only [r2, bnd_some, if_true, n2_nat, iin, lt, e77, m_isIn, b2z, hb]
          rfl
      · obtain ⟨i, hi, rfl⟩ := in_pred (by omega) hb
        refine ⟨0, mu σ (14 + d) i (lowV w x), mu (mu σ (14 + d) i (lowV w x)) 78 (100 * d + i) (lowV w x), ?_, ?_, inv_cell hI hd (by omega) e4 hw (low_low w x).symm⟩
        · unfold p_X11_put
          simp (disch := omega) only [r1, bnd_some, if_true, n2_nat, iin, lt, e5, x_within, b2z, hb, x_lowest hw e4, wr]
          rw [show 8 + (6 + d) = 14 + d by omega]
        · have q2 : p_X12_wrongRow (n2 d) (-1) (mu σ (14 + d) i (lowV w x)) = some (0, mu σ (14 + d) i (lowV w x)) := by
            rw [m_wrong hd h, mu_ne (by omega), e, h1]
            rfl
          have o77 : mu σ (14 + d) i (lowV w x) 77 = σ 77 := mu_off (by omega)
          have o76 : mu σ (14 + d) i (lowV w x) 76 = σ 76 := mu_off (by omega)
          unfold p_X12_put p_X12_put_B75
          simp (disch := omega) only [q2, bnd_some, if_true, n2_nat, iin, lt, o77, e77, m_isIn, b2z, hb, o76, e76, el_n2, wr]
          unfold lowV
          match w, hw with
          | 0, _ => rfl
          | 1, _ => rfl
          | 2, _ => rfl
