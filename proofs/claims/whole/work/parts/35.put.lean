/-! put -/
theorem b8_rng (x : Int32) : -128 ≤ ((Int32.toInt8 x).toInt32).toInt ∧ ((Int32.toInt8 x).toInt32).toInt ≤ 127 := by
  rw [Int8.toInt_toInt32]
  have h1 := Int8.le_toInt (Int32.toInt8 x)
  have h2 := Int8.toInt_lt (Int32.toInt8 x)
  omega
theorem b16_rng (x : Int32) : -32768 ≤ ((Int32.toInt16 x).toInt32).toInt ∧ ((Int32.toInt16 x).toInt32).toInt ≤ 32767 := by
  rw [Int16.toInt_toInt32]
  have h1 := Int16.le_toInt (Int32.toInt16 x)
  have h2 := Int16.toInt_lt (Int32.toInt16 x)
  omega
/-- what a shelf of that sort keeps of x -/
def lowV (w : Nat) (x : Int32) : Int32 := if w = 0 then (Int32.toInt8 x).toInt32 else if w = 1 then (Int32.toInt16 x).toInt32 else x
theorem m_wrong {σ : Mem} {d : Nat} (hd : d < 8) (hs : inV (n2 d) 0 7 = true) : p_X12_wrongRow (n2 d) (-1) σ = some ((if σ 73 d = 0 then -11 else if σ 73 d = 2 then 0 else -12), σ) := by
  unfold p_X12_wrongRow p_X12_wrongRow_B49
  have hm : ((-1 : Int32) < 0) := by decide
  simp (disch := omega) only [m_isShelf, bnd_some, b2z, hs, if_true, n2_nat, iin, lt, some_ite, hm]
theorem inv_cell {σ : Mem} {d i w : Nat} {v : Int32} (hI : Inv σ) (hd : d < 8) (hi : i < 100) (h4 : σ (6 + d) 4 = n2 w) (hw : w < 3) (hv : v = lowV w v) : Inv (mu (mu σ (14 + d) i v) 78 (100 * d + i) v) := by
  have hS := hI.2.2
  refine inv_shelf hI ?_ ?_ (fun o ho => ?_) (fun d2 hd2 => ?_)
  · rw [mu_ne (by omega), mu_ne (by omega)]
  · rw [mu_ne (by omega), mu_ne (by omega)]
  · rw [mu_off (by omega), mu_off (by omega)]
  · by_cases e : d2 = d
    · subst e
      have h := hS d2 hd2
      unfold ShR at h ⊢
      have o6 : mu (mu σ (14 + d2) i v) 78 (100 * d2 + i) v (6 + d2) = σ (6 + d2) := by rw [mu_off (by omega), mu_off (by omega)]
      rw [o6, mu_ne (by omega), mu_ne (by omega), mu_ne (by omega), mu_ne (by omega), mu_ne (by omega), mu_ne (by omega), mu_ne (by omega), mu_ne (by omega), mu_ne (by omega), mu_ne (by omega)]
      refine ⟨h.1, ?_⟩
      rcases h.2 with h | h | ⟨h0, w2, n, h1, h2, h3, h4', h5, h6, h7, h8, h9⟩
      · exact Or.inl h
      · exact Or.inr (Or.inl h)
      · have ew : w2 = w := (n2_inj (by omega) (by omega)).mp (h3.symm.trans h4)
        subst ew
        refine Or.inr (Or.inr ⟨h0, w2, n, h1, h2, h3, h4', h5, h6, fun j hj => ?_, fun hz j hj => ?_, fun hz j hj => ?_⟩)
        · by_cases ej : j = i
          · subst ej
            rw [mu_ne (by omega), mu_at, mu_at]
          · rw [mu_ne (by omega), mu_ne (by omega), mu_ne (by omega), mu_ne (by omega)]
            exact h7 j hj
        · rw [mu_ne (by omega)]
          by_cases ej : j = i
          · subst ej
            rw [mu_at, hv]
            unfold lowV
            rw [if_pos hz]
            exact b8_rng v
          · rw [mu_ne (by omega)]
            exact h8 hz j hj
        · rw [mu_ne (by omega)]
          by_cases ej : j = i
          · subst ej
            rw [mu_at, hv]
            unfold lowV
            rw [if_neg (by omega), if_pos hz]
            exact b16_rng v
          · rw [mu_ne (by omega)]
            exact h9 hz j hj
    · refine (hS d2 hd2).frame ?_ ?_ ?_ ?_ ?_ ?_ ?_ (fun j hj => ?_)
      · rw [mu_off (by omega), mu_off (by omega)]
      · rw [mu_off (by omega), mu_off (by omega)]
      all_goals rw [mu_ne (by omega), mu_ne (by omega)]
