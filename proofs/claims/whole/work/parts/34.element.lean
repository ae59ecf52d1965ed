/-! element -/
theorem in_pred {n : Nat} (h : n < 1000) {x : Int32} (hx : inV x 0 (n2 n - 1) = true) : ∃ i, i < n ∧ x = n2 i := by
  have hp : (n2 n - 1).toInt = (n : Int) - 1 := by
    rw [Int32.toInt_sub, n2_int (by omega), show (1 : Int32).toInt = 1 from rfl]
    unfold Int.bmod
    simp only
    split <;> omega
  unfold inV at hx
  simp only [Bool.and_eq_true, Bool.not_eq_true', decide_eq_false_iff_not] at hx
  rw [Int32.lt_iff_toInt_lt, Int32.lt_iff_toInt_lt, hp, show (0 : Int32).toInt = 0 from rfl] at hx
  refine ⟨x.toInt.toNat, by omega, ?_⟩
  apply Int32.toInt_inj.mp
  rw [n2_int (by omega)]
  omega
theorem inv_65 {σ : Mem} (hI : Inv σ) (k : Nat) (v : Int32) (hk : k ≠ 4) : Inv (mu σ 65 k v) := by
  refine inv_shelf hI ?_ ?_ (fun o ho => ?_) (fun d hd => ?_)
  · rw [mu_ne (by omega)]
  · rw [mu_ne (by omega)]
  · rw [mu_off (by omega)]
  · refine (hI.2.2 d hd).frame ?_ ?_ ?_ ?_ ?_ ?_ ?_ (fun j hj => ?_)
    · rw [mu_off (by omega)]
    · rw [mu_off (by omega)]
    all_goals rw [mu_ne (by omega)]
theorem el_n2 (d i : Nat) : ((100 : Int32) * n2 d) + n2 i = n2 (100 * d + i) := by
  show n2 100 * n2 d + n2 i = _
  rw [show n2 100 * n2 d = n2 (100 * d) from (Int32.ofNat_mul 100 d).symm, n2_add]
theorem x_ref2 {σ : Mem} {d : Nat} (hd : d < 8) (hs : inV (n2 d) 0 7 = true) : p_X11_refusal (n2 d) 2 σ = some ((if σ (6 + d) 1 = 0 then -11 else if σ (6 + d) 1 = 2 then 0 else -12), σ) := by
  unfold p_X11_refusal
  simp (disch := omega) only [x_isShelf, bnd_some, b2z, hs, if_true, n2_nat, iin, lt, some_ite]
theorem st_element : StE Inv := by
  intro σ hI a b
  have hS := hI.2.2
  have fin : ∀ (r1 : Int32 × Int64) (r2 : Int64) (v : Int32), p_X11_element a b σ = some (r1, σ) → p_X12_element a b σ = some (r2, mu σ 65 18 v) → v = r1.1 → (r1.1 = 0 → r2 = r1.2) → ∃ r1 r2 s1 s2 s3, p_X11_element a b σ = some (r1, s1) ∧ p_X12_element a b s1 = some (r2, s2) ∧ p_X12_thrown s2 = some (r1.1, s3) ∧ (r1.1 = 0 → r2 = r1.2) ∧ Inv s3 := by
    intro r1 r2 v h1 h2 hv hz
    refine ⟨r1, r2, σ, mu σ 65 18 v, mu σ 65 18 v, h1, h2, ?_, hz, inv_65 hI 18 v (by decide)⟩
    unfold p_X12_thrown
    simp only [lt, mu_at, hv]
  have t1 : ∀ x1 x2 : Int32, p_X12_element_B43 x1 x2 1 σ = some (0, mu σ 65 18 1) := by
    intro x1 x2
    unfold p_X12_element_B43
    simp only [wr, lt, mu_at]
    rfl
  have t2 : ∀ x1 x2 : Int32, p_X12_element_B38 x1 x2 σ = some (0, mu σ 65 18 2) := by
    intro x1 x2
    unfold p_X12_element_B38 p_X12_element_B43
    simp only [wr, lt, mu_at]
    rfl
  rcases sh_cases a with h | ⟨d, hd, rfl, h⟩
  · refine fin (1, 0) 0 1 ?_ ?_ rfl (fun _ => rfl)
    · unfold p_X11_element
      simp only [x_isShelf, bnd_some, b2z, h]
      rfl
    · unfold p_X12_element
      simp only [m_isShelf, bnd_some, b2z, h, t1]
      rfl
  · obtain ⟨e, h1⟩ := hS d hd
    have hno : ¬ σ (6 + d) 1 = 2 → ∃ r1 r2 s1 s2 s3, p_X11_element (n2 d) b σ = some (r1, s1) ∧ p_X12_element (n2 d) b s1 = some (r2, s2) ∧ p_X12_thrown s2 = some (r1.1, s3) ∧ (r1.1 = 0 → r2 = r1.2) ∧ Inv s3 := by
      intro hn
      have hne : ¬ (if σ (6 + d) 1 = 0 then (-11 : Int32) else if σ (6 + d) 1 = 2 then 0 else -12) = 0 := by
        rw [if_neg hn]
        split <;> decide
      refine fin (2, 0) 0 2 ?_ ?_ rfl (fun _ => rfl)
      · unfold p_X11_element
        simp only [x_isShelf, bnd_some, b2z, h, if_true, x_ref2 hd h, if_neg hne]
      · unfold p_X12_element
        simp (disch := omega) only [m_isShelf, bnd_some, b2z, h, if_true, n2_nat, iin, lt, e, if_neg hn, t2]
    rcases h1 with h1 | ⟨h1, -⟩ | ⟨h1, w, n, hw, hn, -, -, e5, e77, hel, -⟩
    · exact hno (by rw [h1]; decide)
    · exact hno (by rw [h1]; decide)
    · have hr0 : (if σ (6 + d) 1 = 0 then (-11 : Int32) else if σ (6 + d) 1 = 2 then 0 else -12) = 0 := by
        rw [h1]
        rfl
      cases hb : inV b 0 (n2 n - 1)
      · refine fin (2, 0) 0 2 ?_ ?_ rfl (fun _ => rfl)
        · unfold p_X11_element
          simp (disch := omega) only [x_isShelf, bnd_some, b2z, h, if_true, x_ref2 hd h, hr0, n2_nat, iin, lt, e5, x_within, hb]
          rfl
        · unfold p_X12_element
          simp (disch := omega) only [m_isShelf, bnd_some, b2z, h, if_true, n2_nat, iin, lt, e, h1, e77, m_isIn, hb, t2]
          rfl
      · obtain ⟨i, hi, rfl⟩ := in_pred (by omega) hb
        refine fin (0, Int32.toInt64 (σ (14 + d) i)) (Int32.toInt64 (σ (14 + d) i)) 0 ?_ ?_ rfl (fun _ => rfl)
        · unfold p_X11_element
          simp (disch := omega) only [x_isShelf, bnd_some, b2z, h, if_true, x_ref2 hd h, hr0, n2_nat, iin, lt, e5, x_within, hb]
          rw [show 8 + (6 + d) = 14 + d by omega]
        · unfold p_X12_element p_X12_element_B43
          have o78 : mu σ 65 18 0 78 = σ 78 := mu_off (by decide)
          simp (disch := omega) only [m_isShelf, bnd_some, b2z, h, if_true, n2_nat, iin, lt, e, h1, e77, m_isIn, hb, wr, mu_at, el_n2, o78, hel i (by omega)]
