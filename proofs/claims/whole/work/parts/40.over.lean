/-! one goes overboard -/
theorem oe_some (p : Nat) : oe (some p) = n2 p := rfl
theorem ilt3 {α : Type} {a : Nat} {A B : α} (h : a < 2147483648) : (if n2 a < 3 then A else B) = if a < 3 then A else B := iltq (b := 3) ⟨h, by omega⟩
theorem ilt1 {α : Type} {a : Nat} {A B : α} (h : a < 2147483648) : (if n2 a < 1 then A else B) = if a < 1 then A else B := iltq (b := 1) ⟨h, by omega⟩
def savN (m : Nat) : Nat := if m < 3 then (if m < 1 then 1 else 2) else 3
theorem savN_lt (m : Nat) : savN m < 4 := by
  unfold savN
  repeat' split
  all_goals omega
def ovW (R : Nat → Int32) (p q : Nat) (v : Int32) : Nat → Int32 :=
  if mayV (upd R (36 + 8 * q + p) v) p q (upd R (36 + 8 * q + p) v 1) = true then upd R (36 + 8 * q + p) v else upd (upd R (36 + 8 * q + p) v) (4 + 4 * q + 2) 9
def ovS (R : Nat → Int32) (p : Nat) : Option Nat → (Nat → Int32)
  | none => upd (upd R (4 + 4 * p + 3) 1) (4 + 4 * p + 2) 9
  | some q => ovW R p q (n2 (savN (reachN R q - riskN R p (ssN R))))
def ovF (N : Nat) (R : Nat → Int32) : Option Nat → (Nat → Int32)
  | none => R
  | some p => ovS R p (savV R N p (ssN R))
def ovR (N : Nat) (R : Nat → Int32) (b : Nat) : Nat → Int32 := ovF N R (falV R N (n2 b) (ssN R))
theorem upd_comm {R : Nat → Int32} {i j : Nat} {v w : Int32} (h : i ≠ j) : upd (upd R i v) j w = upd (upd R j w) i v := by
  funext k
  by_cases h1 : k = i
  · subst h1
    rw [upd_ne h, upd_at, upd_at]
  · by_cases h2 : k = j
    · subst h2
      rw [upd_at, upd_ne h1, upd_at]
    · rw [upd_ne h2, upd_ne h1, upd_ne h1, upd_ne h2]
theorem mu_comm {σ : Mem} {a b i j : Nat} {v w : Int32} (h : a ≠ b) : mu (mu σ a i v) b j w = mu (mu σ b j w) a i v := by
  funext o
  by_cases h1 : o = a
  · subst h1
    rw [mu_off h, mu_row, mu_row, mu_off h]
  · by_cases h2 : o = b
    · subst h2
      rw [mu_row, mu_off h1, mu_off h1, mu_row]
    · rw [mu_off h2, mu_off h1, mu_off h1, mu_off h2]
theorem OkR.lose {R : Nat → Int32} {N p : Nat} (h : OkR R N) (hp : p < N) (hb : bt R p = 9) : OkR (upd R (4 + 4 * p + 3) 1) N := by
  obtain ⟨a1, a2, a3, a4, a5, a6, a7⟩ := h
  refine ⟨by rw [upd_ne (by omega)]; exact a1, a2, fun q hq => ?_, fun q hq => ?_, by rw [upd_ne (by omega)]; exact a5, by rw [upd_ne (by omega)]; exact a6, by rw [upd_ne (by omega)]; exact a7⟩
  · obtain ⟨b1, b2', b3, b4⟩ := a3 q hq
    refine ⟨?_, ?_, ?_, ?_⟩
    · unfold kd at b1 ⊢
      rw [upd_ne (by omega)]
      exact b1
    · unfold fg at b2' ⊢
      rw [upd_ne (by omega)]
      exact b2'
    · unfold bt at b3 ⊢
      rw [upd_ne (by omega)]
      exact b3
    · unfold bt at hb
      unfold lo bt at b4 ⊢
      rw [upd_ne (show 4 + 4 * q + 2 ≠ 4 + 4 * p + 3 by omega)]
      by_cases e : q = p
      · subst e
        rw [upd_at]
        exact Or.inr ⟨rfl, hb⟩
      · rw [upd_ne (by omega)]
        exact b4
  · rw [upd_ne (by omega)]
    exact a4 q hq
theorem bt_upd {R : Nat → Int32} {p q i : Nat} {v : Int32} (h : 4 + 4 * q + 2 ≠ i) : bt (upd R i v) q = bt R q := upd_ne h
theorem lost_upd {R : Nat → Int32} {N p : Nat} (hp : p < N) : lostV (upd R (4 + 4 * p + 3) 1) N = lostV R N ||| 2 ^ p := by
  refine set_ext (fun q => ?_)
  rw [Nat.testBit_or, Nat.testBit_two_pow]
  unfold lostV
  rw [set_bit, set_bit]
  by_cases h : p = q
  · subst h
    unfold lo
    rw [upd_at, decide_eq_true hp, decide_eq_true (rfl : (1 : Int32) = 1), decide_eq_true (rfl : p = p)]
    simp
  · unfold lo
    rw [upd_ne (by omega), decide_eq_false h]
    simp
theorem OkR.overb {R : Nat → Int32} {N p : Nat} (h : OkR R N) (hp : p < N) : OkR (upd (upd R (4 + 4 * p + 3) 1) (4 + 4 * p + 2) 9) N := by
  rw [upd_comm (by omega)]
  exact (h.boat hp (Or.inr (Or.inr (Or.inr rfl))) (Or.inr rfl)).lose hp (upd_at _ _ _)
theorem OkR.okW {R : Nat → Int32} {N p q v : Nat} (h : OkR R N) (hp : p < N) (hq : q < N) (hv : v < 4) : OkR (ovW R p q (n2 v)) N := by
  have h8 := h.2.1
  have h1 := h.how (j := 8 * q + p) (by omega) hv
  rw [← Nat.add_assoc] at h1
  unfold ovW
  split
  · exact h1
  · exact h1.boat hq (Or.inr (Or.inr (Or.inr rfl))) (Or.inr rfl)
theorem ovR_ok {R : Nat → Int32} {N : Nat} (h : OkR R N) (b : Nat) : OkR (ovR N R b) N ∧ ovR N R b 3 = R 3 ∧ ∀ k, 100 ≤ k → ovR N R b k = R k := by
  have h8 := h.2.1
  unfold ovR
  have hF : ∀ p, falV R N (n2 b) (ssN R) = some p → p < N := fun p hp => (falV_ok hp).1
  generalize falV R N (n2 b) (ssN R) = a at hF
  cases a with
  | none => exact ⟨h, rfl, fun k _ => rfl⟩
  | some p =>
    have hp := hF p rfl
    show OkR (ovS R p (savV R N p (ssN R))) N ∧ ovS R p (savV R N p (ssN R)) 3 = R 3 ∧ ∀ k, 100 ≤ k → ovS R p (savV R N p (ssN R)) k = R k
    have hS : ∀ q, savV R N p (ssN R) = some q → q < N := fun q hq => (savV_ok hq).1
    generalize savV R N p (ssN R) = a at hS
    cases a with
    | none =>
      refine ⟨h.overb hp, ?_, fun k hk => ?_⟩
      · show upd (upd R (4 + 4 * p + 3) 1) (4 + 4 * p + 2) 9 3 = R 3
        rw [upd_ne (by omega), upd_ne (by omega)]
      · show upd (upd R (4 + 4 * p + 3) 1) (4 + 4 * p + 2) 9 k = R k
        rw [upd_ne (by omega), upd_ne (by omega)]
    | some q =>
      have hq := hS q rfl
      refine ⟨h.okW hp hq (savN_lt _), ?_, fun k hk => ?_⟩
      · show ovW R p q _ 3 = R 3
        unfold ovW
        split
        · rw [upd_ne (by omega)]
        · rw [upd_ne (by omega), upd_ne (by omega)]
      · show ovW R p q _ k = R k
        unfold ovW
        split
        · rw [upd_ne (by omega)]
        · rw [upd_ne (by omega), upd_ne (by omega)]
section MOV
variable {r N : Nat} {σ : Mem}
theorem m_ovB {p q : Nat} (x : Int32) (hp : p < 8) (hq : q < 8) (v : Int32) : p_X12_overboard_B89 r x (n2 p) (n2 q) (n2 (36 + 8 * q + p)) v σ = some ((), ms σ r (ovW (σ r) p q v)) := by
  unfold p_X12_overboard_B89 ovW
  simp (disch := omega) only [n2_nat, iin, wr, m_mayIn _ hp hq, bnd_some, b2z, mu_ms, ms_at, m_of2, ms_ms]
  split <;> rfl
theorem m_overboard (b : Nat) (h : OkR (σ r) N) : p_X12_overboard r (n2 b) σ = some ((), ms σ r (ovR N (σ r) b)) := by
  have h8 := h.2.1
  have hs := ssN_eq h
  unfold p_X12_overboard
  simp (disch := omega) only [ii3, lt, c3, hs.1, m_fallsIn (n2 b) h hs.2, bnd_some]
  unfold ovR
  have hF : ∀ p, falV (σ r) N (n2 b) (ssN (σ r)) = some p → p < N ∧ bt (σ r) p = n2 b := fun p hp => ⟨(falV_ok hp).1, (falV_ok hp).2.1⟩
  generalize falV (σ r) N (n2 b) (ssN (σ r)) = a at hF ⊢
  cases a with
  | none =>
    show some ((), σ) = some ((), ms σ r (σ r))
    rw [ms_self]
  | some p =>
    obtain ⟨hp, hb⟩ := hF p rfl
    have hsv := m_saverOf h hp hs.2
    rw [hb] at hsv
    have hS : ∀ q, savV (σ r) N p (ssN (σ r)) = some q → q < N ∧ riskN (σ r) p (ssN (σ r)) ≤ reachN (σ r) q := fun q hq => ⟨(savV_ok hq).1, (savV_ok hq).2.2.2⟩
    simp (disch := omega) only [oe_some, ige0, hsv, bnd_some, ovF]
    generalize savV (σ r) N p (ssN (σ r)) = a at hS ⊢
    cases a with
    | none =>
      rw [if_neg (show ¬ (0 : Int32) ≤ oe none by decide)]
      simp (disch := omega) only [m_of3, m_of2, bnd_some, n2_nat, iin, wr, mu_ms, ms_at, ms_ms, ovS]
    | some q =>
      obtain ⟨hq, hr⟩ := hS q rfl
      have r1 := reach_le h hq
      have r2 : riskN (σ r) p (ssN (σ r)) ≤ 9 := rkN_le
      simp (disch := omega) only [oe_some, ige0, ii3, lt, c3, hs.1, m_reachN h hq, m_riskN h hp hs.2, bnd_some, m_by, n2_sub, ilt3, ilt1, m_ovB _ (show p < 8 by omega) (show q < 8 by omega), ovS, savN]
      by_cases h3 : reachN (σ r) q - riskN (σ r) p (ssN (σ r)) < 3
      · simp only [if_pos h3]
        by_cases h1 : reachN (σ r) q - riskN (σ r) p (ssN (σ r)) < 1
        · simp only [if_pos h1]
          try rfl
        · simp only [if_neg h1]
          try rfl
      · simp only [if_neg h3]
        try rfl
end MOV
section XOV
variable {c N : Nat} {σ : Mem} {R : Nat → Int32}
theorem CL3.lose {p : Nat} (hc : isC c) (h : CL3 σ c N R) (hp : p < N) (hb : bt R p = 9) : CL3 (mu σ c 6 (n2 (lostV R N) ||| ((1 : Int32) <<< (n2 p &&& 31)))) c N (upd R (4 + 4 * p + 3) 1) := by
  have h8 := h.le8
  have hR := h.2.1.lose hp hb
  obtain ⟨hc1, hc3⟩ := hc
  obtain ⟨⟨a1, a2, a3, a4, a5, a6, a7, a8⟩, -, hl⟩ := h
  have o1 : mu σ c 6 (n2 (lostV R N) ||| ((1 : Int32) <<< (n2 p &&& 31))) (24 + c) = σ (24 + c) := mu_off (by omega)
  have o2 : mu σ c 6 (n2 (lostV R N) ||| ((1 : Int32) <<< (n2 p &&& 31))) (27 + c) = σ (27 + c) := mu_off (by omega)
  have o3 : mu σ c 6 (n2 (lostV R N) ||| ((1 : Int32) <<< (n2 p &&& 31))) (30 + c) = σ (30 + c) := mu_off (by omega)
  have o4 : mu σ c 6 (n2 (lostV R N) ||| ((1 : Int32) <<< (n2 p &&& 31))) (33 + c) = σ (33 + c) := mu_off (by omega)
  refine ⟨⟨hR.1, a2, ?_, fun q hq => ?_, fun q hq => ?_, ?_, ?_, ?_⟩, hR, ?_⟩
  · rw [mu_ne (by omega)]
    exact a3
  · unfold kd fg bt
    rw [o1, o2, o3, upd_ne (by omega), upd_ne (by omega), upd_ne (by omega)]
    exact a4 q hq
  · rw [o4, upd_ne (by omega)]
    exact a5 q hq
  · rw [mu_ne (by omega), upd_ne (by omega)]
    exact a6
  · rw [mu_ne (by omega), upd_ne (by omega)]
    exact a7
  · rw [mu_ne (by omega), upd_ne (by omega)]
    exact a8
  · rw [mu_at, lost_upd hp, n2_shl p (by omega), n2_or]
theorem x_ovB {p q v : Nat} (hc : isC c) (h : CL3 σ c N R) (hp : p < N) (hq : q < N) (hv : v < 4) : Tm (p_X3_goesOverboard_B88 c (n2 p) (n2 q) (n2 (8 * q + p)) (n2 v) σ) (fun _ s => CL3 s c N (ovW R p q (n2 v)) ∧ FrC c σ s) := by
  have h8 := h.le8
  have h1 := h.how hc (j := 8 * q + p) (by omega) hv
  rw [← Nat.add_assoc] at h1
  have hf : FrC c σ (mu σ (33 + c) (8 * q + p) (n2 v)) := (FrC.rf c σ).w (Or.inr (Or.inr (Or.inr (Or.inr rfl))))
  have hL := lawN_eq h1.2.1
  unfold p_X3_goesOverboard_B88 ovW
  simp (disch := omega) only [n2_nat, iin, wr, lt, h1.lawq, h1.agreeq hc hq hp hL.2, bnd_some, b2z]
  rw [may_sym, ← hL.1]
  by_cases hm : mayV (upd R (36 + 8 * q + p) (n2 v)) p q (upd R (36 + 8 * q + p) (n2 v) 1) = true
  · rw [if_pos hm, if_pos hm]
    exact Tm.ret ⟨h1, hf⟩
  · rw [if_neg hm, if_neg hm]
    exact Tm.ret ⟨h1.boat hc hq (Or.inr (Or.inr (Or.inr rfl))) (Or.inr rfl), hf.w (Or.inr (Or.inr (Or.inr (Or.inl rfl))))⟩
theorem x_goes {p : Nat} (hc : isC c) (h : CL3 σ c N R) (hp : p < N) : Tm (p_X3_goesOverboard c (n2 p) (oe (savV R N p (ssN R))) σ) (fun _ s => CL3 s c N (ovS R p (savV R N p (ssN R))) ∧ FrC c σ s) := by
  have h8 := h.le8
  have hs := ssN_eq h.2.1
  have hS : ∀ q, savV R N p (ssN R) = some q → q < N ∧ riskN R p (ssN R) ≤ reachN R q := fun q hq => ⟨(savV_ok hq).1, (savV_ok hq).2.2.2⟩
  generalize savV R N p (ssN R) = a at hS ⊢
  unfold p_X3_goesOverboard
  cases a with
  | none =>
    rw [if_neg (show ¬ (0 : Int32) ≤ oe none by decide)]
    simp (disch := omega) only [lt, wr, h.lostq, n2_nat, iin, ovS]
    refine Tm.ret ⟨?_, ((FrC.rf c σ).w (Or.inl rfl)).w (Or.inr (Or.inr (Or.inr (Or.inl rfl))))⟩
    have e : lostV (upd R (4 + 4 * p + 2) 9) N = lostV R N := lost_congr (fun q _ => by unfold lo; rw [upd_ne (by omega)])
    have h1 := (h.boat hc hp (v := 9) (Or.inr (Or.inr (Or.inr rfl))) (Or.inr rfl)).lose hc hp (upd_at _ _ _)
    rw [e] at h1
    rw [mu_comm (by unfold isC at hc; omega), upd_comm (by omega)]
    exact h1
  | some q =>
    obtain ⟨hq, hr⟩ := hS q rfl
    have r1 := reach_le h.2.1 hq
    have r2 : riskN R p (ssN R) ≤ 9 := rkN_le
    simp (disch := omega) only [oe_some, ige0, h.kindq hq, h.kindq hp, h.figq hq, h.figq hp, h.reachq hc hq, h.riskq hc hp hs.2, h.ssq, lt, bnd_some, n2_nat, iin, n2_sub, ilt3, ilt1, how_n2, ovS, savN]
    by_cases h3 : reachN R q - riskN R p (ssN R) < 3
    · simp only [if_pos h3]
      by_cases h1 : reachN R q - riskN R p (ssN R) < 1
      · simp only [if_pos h1]
        exact x_ovB hc h hp hq (v := 1) (by omega)
      · simp only [if_neg h1]
        exact x_ovB hc h hp hq (v := 2) (by omega)
    · simp only [if_neg h3]
      exact x_ovB hc h hp hq (v := 3) (by omega)
end XOV
