/-! ifs over small numbers -/
theorem ieq {α : Type} {a b : Nat} {A B : α} (h : a < 2147483648 ∧ b < 2147483648) : (if n2 a = n2 b then A else B) = if a = b then A else B := by
  by_cases e : a = b
  · rw [if_pos e, if_pos (by rw [e])]
  · rw [if_neg e, if_neg (fun q => e ((n2_inj h.1 h.2).mp q))]
theorem ieq0 {α : Type} {a : Nat} {A B : α} (h : a < 2147483648) : (if n2 a = 0 then A else B) = if a = 0 then A else B := ieq (b := 0) ⟨h, by omega⟩
theorem ileq {α : Type} {a b : Nat} {A B : α} (h : a < 2147483648 ∧ b < 2147483648) : (if n2 a ≤ n2 b then A else B) = if a ≤ b then A else B := by
  by_cases e : a ≤ b
  · rw [if_pos e, if_pos ((n2_le h.1 h.2).mpr e)]
  · rw [if_neg e, if_neg (fun q => e ((n2_le h.1 h.2).mp q))]
theorem iltq {α : Type} {a b : Nat} {A B : α} (h : a < 2147483648 ∧ b < 2147483648) : (if n2 a < n2 b then A else B) = if a < b then A else B := by
  by_cases e : a < b
  · rw [if_pos e, if_pos ((n2_lt h.1 h.2).mpr e)]
  · rw [if_neg e, if_neg (fun q => e ((n2_lt h.1 h.2).mp q))]
theorem ige0 {α : Type} {a : Nat} {A B : α} (h : a < 2147483648) : (if (0 : Int32) ≤ n2 a then A else B) = A := ile_t (a := 0) (b := a) ⟨by omega, h⟩
theorem ilt0 {α : Type} {a : Nat} {A B : α} (h : a < 2147483648) : (if n2 a < 0 then A else B) = B := ilt_f (a := a) (b := 0) ⟨by omega, h⟩
theorem ile0 {α : Type} {a : Nat} {A B : α} (h : a < 2147483648) : (if n2 a ≤ 0 then A else B) = if a = 0 then A else B := by
  rw [show (if n2 a ≤ 0 then A else B) = if a ≤ 0 then A else B from ileq (b := 0) ⟨h, by omega⟩]
  by_cases e : a = 0
  · rw [if_pos e, if_pos (by omega)]
  · rw [if_neg e, if_neg (by omega)]
/-! who falls -/
def oe : Option Nat → Int32
  | none => -4
  | some p => n2 p
def fSt (R : Nat → Int32) (b : Int32) (s p : Nat) : Option Nat → Option Nat
  | none => if bt R p = b then some p else none
  | some q => if bt R p = b then (if riskN R q s < riskN R p s then some p else some q) else some q
def falF (R : Nat → Int32) (N : Nat) (b : Int32) (s : Nat) : Option Nat := fo (fSt R b s) N 0 none
def falG (R : Nat → Int32) (s : Nat) : Option Nat → Option Nat
  | none => none
  | some q => if 0 < riskN R q s ∧ seaN R ≤ riskN R q s then some q else none
def falV (R : Nat → Int32) (N : Nat) (b : Int32) (s : Nat) : Option Nat := falG R s (falF R N b s)
def okO (R : Nat → Int32) (b : Int32) (p : Nat) (a : Option Nat) : Prop := ∀ q, a = some q → q < p ∧ bt R q = b
theorem fSt_ok {R : Nat → Int32} {b : Int32} {s p : Nat} {a : Option Nat} (h : okO R b p a) : okO R b (p + 1) (fSt R b s p a) := by
  intro q hq
  cases a with
  | none =>
    simp only [fSt] at hq
    split at hq
    · rename_i hb
      cases hq
      exact ⟨by omega, hb⟩
    · cases hq
  | some x =>
    have hx := h x rfl
    simp only [fSt] at hq
    split at hq
    · rename_i hb
      split at hq
      · cases hq
        exact ⟨by omega, hb⟩
      · cases hq
        exact ⟨by omega, hx.2⟩
    · cases hq
      exact ⟨by omega, hx.2⟩
theorem falF_ok (R : Nat → Int32) (N : Nat) (b : Int32) (s : Nat) : okO R b N (falF R N b s) := fo_inv (fun p a => okO R b p a) (fun p a _ h => fSt_ok h) N 0 none (by omega) (fun q hq => by cases hq)
theorem falV_ok {R : Nat → Int32} {N p s : Nat} {b : Int32} (h : falV R N b s = some p) : p < N ∧ bt R p = b ∧ 0 < riskN R p s ∧ seaN R ≤ riskN R p s := by
  unfold falV at h
  have h2 := falF_ok R N b s
  generalize falF R N b s = a at h h2
  cases a with
  | none => cases h
  | some q =>
    simp only [falG] at h
    split at h
    · rename_i hq
      cases h
      have h3 := h2 p rfl
      exact ⟨h3.1, h3.2, hq.1, hq.2⟩
    · cases h
theorem crew_bit {R : Nat → Int32} {N p : Nat} {b : Int32} (hp : p < N) : (crewV R N b).testBit p = decide (bt R p = b) := by
  unfold crewV
  rw [set_bit, decide_eq_true hp]
  rfl
theorem crew_lt {R : Nat → Int32} {N : Nat} {b : Int32} (h : N ≤ 8) : crewV R N b < 256 := set_lt h
section MFALL
variable {r N s : Nat} {σ : Mem}
theorem m_falL (b : Int32) (h : OkR (σ r) N) (hs : s < 2000) (k : Int32 → Mem → Option (Int32 × Mem)) : p_X12_fallsIn_L13 k r b (n2 s) 1000 (n2 (crewV (σ r) N b)) (-4) 0 σ = k (oe (falF (σ r) N b s)) σ := by
  have h8 := h.2.1
  have hC := crew_lt (R := σ r) (b := b) h8
  refine lp (L := fun g p a => p_X12_fallsIn_L13 k r b (n2 s) g (n2 (crewV (σ r) N b)) (oe a) (n2 p) σ) (f := fSt (σ r) b s) (fin := fun a => k (oe a) σ) (N := N) (okO (σ r) b) (fun p a _ h => fSt_ok h) (fun g p a hp hI => ?_) (fun g a _ => ?_) N 0 none 1000 (by omega) (by omega) (fun q hq => by cases hq)
  · show p_X12_fallsIn_B13 (p_X12_fallsIn_L13 k r b (n2 s) g) k r b (n2 s) (n2 (crewV (σ r) N b)) (oe a) (n2 p) σ = _
    unfold p_X12_fallsIn_B13 p_X12_fallsIn_B52 p_X12_fallsIn_B56
    have r1 : riskN (σ r) p s ≤ 9 := rkN_le
    simp (disch := omega) only [ii0, lt, c0, h.1, ile_f, m_has σ hC (show p < 8 by omega), bnd_some, b2z, crew_bit hp, decide_eq_true_eq, n2_succ]
    by_cases hb : bt (σ r) p = b
    · simp only [if_pos hb]
      cases a with
      | none =>
        rw [if_pos (show oe none < 0 by decide)]
        simp only [fSt, if_pos hb]
        try rfl
      | some q =>
        have hq := (hI q rfl).1
        have r2 : riskN (σ r) q s ≤ 9 := rkN_le
        simp (disch := omega) only [oe, ilt0, m_riskN h hp hs, m_riskN h (show q < N by omega) hs, bnd_some, ileq, fSt, if_pos hb]
        by_cases hr : riskN (σ r) p s ≤ riskN (σ r) q s
        · rw [if_pos hr, if_neg (by omega)]
          try rfl
        · rw [if_neg hr, if_pos (by omega)]
          try rfl
    · simp only [if_neg hb]
      cases a with
      | none => simp only [fSt, if_neg hb]
      | some q => simp only [fSt, if_neg hb]
  · show p_X12_fallsIn_B13 (p_X12_fallsIn_L13 k r b (n2 s) g) k r b (n2 s) (n2 (crewV (σ r) N b)) (oe a) (n2 N) σ = _
    unfold p_X12_fallsIn_B13
    simp (disch := omega) only [ii0, lt, c0, h.1, ile_t]
theorem m_fallsIn (b : Int32) (h : OkR (σ r) N) (hs : s < 2000) : p_X12_fallsIn r b (n2 s) σ = some (oe (falV (σ r) N b s), σ) := by
  have h8 := h.2.1
  unfold p_X12_fallsIn
  rw [m_crewV h.1 h8, bnd_some, m_falL b h hs]
  unfold falV
  have hO := falF_ok (σ r) N b s
  generalize falF (σ r) N b s = a at hO ⊢
  cases a with
  | none => rfl
  | some q =>
    have hq := (hO q rfl).1
    have r2 : riskN (σ r) q s ≤ 9 := rkN_le
    have v2 := seaN_eq h
    simp (disch := omega) only [oe, ige0, m_riskN h hq hs, bnd_some, ile0, ii2, lt, c2, v2.1, iltq, falG]
    by_cases h1 : riskN (σ r) q s = 0
    · rw [if_pos h1, if_neg (by omega)]
      try rfl
    · rw [if_neg h1]
      by_cases h2 : riskN (σ r) q s < seaN (σ r)
      · rw [if_pos h2, if_neg (by omega)]
        try rfl
      · rw [if_neg h2, if_pos (by omega)]
        try rfl
end MFALL
section XFALL
variable {c N s : Nat} {σ : Mem} {R : Nat → Int32}
def whF (R : Nat → Int32) (s : Nat) : Option Nat → Option Nat
  | none => none
  | some q => if 0 < riskN R q s then some q else none
def moF (R : Nat → Int32) (s : Nat) : Option Nat → Nat
  | none => 0
  | some q => riskN R q s
theorem moF_le (R : Nat → Int32) (s : Nat) (a : Option Nat) : moF R s a ≤ 9 := by
  cases a with
  | none => exact Nat.zero_le _
  | some q => exact rkN_le
theorem x_falL (b : Int32) (hc : isC c) (h : CL3 σ c N R) (hs : s < 2000) (k : Int32 → Int32 → Mem → Option (Int32 × Mem)) : p_X3_faller_L9 k c b (n2 s) 1000 (-4) 0 0 σ = k (oe (whF R s (falF R N b s))) (n2 (moF R s (falF R N b s))) σ := by
  have h8 := h.le8
  refine lp (L := fun g p a => p_X3_faller_L9 k c b (n2 s) g (oe (whF R s a)) (n2 (moF R s a)) (n2 p) σ) (f := fSt R b s) (fin := fun a => k (oe (whF R s a)) (n2 (moF R s a)) σ) (N := N) (fun _ _ => True) (fun _ _ _ _ => trivial) (fun g p a hp _ => ?_) (fun g a _ => ?_) N 0 none 1000 (by omega) (by omega) trivial
  · show p_X3_faller_B9 (p_X3_faller_L9 k c b (n2 s) g) k c b (n2 s) (oe (whF R s a)) (n2 (moF R s a)) (n2 p) σ = _
    unfold p_X3_faller_B9 p_X3_faller_B62
    have r1 : riskN R p s ≤ 9 := rkN_le
    have r2 := moF_le R s a
    simp (disch := omega) only [lt, h.sizeq, ile_f, n2_nat, iin, h.btq hp, h.kindq hp, h.figq hp, h.riskq hc hp hs, bnd_some, ileq, n2_succ]
    by_cases hb : bt R p = b
    · simp only [if_pos hb]
      cases a with
      | none =>
        have e : fSt R b s p none = some p := by
          simp only [fSt, if_pos hb]
        rw [e]
        by_cases hz : riskN R p s ≤ 0
        · rw [if_pos (show riskN R p s ≤ moF R s none from hz)]
          simp only [whF, moF]
          rw [if_neg (by omega), show riskN R p s = 0 by omega]
        · rw [if_neg (show ¬ riskN R p s ≤ moF R s none from hz)]
          simp only [whF, moF]
          rw [if_pos (by omega)]
          try rfl
      | some q =>
        by_cases hz : riskN R p s ≤ riskN R q s
        · have e : fSt R b s p (some q) = some q := by
            simp only [fSt, if_pos hb, if_neg (show ¬ riskN R q s < riskN R p s by omega)]
          rw [e, if_pos (show riskN R p s ≤ moF R s (some q) from hz)]
        · have e : fSt R b s p (some q) = some p := by
            simp only [fSt, if_pos hb, if_pos (show riskN R q s < riskN R p s by omega)]
          rw [e, if_neg (show ¬ riskN R p s ≤ moF R s (some q) from hz)]
          simp only [whF, moF]
          rw [if_pos (show 0 < riskN R p s by omega)]
          try rfl
    · simp only [if_neg hb]
      have e : fSt R b s p a = a := by
        cases a with
        | none =>
          simp only [fSt, if_neg hb]
        | some q =>
          simp only [fSt, if_neg hb]
      rw [e]
  · show p_X3_faller_B9 (p_X3_faller_L9 k c b (n2 s) g) k c b (n2 s) (oe (whF R s a)) (n2 (moF R s a)) (n2 N) σ = _
    unfold p_X3_faller_B9
    simp (disch := omega) only [lt, h.sizeq, ile_t]
theorem x_faller (b : Int32) (hc : isC c) (h : CL3 σ c N R) (hs : s < 2000) : p_X3_faller c b (n2 s) σ = some (oe (falV R N b s), σ) := by
  unfold p_X3_faller
  rw [x_falL b hc h hs]
  unfold falV
  have hO := falF_ok R N b s
  generalize falF R N b s = a at hO ⊢
  have v2 := (seaN_eq h.2.1).2
  have r2 := moF_le R s a
  simp (disch := omega) only [lt, h.seaq, iltq]
  cases a with
  | none =>
    simp only [falG, whF]
    split <;> rfl
  | some q =>
    by_cases h2 : riskN R q s < seaN R
    · rw [if_pos (show moF R s (some q) < seaN R from h2)]
      simp only [falG]
      rw [if_neg (by omega)]
      try rfl
    · rw [if_neg (show ¬ moF R s (some q) < seaN R from h2)]
      simp only [falG, whF]
      by_cases h3 : 0 < riskN R q s
      · rw [if_pos h3, if_pos (by omega)]
      · rw [if_neg h3, if_neg (by omega)]
end XFALL
/-! who saves him -/
def sSt (R : Nat → Int32) (p0 : Nat) (b : Int32) (q : Nat) : Option Nat → Option Nat
  | none => if q = p0 then none else if bt R q = b then some q else none
  | some x => if q = p0 then some x else if bt R q = b then (if reachN R x < reachN R q then some q else some x) else some x
def savF (R : Nat → Int32) (N p0 : Nat) : Option Nat := fo (sSt R p0 (bt R p0)) N 0 none
def savG (R : Nat → Int32) (p0 s : Nat) : Option Nat → Option Nat
  | none => none
  | some q => if riskN R p0 s ≤ reachN R q then some q else none
def savV (R : Nat → Int32) (N p0 s : Nat) : Option Nat := savG R p0 s (savF R N p0)
def okS (R : Nat → Int32) (p0 : Nat) (b : Int32) (p : Nat) (a : Option Nat) : Prop := ∀ q, a = some q → q < p ∧ bt R q = b ∧ q ≠ p0
theorem sSt_ok {R : Nat → Int32} {b : Int32} {p0 p : Nat} {a : Option Nat} (h : okS R p0 b p a) : okS R p0 b (p + 1) (sSt R p0 b p a) := by
  intro q hq
  cases a with
  | none =>
    simp only [sSt] at hq
    split at hq
    · cases hq
    · rename_i hn
      split at hq
      · rename_i hb
        cases hq
        exact ⟨by omega, hb, hn⟩
      · cases hq
  | some x =>
    have hx := h x rfl
    simp only [sSt] at hq
    split at hq
    · cases hq
      exact ⟨by omega, hx.2⟩
    · rename_i hn
      split at hq
      · rename_i hb
        split at hq
        · cases hq
          exact ⟨by omega, hb, hn⟩
        · cases hq
          exact ⟨by omega, hx.2⟩
      · cases hq
        exact ⟨by omega, hx.2⟩
theorem savF_ok (R : Nat → Int32) (N p0 : Nat) : okS R p0 (bt R p0) N (savF R N p0) := fo_inv (fun p a => okS R p0 (bt R p0) p a) (fun p a _ h => sSt_ok h) N 0 none (by omega) (fun q hq => by cases hq)
theorem savV_ok {R : Nat → Int32} {N p0 q s : Nat} (h : savV R N p0 s = some q) : q < N ∧ bt R q = bt R p0 ∧ q ≠ p0 ∧ riskN R p0 s ≤ reachN R q := by
  unfold savV at h
  have h2 := savF_ok R N p0
  generalize savF R N p0 = a at h h2
  cases a with
  | none => cases h
  | some x =>
    simp only [savG] at h
    split at h
    · rename_i hq
      cases h
      have h3 := h2 q rfl
      exact ⟨h3.1, h3.2.1, h3.2.2, hq⟩
    · cases h
theorem reach_le {R : Nat → Int32} {N p : Nat} (h : OkR R N) (hp : p < N) : reachN R p ≤ 9 := rcN_le (fn_eq h hp).2
section MSAVE
variable {r N s p0 : Nat} {σ : Mem}
theorem m_savL (h : OkR (σ r) N) (hp0 : p0 < N) (v : Int32) (k : Int32 → Mem → Option (Int32 × Mem)) : p_X12_saverOf_L14 k r (bt (σ r) p0) (n2 p0) v 1000 (n2 (crewV (σ r) N (bt (σ r) p0))) (-4) 0 σ = k (oe (savF (σ r) N p0)) σ := by
  have h8 := h.2.1
  have hC := crew_lt (R := σ r) (b := bt (σ r) p0) h8
  refine lp (L := fun g p a => p_X12_saverOf_L14 k r (bt (σ r) p0) (n2 p0) v g (n2 (crewV (σ r) N (bt (σ r) p0))) (oe a) (n2 p) σ) (f := sSt (σ r) p0 (bt (σ r) p0)) (fin := fun a => k (oe a) σ) (N := N) (okS (σ r) p0 (bt (σ r) p0)) (fun p a _ h => sSt_ok h) (fun g p a hp hI => ?_) (fun g a _ => ?_) N 0 none 1000 (by omega) (by omega) (fun q hq => by cases hq)
  · show p_X12_saverOf_B14 (p_X12_saverOf_L14 k r (bt (σ r) p0) (n2 p0) v g) k r (bt (σ r) p0) (n2 p0) v (n2 (crewV (σ r) N (bt (σ r) p0))) (oe a) (n2 p) σ = _
    unfold p_X12_saverOf_B14 p_X12_saverOf_B58 p_X12_saverOf_B62
    have r1 := reach_le h hp
    simp (disch := omega) only [ii0, lt, c0, h.1, ile_f, ieq, m_has σ hC (show p < 8 by omega), bnd_some, b2z, crew_bit hp, decide_eq_true_eq, n2_succ]
    by_cases he : p = p0
    · simp only [if_pos he]
      cases a with
      | none => simp only [sSt, if_pos he]
      | some q => simp only [sSt, if_pos he]
    · simp only [if_neg he]
      by_cases hb : bt (σ r) p = bt (σ r) p0
      · simp only [if_pos hb]
        cases a with
        | none =>
          rw [if_pos (show oe none < 0 by decide)]
          simp only [sSt, if_neg he, if_pos hb]
          try rfl
        | some q =>
          have hq := (hI q rfl).1
          have r2 := reach_le h (show q < N by omega)
          simp (disch := omega) only [oe, ilt0, m_reachN h hp, m_reachN h (show q < N by omega), bnd_some, ileq, sSt, if_neg he, if_pos hb]
          by_cases hr : reachN (σ r) p ≤ reachN (σ r) q
          · rw [if_pos hr, if_neg (by omega)]
            try rfl
          · rw [if_neg hr, if_pos (by omega)]
            try rfl
      · simp only [if_neg hb]
        cases a with
        | none => simp only [sSt, if_neg he, if_neg hb]
        | some q => simp only [sSt, if_neg he, if_neg hb]
  · show p_X12_saverOf_B14 (p_X12_saverOf_L14 k r (bt (σ r) p0) (n2 p0) v g) k r (bt (σ r) p0) (n2 p0) v (n2 (crewV (σ r) N (bt (σ r) p0))) (oe a) (n2 N) σ = _
    unfold p_X12_saverOf_B14
    simp (disch := omega) only [ii0, lt, c0, h.1, ile_t]
theorem m_saverOf (h : OkR (σ r) N) (hp0 : p0 < N) (hs : s < 2000) : p_X12_saverOf r (bt (σ r) p0) (n2 p0) (n2 s) σ = some (oe (savV (σ r) N p0 s), σ) := by
  have h8 := h.2.1
  unfold p_X12_saverOf
  rw [m_crewV h.1 h8, bnd_some, m_savL h hp0]
  unfold savV
  have hO := savF_ok (σ r) N p0
  generalize savF (σ r) N p0 = a at hO ⊢
  cases a with
  | none => rfl
  | some q =>
    have hq := (hO q rfl).1
    have r1 := reach_le h hq
    have r2 : riskN (σ r) p0 s ≤ 9 := rkN_le
    simp (disch := omega) only [oe, ilt0, m_reachN h hq, m_riskN h hp0 hs, bnd_some, iltq, savG]
    by_cases h1 : reachN (σ r) q < riskN (σ r) p0 s
    · rw [if_pos h1, if_neg (by omega)]
      try rfl
    · rw [if_neg h1, if_pos (by omega)]
      try rfl
end MSAVE
section XSAVE
variable {c N s p0 : Nat} {σ : Mem} {R : Nat → Int32}
def whS (R : Nat → Int32) (p0 s : Nat) : Option Nat → Option Nat
  | none => none
  | some q => if riskN R p0 s ≤ reachN R q then some q else none
def moS (R : Nat → Int32) (p0 s : Nat) : Option Nat → Nat
  | none => riskN R p0 s - 1
  | some q => if riskN R p0 s ≤ reachN R q then reachN R q else riskN R p0 s - 1
theorem x_saver (hc : isC c) (h : CL3 σ c N R) (hp0 : p0 < N) (hs : s < 2000) (hr : 0 < riskN R p0 s) : p_X3_saver c (n2 p0) (n2 s) σ = some (oe (savV R N p0 s), σ) := by
  have h8 := h.le8
  have r0 : riskN R p0 s ≤ 9 := rkN_le
  have e1 : n2 (riskN R p0 s) - 1 = n2 (riskN R p0 s - 1) := n2_sub (b := 1) hr (by omega)
  have key : p_X3_saver_L25 c (n2 p0) (n2 s) 1000 (-4) (n2 (riskN R p0 s - 1)) 0 σ = some (oe (savV R N p0 s), σ) := by
    refine lp (L := fun g p a => p_X3_saver_L25 c (n2 p0) (n2 s) g (oe (whS R p0 s a)) (n2 (moS R p0 s a)) (n2 p) σ) (f := sSt R p0 (bt R p0)) (fin := fun a => some (oe (whS R p0 s a), σ)) (N := N) (okS R p0 (bt R p0)) (fun p a _ h => sSt_ok h) (fun g p a hp hI => ?_) (fun g a _ => ?_) N 0 none 1000 (by omega) (by omega) (fun q hq => by cases hq)
    · show p_X3_saver_B25 (p_X3_saver_L25 c (n2 p0) (n2 s) g) c (n2 p0) (n2 s) (oe (whS R p0 s a)) (n2 (moS R p0 s a)) (n2 p) σ = _
      unfold p_X3_saver_B25 p_X3_saver_B88
      have r1 := reach_le h.2.1 hp
      have r2 : moS R p0 s a ≤ 9 := by
        cases a with
        | none =>
          show riskN R p0 s - 1 ≤ 9
          omega
        | some q =>
          have hq := (hI q rfl).1
          have r3 := reach_le h.2.1 (show q < N by omega)
          simp only [moS]
          split <;> omega
      simp (disch := omega) only [lt, h.sizeq, ile_f, ieq, n2_nat, iin, h.btq hp, h.btq hp0, h.kindq hp, h.figq hp, h.reachq hc hp, bnd_some, ileq, n2_succ]
      by_cases he : p = p0
      · simp only [if_pos he]
        have e : sSt R p0 (bt R p0) p a = a := by cases a <;> simp only [sSt, if_pos he]
        rw [e]
      · simp only [if_neg he]
        by_cases hb : bt R p = bt R p0
        · simp only [if_pos hb]
          cases a with
          | none =>
            have e : sSt R p0 (bt R p0) p none = some p := by simp only [sSt, if_neg he, if_pos hb]
            rw [e]
            by_cases hz : riskN R p0 s ≤ reachN R p
            · rw [if_neg (show ¬ reachN R p ≤ moS R p0 s none by show ¬ reachN R p ≤ riskN R p0 s - 1; omega)]
              simp only [whS, moS, if_pos hz]
              try rfl
            · rw [if_pos (show reachN R p ≤ moS R p0 s none by show reachN R p ≤ riskN R p0 s - 1; omega)]
              simp only [whS, moS, if_neg hz]
          | some q =>
            have hq := (hI q rfl).1
            by_cases hx : reachN R q < reachN R p
            · have e : sSt R p0 (bt R p0) p (some q) = some p := by simp only [sSt, if_neg he, if_pos hb, if_pos hx]
              rw [e]
              by_cases hz : riskN R p0 s ≤ reachN R p
              · rw [if_neg (show ¬ reachN R p ≤ moS R p0 s (some q) by simp only [moS]; split <;> omega)]
                simp only [whS, moS, if_pos hz]
                try rfl
              · rw [if_pos (show reachN R p ≤ moS R p0 s (some q) by simp only [moS]; split <;> omega)]
                simp only [whS, moS, if_neg hz, if_neg (show ¬ riskN R p0 s ≤ reachN R q by omega)]
            · have e : sSt R p0 (bt R p0) p (some q) = some q := by simp only [sSt, if_neg he, if_pos hb, if_neg hx]
              rw [e, if_pos (by simp only [moS]; split <;> omega)]
        · simp only [if_neg hb]
          have e : sSt R p0 (bt R p0) p a = a := by cases a <;> simp only [sSt, if_neg he, if_neg hb]
          rw [e]
    · show p_X3_saver_B25 (p_X3_saver_L25 c (n2 p0) (n2 s) g) c (n2 p0) (n2 s) (oe (whS R p0 s a)) (n2 (moS R p0 s a)) (n2 N) σ = _
      unfold p_X3_saver_B25
      simp (disch := omega) only [lt, h.sizeq, ile_t]
  unfold p_X3_saver
  simp (disch := omega) only [h.kindq hp0, bnd_some, n2_nat, iin, lt, h.figq hp0, h.riskq hc hp0 hs, e1]
  exact key
end XSAVE
