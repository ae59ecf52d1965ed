/-! a row over another one -/
def cpyM (a b : Nat) : Nat → Nat → Mem → Mem
  | 0, _, σ => σ
  | t + 1, p, σ => cpyM a b t (p + 1) (mu σ b p (σ a p))
theorem m_copiesL {a b : Nat} : ∀ (t p f : Nat) (σ : Mem), p + t = 100 → t < f → p_X12_copies_L2 a b f (n2 p) σ = some ((), cpyM a b t p σ) := by
  intro t
  induction t with
  | zero =>
    intro p f σ hp hf
    obtain ⟨f, rfl⟩ : ∃ g, f = g + 1 := ⟨f - 1, by omega⟩
    show p_X12_copies_B2 (p_X12_copies_L2 a b f) a b (n2 p) σ = _
    unfold p_X12_copies_B2
    rw [show (if (100 : Int32) ≤ n2 p then _ else _) = _ from ile_t (a := 100) (b := p) ⟨by omega, by omega⟩]
    rfl
  | succ t ih =>
    intro p f σ hp hf
    obtain ⟨f, rfl⟩ : ∃ g, f = g + 1 := ⟨f - 1, by omega⟩
    show p_X12_copies_B2 (p_X12_copies_L2 a b f) a b (n2 p) σ = _
    unfold p_X12_copies_B2
    rw [show (if (100 : Int32) ≤ n2 p then _ else _) = _ from ile_f (a := 100) (b := p) ⟨by omega, by omega⟩]
    simp (disch := omega) only [n2_nat, iin, lt, wr, n2_succ]
    exact ih _ _ _ (by omega) (by omega)
theorem cpyM_off {a b : Nat} : ∀ (t p : Nat) (σ : Mem) (o : Nat), o ≠ b → cpyM a b t p σ o = σ o := by
  intro t
  induction t with
  | zero => intro p σ o h; rfl
  | succ t ih =>
    intro p σ o h
    show cpyM a b t (p + 1) (mu σ b p (σ a p)) o = _
    rw [ih _ _ _ h, mu_off h]
theorem cpyM_at {a b : Nat} (hab : a ≠ b) : ∀ (t p : Nat) (σ : Mem) (k : Nat), cpyM a b t p σ b k = if p ≤ k ∧ k < p + t then σ a k else σ b k := by
  intro t
  induction t with
  | zero =>
    intro p σ k
    rw [if_neg (by omega)]
    rfl
  | succ t ih =>
    intro p σ k
    show cpyM a b t (p + 1) (mu σ b p (σ a p)) b k = _
    rw [ih, mu_off hab]
    by_cases h : k = p
    · subst h
      rw [if_neg (by omega), if_pos (by omega), mu_at]
    · rw [mu_ne (Or.inr h)]
      by_cases h2 : p + 1 ≤ k ∧ k < p + 1 + t
      · rw [if_pos h2, if_pos (by omega)]
      · rw [if_neg h2, if_neg (by omega)]
theorem m_copies {a b : Nat} (hab : a ≠ b) (σ : Mem) : ∃ σ', p_X12_copies a b σ = some ((), σ') ∧ (∀ o, o ≠ b → σ' o = σ o) ∧ ∀ k, k < 100 → σ' b k = σ a k :=
  ⟨cpyM a b 100 0 σ, m_copiesL 100 0 1000 σ (by omega) (by omega), fun o h => cpyM_off 100 0 σ o h, fun k hk => by rw [cpyM_at hab, if_pos (by omega)]⟩
theorem OkR.congr {R R' : Nat → Int32} {N : Nat} (h : OkR R N) (e : ∀ k, k < 100 → R' k = R k) : OkR R' N := by
  obtain ⟨a1, a2, a3, a4, a5, a6, a7⟩ := h
  refine ⟨by rw [e 0 (by omega)]; exact a1, a2, fun p hp => ?_, fun q hq => by rw [e _ (by omega)]; exact a4 q hq, by rw [e 1 (by omega)]; exact a5, by rw [e 2 (by omega)]; exact a6, by rw [e 3 (by omega)]; exact a7⟩
  have h := a3 p hp
  unfold kd fg bt lo at h ⊢
  rw [e _ (by omega), e _ (by omega), e _ (by omega), e _ (by omega)]
  exact h
theorem CL3.congr {σ : Mem} {c N : Nat} {R R' : Nat → Int32} (h : CL3 σ c N R) (e : ∀ k, k < 100 → R' k = R k) : CL3 σ c N R' := by
  have hR := h.2.1.congr e
  obtain ⟨⟨a1, a2, a3, a4, a5, a6, a7, a8⟩, -, hl⟩ := h
  refine ⟨⟨hR.1, a2, a3, fun p hp => ?_, fun q hq => by rw [e _ (by omega)]; exact a5 q hq, by rw [e 1 (by omega)]; exact a6, by rw [e 2 (by omega)]; exact a7, by rw [e 3 (by omega)]; exact a8⟩, hR, ?_⟩
  · have h := a4 p hp
    unfold kd fg bt at h ⊢
    rw [e _ (by omega), e _ (by omega), e _ (by omega)]
    exact h
  · rw [hl, lost_congr (fun p hp => ?_)]
    unfold lo
    rw [e _ (by omega)]
