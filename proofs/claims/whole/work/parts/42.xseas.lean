theorem ltE {α β : Type} (e : α) (K : α → β) : lt e K = K e := by
  have h : ∀ x, x = e → lt x K = K e := fun x hx => by rw [hx]; rfl
  exact h e rfl
theorem wrE {β : Type} (σ : Mem) (o k : Nat) (v : Int32) (K : Mem → β) : wr σ o k v K = K (mu σ o k v) := by
  have h : ∀ x, x = v → wr σ o k x K = K (mu σ o k v) := fun x hx => by rw [hx]; rfl
  exact h v rfl
theorem bndE {α β : Type} (v : α) (σ : Mem) (K : α → Mem → Option β) : bnd (some (v, σ)) K = K v σ := by
  have h : ∀ x, x = v → bnd (some (x, σ)) K = K v σ := fun x hx => by rw [hx]; rfl
  exact h v rfl
theorem fo_succ {α : Type} (f : Nat → α → α) (t p : Nat) (a : α) : fo f (t + 1) p a = fo f t (p + 1) (f p a) := rfl
section XSEA
variable {c N n s : Nat} {σ : Mem} {R : Nat → Int32}
theorem CL3.ss (hc : isC c) (h : CL3 σ c N R) (hs : s < 2000) : CL3 (mu σ c 9 (n2 s)) c N (upd R 3 (n2 s)) := by
  have hR := h.2.1.ss hs
  obtain ⟨hc1, hc3⟩ := hc
  obtain ⟨⟨a1, a2, a3, a4, a5, a6, a7, a8⟩, -, hl⟩ := h
  have o1 : mu σ c 9 (n2 s) (24 + c) = σ (24 + c) := mu_off (by omega)
  have o2 : mu σ c 9 (n2 s) (27 + c) = σ (27 + c) := mu_off (by omega)
  have o3 : mu σ c 9 (n2 s) (30 + c) = σ (30 + c) := mu_off (by omega)
  have o4 : mu σ c 9 (n2 s) (33 + c) = σ (33 + c) := mu_off (by omega)
  refine ⟨⟨hR.1, a2, ?_, fun q hq => ?_, fun q hq => ?_, ?_, ?_, ?_⟩, hR, ?_⟩
  · rw [mu_ne (by omega)]
    exact a3
  · unfold kd fg bt
    rw [o1, o2, o3, upd_ne (by omega), upd_ne (by omega), upd_ne (by omega)]
    exact a4 q hq
  · rw [o4, upd_ne (by omega)]
    exact a5 q hq
  · rw [mu_ne (by omega), upd_ne (by omega)]
    exact a6
  · rw [mu_ne (by omega), upd_ne (by omega)]
    exact a7
  · rw [mu_at, upd_at]
  · rw [mu_ne (by omega), hl, lost_congr (fun p hp => ?_)]
    unfold lo
    rw [upd_ne (by omega)]
theorem x_boats (hc : isC c) (h : CL3 σ c N R) {k : Int32 → Mem → Option (Unit × Mem)} {x1 x2 : Int32} {Q : Unit → Mem → Prop} (hk : ∀ s, CL3 s c N (boR N R) → FrC c σ s → Tm (k x2 s) Q) : Tm (p_X3_sails_L19 k c x1 1000 x2 0 σ) Q := by
  refine lpT (L := fun g p (_ : Nat → Int32) τ => p_X3_sails_L19 k c x1 g x2 (n2 p) τ) (N := 3) (fun p a τ => CL3 τ c N a ∧ FrC c σ τ ∧ fo (fun b a => ovR N a b) (3 - p) p a = boR N R) (fun g p a τ hp hI hK => ?_) (fun g a τ hI => ?_) 3 0 R σ 1000 (by omega) (by omega) ⟨h, FrC.rf c σ, rfl⟩
  · obtain ⟨h1, h2, h3⟩ := hI
    have h8 := h1.le8
    have hs := ssN_eq h1.2.1
    show Tm (p_X3_sails_B19 (p_X3_sails_L19 k c x1 g) k c x1 x2 (n2 p) τ) Q
    unfold p_X3_sails_B19 p_X3_sails_B56
    rw [show (if (3 : Int32) ≤ n2 p then _ else _) = _ from ile_f (a := 3) (b := p) ⟨by omega, by omega⟩]
    simp only [lt, h1.ssq, x_faller (n2 p) hc h1 hs.2, bnd_some, n2_succ]
    have hF : ∀ p', falV a N (n2 p) (ssN a) = some p' → p' < N ∧ 0 < riskN a p' (ssN a) := fun p' hp => ⟨(falV_ok hp).1, (falV_ok hp).2.2.1⟩
    have e3 : fo (fun b a => ovR N a b) (3 - (p + 1)) (p + 1) (ovR N a p) = boR N R := by
      rw [← h3, show 3 - p = (3 - (p + 1)) + 1 by omega, fo_succ]
    unfold ovR at e3
    generalize falV a N (n2 p) (ssN a) = f at hF e3 ⊢
    cases f with
    | none =>
      rw [if_pos (show oe none < 0 by decide)]
      exact hK _ _ ⟨h1, h2, e3⟩
    | some p' =>
      obtain ⟨hp', hr⟩ := hF p' rfl
      simp (disch := omega) only [oe_some, ilt0, x_saver hc h1 hp' hs.2 hr, bnd_some]
      exact Tm.bd (x_goes hc h1 hp') (fun _ τ' hq => hK _ _ ⟨hq.1, h2.tr hq.2, e3⟩)
  · obtain ⟨h1, h2, h3⟩ := hI
    show Tm (p_X3_sails_B19 (p_X3_sails_L19 k c x1 g) k c x1 x2 (n2 3) τ) Q
    unfold p_X3_sails_B19
    rw [show (if (3 : Int32) ≤ n2 3 then _ else _) = _ from ile_t (a := 3) (b := 3) ⟨by omega, by omega⟩]
    have e : a = boR N R := h3
    exact hk τ (by rw [← e]; exact h1) h2
theorem x_sails (hc : isC c) (h : CL3 σ c N R) (h3 : R 3 = n2 s) (hs : s + n < 2000) (hn : n < 1000) : Tm (p_X3_sails c (n2 n) σ) (fun _ s => CL3 s c N (seR N n R) ∧ FrC c σ s) := by
  unfold p_X3_sails
  show Tm (p_X3_sails_L2 c (n2 n) 1000 (n2 0) σ) _
  refine lpT (L := fun g p (_ : Nat → Int32) τ => p_X3_sails_L2 c (n2 n) g (n2 p) τ) (N := n) (fun p a τ => CL3 τ c N a ∧ FrC c σ τ ∧ a 3 = n2 (s + p) ∧ fo (fun _ a => se1 N a) (n - p) p a = seR N n R) (fun g p a τ hp hI hK => ?_) (fun g a τ hI => ?_) n 0 R σ 1000 (by omega) (by omega) ⟨h, FrC.rf c σ, h3, rfl⟩
  · obtain ⟨h1, h2, h5, h4⟩ := hI
    show Tm (p_X3_sails_B2 (p_X3_sails_L2 c (n2 n) g) c (n2 n) (n2 p) τ) _
    unfold p_X3_sails_B2
    rw [ile_f ⟨by omega, by omega⟩]
    have e9 : τ c 9 = n2 (s + p) := h1.1.2.2.2.2.2.2.2.trans h5
    simp only [ltE, wrE, e9, n2_succ]
    have h6 := h1.ss hc (s := s + p + 1) (by omega)
    refine x_boats hc h6 (fun τ' hq hf => ?_)
    rw [n2_succ]
    have e : boR N (upd a 3 (n2 (s + p + 1))) = se1 N a := by
      unfold se1
      rw [h5, n2_succ]
    rw [e] at hq
    refine hK _ _ ⟨hq, (h2.w (Or.inl rfl)).tr hf, (se1_ok h1.2.1 h5 (by omega)).2.1, ?_⟩
    rw [← h4, show n - p = (n - (p + 1)) + 1 by omega, fo_succ]
  · obtain ⟨h1, h2, h5, h4⟩ := hI
    show Tm (p_X3_sails_B2 (p_X3_sails_L2 c (n2 n) g) c (n2 n) (n2 n) τ) _
    unfold p_X3_sails_B2
    rw [ile_t ⟨by omega, by omega⟩]
    rw [Nat.sub_self] at h4
    have e : a = seR N n R := h4
    exact Tm.ret ⟨by rw [← e]; exact h1, h2⟩
end XSEA
