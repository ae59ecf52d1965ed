/-! the model runs them -/
def FrK (τ s : Mem) : Prop := (∀ o, o ≠ 65 → o ≠ 66 → o ≠ 69 → o ≠ 70 → s o = τ o) ∧ s 65 4 = τ 65 4
theorem FrK.rf (τ : Mem) : FrK τ τ := ⟨fun _ _ _ _ _ => rfl, rfl⟩
theorem FrK.tr {a b c : Mem} (h1 : FrK a b) (h2 : FrK b c) : FrK a c := ⟨fun o x y z w => (h2.1 o x y z w).trans (h1.1 o x y z w), h2.2.trans h1.2⟩
theorem FrK.R {a b : Mem} (h : FrR a b) : FrK a b := ⟨fun o x _ _ w => h.1 o x w, h.2 4 (by decide)⟩
theorem FrK.six {a b : Mem} (h : Fr66 a b) : FrK a b := ⟨fun o _ y _ _ => h o y, by rw [h 65 (by decide)]⟩
theorem FrK.row {a : Mem} {o : Nat} {f : Nat → Int32} (ho : o = 66 ∨ o = 69) : FrK a (ms a o f) := ⟨fun q _ y z _ => ms_ne (by omega), by rw [ms_ne (by omega)]⟩
theorem FrK.sl {a : Mem} {k : Nat} {v : Int32} (hk : k ≠ 4) : FrK a (mu a 65 k v) := ⟨fun q y _ _ _ => mu_off y, mu_ne (Or.inr (fun e => hk e.symm))⟩
theorem fl_1 : ∀ f < 300, ¬ ((-1000 : Int32) - n2 f = 0) := by decide +kernel
theorem fl_2 : ∀ f < 300, ¬ ((-2000 : Int32) - n2 f = 0) := by decide +kernel
def PoMd (τ : Mem) (B : Nat → Int32) (x3 : Int32) : Option ((Nat → Int32) × Nat) × Nat → Int32 → Mem → Prop
  | (none, a), r, s => r = -2000 - n2 a ∧ FrK τ s ∧ s 66 = B
  | (some q, _), r, s => r = x3 ∧ FrK τ s ∧ s 66 = q.1 ∧ OkS q.1 q.2 B
theorem PoMd.from {τ τ' : Mem} {B : Nat → Int32} {x3 r : Int32} {s : Mem} {o : Option ((Nat → Int32) × Nat) × Nat} (hf : FrK τ τ') (h : PoMd τ' B x3 o r s) : PoMd τ B x3 o r s := by
  obtain ⟨o, a⟩ := o
  cases o with
  | none => exact ⟨h.1, hf.tr h.2.1, h.2.2⟩
  | some q => exact ⟨h.1, hf.tr h.2.1, h.2.2⟩
theorem flt_le {E : Nat → Int32} {n a f : Nat} (h : flt E n a = some f) : f ≤ a + 5 := by
  have hnd := ndA_le E n a
  unfold flt at h
  by_cases h0 : ndA E n a = 0
  · rw [if_pos h0] at h
    cases h
    omega
  · rw [if_neg h0] at h
    cases hf : fdg E n (ndA E n a) (a + 1) with
    | some f' =>
      rw [hf] at h
      cases h
      have := fdg_ge hf
      omega
    | none =>
      rw [hf] at h
      have h : flE E n (a + ndA E n a + 1) = some f := h
      unfold flE at h
      by_cases q : a + ndA E n a + 1 < n ∧ bcd (E (a + ndA E n a + 1)) = 59
      · rw [if_pos q] at h
        cases h
      · rw [if_neg q] at h
        cases h
        omega
section MRUN
variable {σ : Mem} {d n C : Nat} {E B : Nat → Int32} {x1 : Int32}
theorem m_run (hd : d < 8) (hE : ∀ j, j < 100 → By (E j) (bcd (E j))) (hn : n ≤ 100) (x3 : Int32) : ∀ t a c g R N s, TxM s d n E a → s 66 = R → (∀ k, k < 100 → s 69 k = B k) → OkS R N B → prs E n t a c = (none, C) → n ≤ a + 3 * t → a ≤ 105 → t + 1 < g → Tm (p_X12_cape_L93 (p_X12_cape_B161 x1) x1 g x3 0 s) (PoMd s B x3 (runC E n t a R N)) := by
  have stop : ∀ t a g R N s, TxM s d n E a → s 66 = R → OkS R N B → n ≤ a → a ≤ 105 → 0 < g → Tm (p_X12_cape_L93 (p_X12_cape_B161 x1) x1 g x3 0 s) (PoMd s B x3 (runC E n t a R N)) := by
    intro t a g R N s hT e66 hO h ha hg
    obtain ⟨g, rfl⟩ : ∃ k, g = k + 1 := ⟨g - 1, by omega⟩
    show Tm (p_X12_cape_B93 (p_X12_cape_L93 (p_X12_cape_B161 x1) x1 g) (p_X12_cape_B161 x1) x1 x3 0 s) _
    unfold p_X12_cape_B93
    rw [if_pos rfl, ltE, ltE, hT.1, hT.2.2.1, ile_t ⟨by omega, by omega⟩, run_end h]
    unfold p_X12_cape_B161
    rw [if_pos rfl]
    exact Tm.ret ⟨rfl, FrK.rf s, e66, hO⟩
  intro t
  induction t with
  | zero =>
    intro a c g R N s hT e66 e69 hO hp hna ha hg
    exact stop 0 a g R N s hT e66 hO (by omega) ha (by omega)
  | succ t ih =>
    intro a c g R N s hT e66 e69 hO hp hna ha hg
    by_cases h : n ≤ a
    · exact stop (t + 1) a g R N s hT e66 hO h ha (by omega)
    obtain ⟨g, rfl⟩ : ∃ k, g = k + 1 := ⟨g - 1, by omega⟩
    obtain ⟨hfl, hp'⟩ := prs_go h hp
    have hnd := ndA_le E n a
    have hnz := (flt_none hfl).2.1
    show Tm (p_X12_cape_B93 (p_X12_cape_L93 (p_X12_cape_B161 x1) x1 g) (p_X12_cape_B161 x1) x1 x3 0 s) _
    unfold p_X12_cape_B93
    rw [if_pos rfl, ltE, ltE, hT.1, hT.2.2.1, ile_f ⟨by omega, by omega⟩, ltE, m_here hd hn hE hT (by omega), bndE, if_pos (show a < n by omega)]
    refine (m_reads hd hn hE hT (by omega)).bd (fun r s8 hx => ?_)
    rw [hfl] at hx
    obtain ⟨-, hf, h5, hnum⟩ := hx
    have e66' : s8 66 = R := (hf.1 66 (by decide) (by decide)).trans e66
    refine (m_isDone hO.1 e66' hO.2.1 (hE a (by omega)).1 hfl hnum).bd (fun r s11 hx => ?_)
    cases ho : obV R N E a with
    | none =>
      rw [ho] at hx
      obtain ⟨rfl, h6, h100⟩ := hx
      obtain ⟨g, rfl⟩ : ∃ k, g = k + 1 := ⟨g - 1, by omega⟩
      rw [if_pos rfl, m_copy (by decide), bndE, run_no h ho]
      show Tm (p_X12_cape_B93 (p_X12_cape_L93 (p_X12_cape_B161 x1) x1 g) (p_X12_cape_B161 x1) x1 x3 (-2000 - n2 a) _) _
      unfold p_X12_cape_B93 p_X12_cape_B161
      rw [if_neg (fl_2 a (by omega)), if_neg (fl_2 a (by omega))]
      refine Tm.ret ⟨rfl, ((FrK.R hf).tr (FrK.six h6)).tr (FrK.row (Or.inl rfl)), ?_⟩
      rw [ms_at]
      funext k
      by_cases hk : k < 100
      · rw [cpr_lt hk, h6 69 (by decide), hf.1 69 (by decide) (by decide)]
        exact e69 k hk
      · rw [cpr_ge (by omega), h100 k (by omega)]
        exact hO.2.2 k (by omega)
    | some q =>
      rw [ho] at hx
      obtain ⟨rfl, h6, eq⟩ := hx
      rw [if_neg (by decide), run_go h ho]
      have hf2 : FrK s s11 := (FrK.R hf).tr (FrK.six h6)
      have hT2 : TxM s11 d n E (a + ndA E n a + 2) := by
        have hT8 := hT.to hf h5
        have e65 := h6 65 (by decide)
        have e78 := h6 78 (by decide)
        unfold TxM at hT8 ⊢
        rw [e65, e78]
        exact hT8
      refine (ih (a + ndA E n a + 2) (c + 1) g q.1 q.2 s11 hT2 eq ?_ (obV_ok hO hfl ho) hp' (by omega) (by omega) (by omega)).mono (fun r s' hq => hq.from hf2)
      intro k hk
      rw [h6 69 (by decide), hf.1 69 (by decide) (by decide)]
      exact e69 k hk
theorem m_parse {Q : Int32 → Mem → Prop} (k77 : Int32 → Int32 → Mem → Option (Int32 × Mem)) (hd : d < 8) (hE : ∀ j, j < 100 → By (E j) (bcd (E j))) (hn : n ≤ 100) : ∀ t a c g s, TxM s d n E a → a < n → n ≤ a + 3 * t → t < g → (∀ f c', prs E n t a c = (some f, c') → ∀ v s', FrR s s' → Tm (k77 v (-1000 - n2 f) s') Q) → (∀ c', prs E n t a c = (none, c') → ∀ s', FrR s s' → Tm (k77 (n2 c') 0 s') Q) → Tm (p_X12_cape_L41 k77 x1 g (n2 c) 0 s) Q := by
  intro t
  induction t with
  | zero => intro a c g s hT ha hna; omega
  | succ t ih =>
    intro a c g s hT ha hna hg hS hO
    obtain ⟨g, rfl⟩ : ∃ k, g = k + 1 := ⟨g - 1, by omega⟩
    have hnd := ndA_le E n a
    show Tm (p_X12_cape_B41 (p_X12_cape_L41 k77 x1 g) k77 x1 (n2 c) 0 s) Q
    unfold p_X12_cape_B41
    refine (m_reads hd hn hE hT (by omega)).bd (fun r s8 hx => ?_)
    cases hfl : flt E n a with
    | some f =>
      rw [hfl] at hx
      obtain ⟨rfl, hf, h5⟩ := hx
      have hfb := flt_le hfl
      unfold p_X12_cape_B58
      rw [if_pos rfl, ltE, h5, if_neg (fl_1 f (by omega))]
      exact hS f c (by rw [prs, if_neg (by omega), hfl]) _ s8 hf
    | none =>
      rw [hfl] at hx
      obtain ⟨rfl, hf, h5, -⟩ := hx
      have hnz := (flt_none hfl).2.1
      have hT2 := hT.to hf h5
      have ep : prs E n (t + 1) a c = prs E n t (a + ndA E n a + 2) (c + 1) := by rw [prs, if_neg (by omega), hfl]
      unfold p_X12_cape_B58
      rw [if_neg (by decide), if_pos rfl, ltE, ltE, h5, hT2.2.2.1, n2_succ, iltq ⟨by omega, by omega⟩]
      by_cases h : a + ndA E n a + 2 < n
      · rw [if_pos h]
        exact ih (a + ndA E n a + 2) (c + 1) g s8 hT2 h (by omega) (by omega) (fun f c' e v s' h' => hS f c' (ep.trans e) v s' (hf.tr h')) (fun c' e s' h' => hO c' (ep.trans e) s' (hf.tr h'))
      · rw [if_neg h]
        refine hO (c + 1) (ep.trans ?_) s8 hf
        cases t with
        | zero => rfl
        | succ t => rw [prs, if_pos (by omega)]
end MRUN
