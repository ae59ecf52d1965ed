/-! one more in mind -/
theorem upd_upd (R : Nat → Int32) (i : Nat) (v w : Int32) : upd (upd R i v) i w = upd R i w := by
  funext k
  by_cases h : k = i
  · subst h
    rw [upd_at, upd_at]
  · rw [upd_ne h, upd_ne h, upd_ne h]
theorem add_boat (R : Nat → Int32) (N k f : Nat) (b : Int32) : upd (addR R N k f 9) (4 + 4 * N + 2) b = addR R N k f b := by
  unfold addR
  rw [upd_comm (by omega), upd_comm (i := 4 + 4 * N + 3) (by omega), upd_upd]
theorem ile8 {α : Type} {a : Nat} {A B : α} (h : a < 2147483648) : (if (8 : Int32) ≤ n2 a then A else B) = if 8 ≤ a then A else B := ileq (a := 8) ⟨by omega, h⟩
def hirV (N n f : Nat) (A : Nat → Int32) (b : Int32) (k : Nat) : Nat := pop (lostV (seR (N + 1) n (addR A N k f b)) (N + 1))
def hirF (N n f : Nat) (A : Nat → Int32) (b : Int32) (k : Nat) : Option (Nat × Nat) → Option (Nat × Nat)
  | none => some (k, hirV N n f A b k)
  | some a => if hirV N n f A b k < a.2 then some (k, hirV N n f A b k) else some a
def hX1 : Option (Nat × Nat) → Int32
  | none => -4
  | some a => n2 a.1
def hX2 : Option (Nat × Nat) → Nat
  | none => 9
  | some a => a.2
def hM1 : Option (Nat × Nat) → Nat
  | none => 0
  | some a => a.1
def hM2 : Option (Nat × Nat) → Nat
  | none => 1000000000
  | some a => a.2
def okH (k : Nat) : Option (Nat × Nat) → Prop
  | none => k = 0
  | some a => a.1 < 8 ∧ a.2 ≤ 8
theorem hir_ok {N n f k : Nat} {A : Nat → Int32} {b : Int32} {a : Option (Nat × Nat)} (hk : k < 8) (h : okH k a) : okH (k + 1) (hirF N n f A b k a) := by
  cases a with
  | none => exact ⟨hk, pop_le _⟩
  | some a =>
    simp only [hirF]
    split
    · exact ⟨hk, pop_le _⟩
    · exact h
theorem hir_x {N n f k : Nat} {A : Nat → Int32} {b : Int32} {a : Option (Nat × Nat)} (h : okH k a) : (hirV N n f A b k < hX2 a → hX1 (hirF N n f A b k a) = n2 k ∧ hX2 (hirF N n f A b k a) = hirV N n f A b k) ∧ (¬ hirV N n f A b k < hX2 a → hX1 (hirF N n f A b k a) = hX1 a ∧ hX2 (hirF N n f A b k a) = hX2 a) := by
  cases a with
  | none =>
    refine ⟨fun _ => ⟨rfl, rfl⟩, fun h2 => absurd ?_ h2⟩
    show hirV N n f A b k < 9
    have := pop_le (lostV (seR (N + 1) n (addR A N k f b)) (N + 1))
    unfold hirV
    omega
  | some a =>
    refine ⟨fun h2 => ?_, fun h2 => ?_⟩
    · simp only [hirF]
      rw [if_pos (show hirV N n f A b k < a.2 from h2)]
      exact ⟨rfl, rfl⟩
    · simp only [hirF]
      rw [if_neg (show ¬ hirV N n f A b k < a.2 from h2)]
      exact ⟨rfl, rfl⟩
theorem hir_m {N n f k : Nat} {A : Nat → Int32} {b : Int32} {a : Option (Nat × Nat)} (h : okH k a) : (hirV N n f A b k < hM2 a → hM1 (hirF N n f A b k a) = k ∧ hM2 (hirF N n f A b k a) = hirV N n f A b k) ∧ (¬ hirV N n f A b k < hM2 a → hM1 (hirF N n f A b k a) = hM1 a ∧ hM2 (hirF N n f A b k a) = hM2 a) := by
  cases a with
  | none =>
    refine ⟨fun _ => ⟨rfl, rfl⟩, fun h2 => absurd ?_ h2⟩
    show hirV N n f A b k < 1000000000
    have := pop_le (lostV (seR (N + 1) n (addR A N k f b)) (N + 1))
    unfold hirV
    omega
  | some a =>
    refine ⟨fun h2 => ?_, fun h2 => ?_⟩
    · simp only [hirF]
      rw [if_pos (show hirV N n f A b k < a.2 from h2)]
      exact ⟨rfl, rfl⟩
    · simp only [hirF]
      rw [if_neg (show ¬ hirV N n f A b k < a.2 from h2)]
      exact ⟨rfl, rfl⟩
theorem hM2_le {k : Nat} {a : Option (Nat × Nat)} (h : okH k a) : hM2 a ≤ 1000000000 := by
  cases a with
  | none => exact Nat.le_refl _
  | some a =>
    have h2 : a.2 ≤ 8 := h.2
    show a.2 ≤ _
    omega
theorem hX2_le {k : Nat} {a : Option (Nat × Nat)} (h : okH k a) : hX2 a ≤ 9 := by
  cases a with
  | none => exact Nat.le_refl _
  | some a =>
    have h2 : a.2 ≤ 8 := h.2
    show a.2 ≤ _
    omega
theorem st_hire : St3 Inv p_X11_hire p_X12_hire := by
  intro b f n σ hI
  obtain ⟨N, t, hL, hA, h3, hA3, ht⟩ := getI hI
  have h8 := hL.le8
  cases hb : inV b 0 2
  · refine st_read hI (r := (-1 : Int32)) ?_ ?_
    · unfold p_X11_hire
      simp only [x_isBoat, bndE, b2z, hb]
      rfl
    · unfold p_X12_hire
      simp only [m_isBoat, bndE, b2z, hb]
      rfl
  cases hf : inV f 0 9
  · refine st_read hI (r := (-1 : Int32)) ?_ ?_
    · unfold p_X11_hire
      simp only [x_isBoat, bndE, b2z, hb, if_true, x_within, hf]
      rfl
    · unfold p_X12_hire
      simp only [m_isBoat, bndE, b2z, hb, if_true, m_isIn, hf]
      rfl
  cases hn : inV n 0 60
  · refine st_read hI (r := (-1 : Int32)) ?_ ?_
    · unfold p_X11_hire
      simp only [x_isBoat, bndE, b2z, hb, if_true, x_within, hf, hn]
      rfl
    · unfold p_X12_hire
      simp only [m_isBoat, bndE, b2z, hb, if_true, m_isIn, hf, hn]
      rfl
  obtain ⟨n, hn60, rfl⟩ := n2_60 hn
  obtain ⟨f, hf10, rfl⟩ := in9 hf
  have hb4 : b = 0 ∨ b = 1 ∨ b = 2 ∨ b = 9 := boat_in hb
  by_cases hN : N < 8
  · have hO : ∀ k, k < 8 → OkR (addR (mnd σ) N k f b) (N + 1) := fun k hk => hA.2.1.add hN hk hf10 hb4
    have hO3 : ∀ k, addR (mnd σ) N k f b 3 = n2 t := fun k => (add_ne (by omega) (by omega)).trans hA3
    generalize hw : fo (hirF N n f (mnd σ) b) 8 0 none = w
    have hwo : ∃ a, w = some a := by
      have h := fo_inv (f := hirF N n f (mnd σ) b) (N := 8) (fun k a => okH k a) (fun k a hk h => hir_ok hk h) 8 0 none (by omega) rfl
      rw [hw] at h
      cases w with
      | none => exact absurd (show (8 : Nat) = 0 from h) (by decide)
      | some a => exact ⟨a, rfl⟩
    obtain ⟨wa, rfl⟩ := hwo
    refine st_scr hI (r := n2 wa.1) ?_ (fun s hX => ?_)
    · unfold p_X11_hire
      simp only [x_isBoat, bndE, b2z, hb, if_true, x_within, hf, hn]
      show Tm (p_X11_hire_L40 b (n2 f) (n2 n) 1000 (hX1 none) (n2 (hX2 none)) (n2 0) σ) _
      refine lpT (L := fun g p (a : Option (Nat × Nat)) τ => p_X11_hire_L40 b (n2 f) (n2 n) g (hX1 a) (n2 (hX2 a)) (n2 p) τ) (N := 8) (fun p a τ => FrC 3 σ τ ∧ okH p a ∧ fo (hirF N n f (mnd σ) b) (8 - p) p a = some wa) (fun g p a τ hp hI hK => ?_) (fun g a τ hI => ?_) 8 0 none σ 1000 (by omega) (by omega) ⟨FrC.rf 3 σ, rfl, hw⟩
      · obtain ⟨hfr, ha, he⟩ := hI
        rw [fo_step hp] at he
        show Tm (p_X11_hire_B40 (p_X11_hire_L40 b (n2 f) (n2 n) g) b (n2 f) (n2 n) (hX1 a) (n2 (hX2 a)) (n2 p) τ) _
        unfold p_X11_hire_B40 p_X11_hire_B122
        rw [ile8 (by omega), if_neg (by omega)]
        refine (x_mind hA hfr).bd (fun _ s1 h1 => ?_)
        rw [x_adds isC3 h1.1 hp hf10, if_pos hN, bndE, ige0 (by omega), wrE]
        simp (disch := omega) only [n2_nat, iin]
        have hA2 := h1.1.add isC3 hN hp hf10
        have h2 : CL3 (mu (addM 3 s1 N p f) 33 N b) 3 (N + 1) (addR (mnd σ) N p f b) := by
          rw [← add_boat]
          exact hA2.1.boat isC3 (by omega) hb4 (Or.inl add_lo)
        have hf2 : FrC 3 σ (mu (addM 3 s1 N p f) 33 N b) := (h1.2.tr hA2.2).w (Or.inr (Or.inr (Or.inr (Or.inl rfl))))
        refine (x_sails isC3 h2 (hO3 p) (by omega) (by omega)).bd (fun _ s2 q => ?_)
        have p1 : hirV N n f (mnd σ) b p ≤ 8 := pop_le _
        have p2 := hX2_le ha
        have hlo : p_X3_lostOnes 3 s2 = some (n2 (hirV N n f (mnd σ) b p), s2) := q.1.lostOnesq
        simp (disch := omega) only [hlo, bndE, ileq, n2_succ]
        obtain ⟨g1, g2⟩ := hir_x (N := N) (n := n) (f := f) (A := mnd σ) (b := b) ha
        by_cases hc : hirV N n f (mnd σ) b p < hX2 a
        · rw [if_neg (by omega)]
          have hk := hK (hirF N n f (mnd σ) b p a) s2 ⟨hf2.tr q.2, hir_ok hp ha, he⟩
          rw [(g1 hc).1, (g1 hc).2] at hk
          exact hk
        · rw [if_pos (by omega)]
          have hk := hK (hirF N n f (mnd σ) b p a) s2 ⟨hf2.tr q.2, hir_ok hp ha, he⟩
          rw [(g2 hc).1, (g2 hc).2] at hk
          exact hk
      · obtain ⟨hfr, ha, he⟩ := hI
        show Tm (p_X11_hire_B40 (p_X11_hire_L40 b (n2 f) (n2 n) g) b (n2 f) (n2 n) (hX1 a) (n2 (hX2 a)) (n2 8) τ) _
        unfold p_X11_hire_B40
        rw [ile8 (by omega), if_pos (by omega)]
        rw [fo_end] at he
        have he : a = some wa := he
        exact Tm.ret ⟨by rw [he]; rfl, hfr.X⟩
    · have e0 : s 66 0 = n2 N := by rw [hX 66 (by decide)]; exact hL.2.1.1
      have en8 : ¬ n2 N = 8 := fun e => by have := (n2_inj (a := N) (b := 8) (by omega) (by omega)).mp e; omega
      unfold p_X12_hire
      simp (disch := omega) only [m_isBoat, bndE, b2z, hb, if_true, m_isIn, hf, hn, ii0, c0, ltE, e0, if_neg en8]
      refine Tm.eq (congrArg (p_X12_hire_L53 b (n2 f) (n2 n) 1000 (n2 (hM1 none)) (n2 (hM2 none)) (n2 0)) (ms_self s 67).symm) ?_
      refine lpT (L := fun g p (a : Option (Nat × Nat) × (Nat → Int32)) τ => p_X12_hire_L53 b (n2 f) (n2 n) g (n2 (hM1 a.1)) (n2 (hM2 a.1)) (n2 p) τ) (N := 8) (fun p a τ => τ = ms s 67 a.2 ∧ (∀ k, 100 ≤ k → a.2 k = mnd σ k) ∧ okH p a.1 ∧ fo (hirF N n f (mnd σ) b) (8 - p) p a.1 = some wa) (fun g p a τ hp hI hK => ?_) (fun g a τ hI => ?_) 8 0 (none, s 67) _ 1000 (by omega) (by omega) ⟨rfl, fun k hk => by rw [hX 67 (by decide)]; exact (cpr_ge hk).symm, rfl, hw⟩
      · obtain ⟨a, B⟩ := a
        obtain ⟨rfl, hB, ha, he⟩ := hI
        have ha : okH p a := ha
        rw [fo_step hp] at he
        show Tm (p_X12_hire_B53 (p_X12_hire_L53 b (n2 f) (n2 n) g) b (n2 f) (n2 n) (n2 (hM1 a)) (n2 (hM2 a)) (n2 p) (ms s 67 B)) _
        unfold p_X12_hire_B53 p_X12_hire_B107
        rw [ile8 (by omega), if_neg (by omega), m_mind2 hX hB, bndE]
        have hm := m_adds (σ := ms s 67 (mnd σ)) (r := 67) (N := N) (k := p) (f := f) b (by rw [ms_at]; exact hA.2.1.1) hN
        rw [ms_at, ms_ms] at hm
        have hlb : p_X12_lostBehind (n2 n) (ms s 67 (addR (mnd σ) N p f b)) = some (n2 (hirV N n f (mnd σ) b p), ms s 67 (seR (N + 1) n (addR (mnd σ) N p f b))) := m_lostBehind (hO p hp) (hO3 p) (show t + n < 2000 by omega) (show n < 1000 by omega)
        have p1 : hirV N n f (mnd σ) b p ≤ 8 := pop_le _
        have p2 := hM2_le ha
        simp (disch := omega) only [hm, bndE, hlb, iltq, n2_succ]
        obtain ⟨g1, g2⟩ := hir_m (N := N) (n := n) (f := f) (A := mnd σ) (b := b) ha
        have hBn : ∀ k, 100 ≤ k → seR (N + 1) n (addR (mnd σ) N p f b) k = mnd σ k := fun k hk => ((seR_ok (n := n) (hO p hp) (hO3 p) (by omega)).2.2 k hk).trans (add_ne (by omega) (by omega))
        by_cases hc : hirV N n f (mnd σ) b p < hM2 a
        · rw [if_pos hc]
          have hk := hK (hirF N n f (mnd σ) b p a, seR (N + 1) n (addR (mnd σ) N p f b)) _ ⟨rfl, hBn, hir_ok hp ha, he⟩
          simp only [(g1 hc).1, (g1 hc).2] at hk
          exact hk
        · rw [if_neg hc]
          have hk := hK (hirF N n f (mnd σ) b p a, seR (N + 1) n (addR (mnd σ) N p f b)) _ ⟨rfl, hBn, hir_ok hp ha, he⟩
          simp only [(g2 hc).1, (g2 hc).2] at hk
          exact hk
      · obtain ⟨a, B⟩ := a
        obtain ⟨rfl, hB, ha, he⟩ := hI
        show Tm (p_X12_hire_B53 (p_X12_hire_L53 b (n2 f) (n2 n) g) b (n2 f) (n2 n) (n2 (hM1 a)) (n2 (hM2 a)) (n2 8) (ms s 67 B)) _
        unfold p_X12_hire_B53
        rw [ile8 (by omega), if_pos (by omega)]
        rw [fo_end] at he
        have he : a = some wa := he
        exact Tm.ret ⟨by rw [he]; rfl, (FrM.rf s).r rfl⟩
  · have eN : N = 8 := by omega
    refine st_scr hI (r := (-4 : Int32)) ?_ (fun s hX => ?_)
    · unfold p_X11_hire
      simp only [x_isBoat, bndE, b2z, hb, if_true, x_within, hf, hn]
      show Tm (p_X11_hire_B40 (p_X11_hire_L40 b (n2 f) (n2 n) 999) b (n2 f) (n2 n) (-4) 9 (n2 0) σ) _
      unfold p_X11_hire_B40
      rw [ile8 (by omega), if_neg (by omega)]
      refine (x_mind hA (FrC.rf 3 σ)).bd (fun _ s1 h1 => ?_)
      rw [x_adds isC3 h1.1 (show 0 < 8 by omega) hf10, if_neg hN, bndE, if_neg (by decide)]
      exact Tm.ret ⟨rfl, h1.2.X⟩
    · have e0 : s 66 0 = 8 := by rw [hX 66 (by decide), hL.2.1.1, eN]; rfl
      unfold p_X12_hire
      simp (disch := omega) only [m_isBoat, bndE, b2z, hb, if_true, m_isIn, hf, hn, ii0, c0, ltE, e0]
      exact Tm.ret ⟨rfl, FrM.rf s⟩
/-! rows on shelves, read -/
theorem shf_cases {σ : Mem} (hS : ∀ d, d < 8 → ShR σ d) (x : Int32) : (∃ r, r ≠ 0 ∧ p_X11_refusal x 2 σ = some (r, σ) ∧ ∀ s, FrX σ s → p_X12_wrongRow x (-1) s = some (r, s)) ∨ ∃ d w n, d < 8 ∧ x = n2 d ∧ p_X11_refusal (n2 d) 2 σ = some (0, σ) ∧ (∀ s, FrX σ s → p_X12_wrongRow (n2 d) (-1) s = some (0, s)) ∧ w < 3 ∧ n ≤ 100 ∧ σ (6 + d) 4 = n2 w ∧ σ 76 d = n2 w ∧ σ (6 + d) 5 = n2 n ∧ σ 77 d = n2 n ∧ ∀ j, j < 100 → σ (14 + d) j = σ 78 (100 * d + j) := by
  rcases sh_cases x with h | ⟨d, hd, rfl, h⟩
  · refine Or.inl ⟨-1, by decide, ?_, fun s hX => ?_⟩
    · unfold p_X11_refusal
      simp only [x_isShelf, bndE, b2z, h]
      rfl
    · unfold p_X12_wrongRow
      simp only [m_isShelf, bndE, b2z, h]
      rfl
  · obtain ⟨e, h1⟩ := hS d hd
    have hm : ∀ s, FrX σ s → p_X12_wrongRow (n2 d) (-1) s = some ((if σ 73 d = 0 then -11 else if σ 73 d = 2 then 0 else -12), s) := fun s hX => by
      rw [m_wrong hd h, hX 73 (by decide)]
    rcases h1 with h1 | ⟨h1, -⟩ | ⟨h1, w, n, hw, hn, e4, e76, e5, e77, hel, -⟩
    · refine Or.inl ⟨-11, by decide, ?_, fun s hX => ?_⟩
      · rw [x_ref2 hd h, h1]
        rfl
      · rw [hm s hX, e, h1]
        rfl
    · refine Or.inl ⟨-12, by decide, ?_, fun s hX => ?_⟩
      · rw [x_ref2 hd h, h1]
        rfl
      · rw [hm s hX, e, h1]
        rfl
    · refine Or.inr ⟨d, w, n, hd, rfl, ?_, fun s hX => ?_, hw, hn, e4, e76, e5, e77, hel⟩
      · rw [x_ref2 hd h, h1]
        rfl
      · rw [hm s hX, e, h1]
        rfl
def lst (w : Nat) : Int32 := if w = 0 then -128 else if w = 1 then -32768 else -2147483648
theorem x_skip {σ : Mem} {o w i : Nat} (hw : w < 3) (h4 : σ o 4 = n2 w) (hi : i < 100) : p_X8_isSkipped o (n2 i) σ = some (b2 (decide (σ (8 + o) i = lst w)), σ) := by
  unfold p_X8_isSkipped
  simp (disch := omega) only [ltE, h4, n2_nat, iin]
  unfold b2
  simp only [decide_eq_true_eq, some_ite]
  match w, hw with
  | 0, _ => rfl
  | 1, _ => rfl
  | 2, _ => rfl
theorem m_least {w : Nat} (hw : w < 3) (σ : Mem) : p_X12_leastOf (n2 w) σ = some (lst w, σ) := by
  unfold p_X12_leastOf
  match w, hw with
  | 0, _ => rfl
  | 1, _ => rfl
  | 2, _ => rfl
def judC (N w : Nat) (A : Nat → Int32) (E : Nat → Int32) (i : Nat) : Bool := !decide (E i = lst w) && !decide (E i = n2 (pop (lostV (seR N i A) N)))
theorem st_judge : St1 Inv p_X11_judge p_X12_judge := by
  intro x σ hI
  obtain ⟨N, t, hL, hA, h3, hA3, ht⟩ := getI hI
  have h8 := hL.le8
  rcases shf_cases hI.2.2 x with ⟨r, hr, hx, hm⟩ | ⟨d, w, n, hd, rfl, hx, hm, hw, hn, e4, e76, e5, e77, hel⟩
  · refine st_read hI (r := r) ?_ ?_
    · unfold p_X11_judge
      simp only [hx, bndE, if_neg hr]
    · unfold p_X12_judge
      simp only [hm σ (FrX.rf σ), bndE, if_neg hr]
  · generalize hv : ff (judC N w (mnd σ) (σ (14 + d))) n 0 = v
    have hse : ∀ i, i ≤ 100 → OkR (seR N i (mnd σ)) N ∧ seR N i (mnd σ) 3 = n2 (t + i) ∧ ∀ k, 100 ≤ k → seR N i (mnd σ) k = mnd σ k := fun i hi => seR_ok hA.2.1 hA3 (by omega)
    refine st_scr hI (r := v) ?_ (fun s hX => ?_)
    · unfold p_X11_judge
      simp (disch := omega) only [hx, bndE, if_true, n2_nat, iin]
      refine (x_mind hA (FrC.rf 3 σ)).bd (fun _ s1 h1 => ?_)
      show Tm (p_X11_judge_L34 (n2 d) 1000 (6 + d) (n2 0) s1) _
      refine lpT (L := fun g p (_ : Unit) τ => p_X11_judge_L34 (n2 d) g (6 + d) (n2 p) τ) (N := n) (fun p _ τ => CL3 τ 3 N (seR N p (mnd σ)) ∧ FrC 3 σ τ ∧ ff (judC N w (mnd σ) (σ (14 + d))) (n - p) p = v) (fun g p _ τ hp hI hK => ?_) (fun g _ τ hI => ?_) n 0 () s1 1000 (by omega) (by omega) ⟨h1.1, h1.2, hv⟩
      · obtain ⟨hC, hf, he⟩ := hI
        rw [ff_step hp] at he
        show Tm (p_X11_judge_B34 (p_X11_judge_L34 (n2 d) g) (n2 d) (6 + d) (n2 p) τ) _
        unfold p_X11_judge_B34 p_X11_judge_B72
        have e6 : τ (6 + d) = σ (6 + d) := hf _ (by unfold capeO; omega)
        have e14 : τ (14 + d) = σ (14 + d) := hf _ (by unfold capeO; omega)
        have e86 : 8 + (6 + d) = 14 + d := by omega
        have hsk := x_skip (σ := τ) (o := 6 + d) hw (by rw [e6]; exact e4) (show p < 100 by omega)
        rw [e86, e14] at hsk
        simp (disch := omega) only [ltE, e6, e5, ile_f, hsk, bndE, b2z, decide_eq_true_eq, n2_nat, iin, e86, e14, hC.lostOnesq, n2_succ]
        have hgo : Tm (bnd (p_X3_sails 3 1 τ) fun (v1 : Unit) s2 => p_X11_judge_L34 (n2 d) g (6 + d) (n2 (p + 1)) s2) (fun u s => u = v ∧ FrX σ s) ∨ judC N w (mnd σ) (σ (14 + d)) p = true := by
          cases hj : judC N w (mnd σ) (σ (14 + d)) p
          · left
            rw [hj, if_neg (by decide)] at he
            refine (x_sails isC3 hC (hse p (by omega)).2.1 (n := 1) (by omega) (by omega)).bd (fun _ s2 q => ?_)
            exact hK () s2 ⟨by rw [seR_snoc]; exact q.1, hf.tr q.2, he⟩
          · exact Or.inr rfl
        unfold judC at hgo he
        by_cases q1 : σ (14 + d) p = lst w
        · rw [if_pos q1]
          rcases hgo with hgo | hgo
          · exact hgo
          · rw [decide_eq_true q1] at hgo
            cases hgo
        · rw [if_neg q1]
          by_cases q2 : σ (14 + d) p = n2 (pop (lostV (seR N p (mnd σ)) N))
          · rw [if_pos q2]
            rcases hgo with hgo | hgo
            · exact hgo
            · rw [decide_eq_true q2, decide_eq_false q1] at hgo
              cases hgo
          · rw [if_neg q2]
            rw [decide_eq_false q1, decide_eq_false q2, if_pos (show (!false && !false) = true from rfl)] at he
            exact Tm.ret ⟨he, hf.X⟩
      · obtain ⟨hC, hf, he⟩ := hI
        show Tm (p_X11_judge_B34 (p_X11_judge_L34 (n2 d) g) (n2 d) (6 + d) (n2 n) τ) _
        unfold p_X11_judge_B34
        have e6 : τ (6 + d) = σ (6 + d) := hf _ (by unfold capeO; omega)
        simp (disch := omega) only [ltE, e6, e5, ile_t]
        rw [ff_end] at he
        exact Tm.ret ⟨he, hf.X⟩
    · unfold p_X12_judge
      rw [hm s hX, bndE, if_pos rfl, m_mind hX, bndE]
      show Tm (p_X12_judge_L26 (n2 d) 1000 (n2 0) (ms s 67 (seR N 0 (mnd σ)))) _
      refine lpT (L := fun g p (_ : Unit) τ => p_X12_judge_L26 (n2 d) g (n2 p) τ) (N := n) (fun p _ τ => τ = ms s 67 (seR N p (mnd σ)) ∧ ff (judC N w (mnd σ) (σ (14 + d))) (n - p) p = v) (fun g p _ τ hp hI hK => ?_) (fun g _ τ hI => ?_) n 0 () _ 1000 (by omega) (by omega) ⟨rfl, hv⟩
      · obtain ⟨rfl, he⟩ := hI
        rw [ff_step hp] at he
        show Tm (p_X12_judge_B26 (p_X12_judge_L26 (n2 d) g) (n2 d) (n2 p) (ms s 67 (seR N p (mnd σ)))) _
        unfold p_X12_judge_B26 p_X12_judge_B80
        have hs := hse p (by omega)
        have k77 : ms s 67 (seR N p (mnd σ)) 77 = σ 77 := by rw [ms_ne (by decide), hX 77 (by decide)]
        have k76 : ms s 67 (seR N p (mnd σ)) 76 = σ 76 := by rw [ms_ne (by decide), hX 76 (by decide)]
        have k78 : ms s 67 (seR N p (mnd σ)) 78 = σ 78 := by rw [ms_ne (by decide), hX 78 (by decide)]
        have l1 := lost_lt (R := seR N p (mnd σ)) h8
        simp (disch := omega) only [n2_nat, iin, ltE, k77, k76, k78, e77, e76, ile_f, el_n2, m_least hw, bndE, m_lostM hs.1, m_pop l1, n2_succ]
        rw [← hel p (by omega)]
        have hgo : Tm (bnd (p_X12_season 67 0 (ms s 67 (seR N p (mnd σ)))) fun (v1 : Unit) s2 => p_X12_judge_L26 (n2 d) g (n2 (p + 1)) s2) (fun u s' => u = v ∧ FrM s s') ∨ judC N w (mnd σ) (σ (14 + d)) p = true := by
          cases hj : judC N w (mnd σ) (σ (14 + d)) p
          · left
            rw [hj, if_neg (by decide)] at he
            have e67 : ms s 67 (seR N p (mnd σ)) 67 = seR N p (mnd σ) := ms_at _ _ _
            have hm := m_season (r := 67) (N := N) (σ := ms s 67 (seR N p (mnd σ))) (by rw [e67]; exact hs.1) (by rw [e67]; exact hs.2.1) (by omega)
            rw [e67, ms_ms, ← seR_snoc] at hm
            rw [hm, bndE]
            exact hK () _ ⟨rfl, he⟩
          · exact Or.inr rfl
        unfold judC at hgo he
        by_cases q1 : σ (14 + d) p = lst w
        · rw [if_pos q1]
          rcases hgo with hgo | hgo
          · exact hgo
          · rw [decide_eq_true q1] at hgo
            cases hgo
        · rw [if_neg q1]
          by_cases q2 : σ (14 + d) p = n2 (pop (lostV (seR N p (mnd σ)) N))
          · rw [if_pos q2]
            rcases hgo with hgo | hgo
            · exact hgo
            · rw [decide_eq_true q2, decide_eq_false q1] at hgo
              cases hgo
          · rw [if_neg q2]
            rw [decide_eq_false q1, decide_eq_false q2, if_pos (show (!false && !false) = true from rfl)] at he
            exact Tm.ret ⟨he, (FrM.rf s).r rfl⟩
      · obtain ⟨rfl, he⟩ := hI
        show Tm (p_X12_judge_B26 (p_X12_judge_L26 (n2 d) g) (n2 d) (n2 n) _) _
        unfold p_X12_judge_B26
        have k77 : ms s 67 (seR N n (mnd σ)) 77 = σ 77 := by rw [ms_ne (by decide), hX 77 (by decide)]
        simp (disch := omega) only [n2_nat, iin, ltE, k77, e77, ile_t]
        rw [ff_end] at he
        exact Tm.ret ⟨he, (FrM.rf s).r rfl⟩
