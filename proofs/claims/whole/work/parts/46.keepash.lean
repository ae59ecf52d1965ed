/-! whom to keep ashore -/
def kepF (N n : Nat) (A : Nat → Int32) (p : Nat) (a : Nat × Option Nat) : Nat × Option Nat :=
  if bt A p = 9 then a else if pop (lostV (seR N n (upd A (4 + 4 * p + 2) 9)) N) < a.1 then (pop (lostV (seR N n (upd A (4 + 4 * p + 2) 9)) N), some p) else a
theorem kep_le {N n p : Nat} {A : Nat → Int32} {a : Nat × Option Nat} (h : a.1 ≤ 8) : (kepF N n A p a).1 ≤ 8 := by
  unfold kepF
  split
  · exact h
  · split
    · exact pop_le _
    · exact h
theorem boat_is {R : Nat → Int32} {N p : Nat} (h : OkR R N) (hp : p < N) : inV (bt R p) 0 2 = !decide (bt R p = 9) := by
  rcases (h.2.2.1 p hp).2.2.1 with e | e | e | e <;> rw [e] <;> decide
theorem st_keepAshore : St1 Inv p_X11_keepAshore p_X12_keepAshore := by
  intro x σ hI
  obtain ⟨N, t, hL, hA, h3, hA3, ht⟩ := getI hI
  have h8 := hL.le8
  cases hx : inV x 0 60
  · refine st_read hI (r := (-1 : Int32)) ?_ ?_
    · unfold p_X11_keepAshore
      simp only [x_within, bndE, b2z, hx]
      rfl
    · unfold p_X12_keepAshore
      simp only [m_isIn, bndE, b2z, hx]
      rfl
  · obtain ⟨n, hn, rfl⟩ := n2_60 hx
    have hO : ∀ p, p < N → OkR (upd (mnd σ) (4 + 4 * p + 2) 9) N := fun p hp => hA.2.1.boat hp (Or.inr (Or.inr (Or.inr rfl))) (Or.inr rfl)
    have hO3 : ∀ p, upd (mnd σ) (4 + 4 * p + 2) 9 3 = n2 t := fun p => (upd_ne (by omega)).trans hA3
    generalize hw : fo (kepF N n (mnd σ)) N 0 (pop (lostV (seR N n (mnd σ)) N), none) = w
    refine st_scr hI (r := oe w.2) ?_ (fun s hX => ?_)
    · unfold p_X11_keepAshore
      simp only [x_within, bndE, b2z, hx, if_true]
      refine (x_mind hA (FrC.rf 3 σ)).bd (fun _ s1 h1 => ?_)
      refine (x_sails isC3 h1.1 hA3 (by omega) (by omega)).bd (fun _ s2 h2 => ?_)
      rw [h2.1.lostOnesq, bndE]
      show Tm (p_X11_keepAshore_L45 (n2 n) 1000 (n2 (pop (lostV (seR N n (mnd σ)) N))) (oe none) (n2 0) s2) _
      refine lpT (L := fun g p (a : Nat × Option Nat) τ => p_X11_keepAshore_L45 (n2 n) g (n2 a.1) (oe a.2) (n2 p) τ) (N := N) (fun p a τ => FrC 3 σ τ ∧ a.1 ≤ 8 ∧ fo (kepF N n (mnd σ)) (N - p) p a = w) (fun g p a τ hp hI hK => ?_) (fun g a τ hI => ?_) N 0 (pop (lostV (seR N n (mnd σ)) N), none) s2 1000 (by omega) (by omega) ⟨h1.2.tr h2.2, pop_le _, hw⟩
      · obtain ⟨hf, ha, he⟩ := hI
        rw [fo_step hp] at he
        show Tm (p_X11_keepAshore_B45 (p_X11_keepAshore_L45 (n2 n) g) (n2 n) (n2 a.1) (oe a.2) (n2 p) τ) _
        unfold p_X11_keepAshore_B45 p_X11_keepAshore_B126
        have hA1 := hA.off isC3 isC1 (by decide) hf
        have e31 : τ 31 p = bt (mnd σ) p := hA1.btq hp
        have e5 : τ 1 5 = n2 N := hA1.sizeq
        simp (disch := omega) only [ltE, e5, ile_f, n2_nat, iin, e31, x_isBoat, bndE, b2z, boat_is hA.2.1 hp, Bool.not_eq_true', decide_eq_false_iff_not, n2_succ]
        by_cases hb : bt (mnd σ) p = 9
        · rw [if_neg (fun q => q hb)]
          have e : kepF N n (mnd σ) p a = a := by unfold kepF; rw [if_pos hb]
          rw [e] at he
          exact hK a τ ⟨hf, ha, he⟩
        · rw [if_pos hb]
          refine (x_mind hA hf).bd (fun _ s1 h1 => ?_)
          rw [wrE]
          have h2 : CL3 (mu s1 33 p 9) 3 N (upd (mnd σ) (4 + 4 * p + 2) 9) := h1.1.boat isC3 hp (Or.inr (Or.inr (Or.inr rfl))) (Or.inr rfl)
          have hf2 : FrC 3 σ (mu s1 33 p 9) := h1.2.w (Or.inr (Or.inr (Or.inr (Or.inl rfl))))
          refine (x_sails isC3 h2 (hO3 p) (by omega) (by omega)).bd (fun _ s2 q => ?_)
          have p1 := pop_le (lostV (seR N n (upd (mnd σ) (4 + 4 * p + 2) 9)) N)
          simp (disch := omega) only [q.1.lostOnesq, bndE, ileq]
          by_cases hc : pop (lostV (seR N n (upd (mnd σ) (4 + 4 * p + 2) 9)) N) < a.1
          · rw [if_neg (by omega)]
            have e : kepF N n (mnd σ) p a = (pop (lostV (seR N n (upd (mnd σ) (4 + 4 * p + 2) 9)) N), some p) := by unfold kepF; rw [if_neg hb, if_pos hc]
            rw [e] at he
            exact hK (pop (lostV (seR N n (upd (mnd σ) (4 + 4 * p + 2) 9)) N), some p) s2 ⟨hf2.tr q.2, p1, he⟩
          · rw [if_pos (by omega)]
            have e : kepF N n (mnd σ) p a = a := by unfold kepF; rw [if_neg hb, if_neg hc]
            rw [e] at he
            exact hK a s2 ⟨hf2.tr q.2, ha, he⟩
      · obtain ⟨hf, ha, he⟩ := hI
        show Tm (p_X11_keepAshore_B45 (p_X11_keepAshore_L45 (n2 n) g) (n2 n) (n2 a.1) (oe a.2) (n2 N) τ) _
        unfold p_X11_keepAshore_B45
        have e5 : τ 1 5 = n2 N := (hA.off isC3 isC1 (by decide) hf).sizeq
        simp (disch := omega) only [ltE, e5, ile_t]
        rw [fo_end] at he
        exact Tm.ret ⟨by rw [he], hf.X⟩
    · unfold p_X12_keepAshore
      simp only [m_isIn, bndE, b2z, hx, if_true, m_mind hX, m_lostBehind hA.2.1 hA3 (show t + n < 2000 by omega) (show n < 1000 by omega)]
      show Tm (p_X12_keepAshore_L35 (n2 n) 1000 (n2 (pop (lostV (seR N n (mnd σ)) N))) (oe none) (n2 0) (ms s 67 (seR N n (mnd σ)))) _
      refine lpT (L := fun g p (a : (Nat × Option Nat) × (Nat → Int32)) τ => p_X12_keepAshore_L35 (n2 n) g (n2 a.1.1) (oe a.1.2) (n2 p) τ) (N := N) (fun p a τ => τ = ms s 67 a.2 ∧ (∀ k, 100 ≤ k → a.2 k = mnd σ k) ∧ a.1.1 ≤ 8 ∧ fo (kepF N n (mnd σ)) (N - p) p a.1 = w) (fun g p a τ hp hI hK => ?_) (fun g a τ hI => ?_) N 0 ((pop (lostV (seR N n (mnd σ)) N), none), seR N n (mnd σ)) _ 1000 (by omega) (by omega) ⟨rfl, (seR_ok (n := n) hA.2.1 hA3 (by omega)).2.2, pop_le _, hw⟩
      · obtain ⟨a, B⟩ := a
        obtain ⟨rfl, hB, ha, he⟩ := hI
        have ha : a.1 ≤ 8 := ha
        rw [fo_step hp] at he
        show Tm (p_X12_keepAshore_B35 (p_X12_keepAshore_L35 (n2 n) g) (n2 n) (n2 a.1) (oe a.2) (n2 p) (ms s 67 B)) _
        unfold p_X12_keepAshore_B35 p_X12_keepAshore_B111
        have e0 : σ 66 0 = n2 N := hL.2.1.1
        simp (disch := omega) only [ii0, c0, ltE, m_bt66 hX, e0, ile_f, m_of2, bndE, n2_nat, iin, n2_succ]
        rw [show σ 66 (4 + 4 * p + 2) = bt (mnd σ) p from (mnd_bt (by omega)).symm]
        by_cases hb : bt (mnd σ) p = 9
        · rw [if_pos hb]
          have e : kepF N n (mnd σ) p a = a := by unfold kepF; rw [if_pos hb]
          rw [e] at he
          exact hK (a, B) _ ⟨rfl, hB, ha, he⟩
        · rw [if_neg hb, m_mind2 hX hB]
          have p1 := pop_le (lostV (seR N n (upd (mnd σ) (4 + 4 * p + 2) 9)) N)
          have hBn := fun k (hk : 100 ≤ k) => ((seR_ok (n := n) (hO p hp) (hO3 p) (by omega)).2.2 k hk).trans (upd_mnd (by omega) k hk)
          simp (disch := omega) only [bndE, m_of2, n2_nat, iin, wrE, ms_mu, m_lostBehind (hO p hp) (hO3 p) (show t + n < 2000 by omega) (show n < 1000 by omega), iltq]
          by_cases hc : pop (lostV (seR N n (upd (mnd σ) (4 + 4 * p + 2) 9)) N) < a.1
          · rw [if_pos hc]
            have e : kepF N n (mnd σ) p a = (pop (lostV (seR N n (upd (mnd σ) (4 + 4 * p + 2) 9)) N), some p) := by unfold kepF; rw [if_neg hb, if_pos hc]
            rw [e] at he
            exact hK ((pop (lostV (seR N n (upd (mnd σ) (4 + 4 * p + 2) 9)) N), some p), _) _ ⟨rfl, hBn, p1, he⟩
          · rw [if_neg hc]
            have e : kepF N n (mnd σ) p a = a := by unfold kepF; rw [if_neg hb, if_neg hc]
            rw [e] at he
            exact hK (a, _) _ ⟨rfl, hBn, ha, he⟩
      · obtain ⟨a, B⟩ := a
        obtain ⟨rfl, hB, ha, he⟩ := hI
        show Tm (p_X12_keepAshore_B35 (p_X12_keepAshore_L35 (n2 n) g) (n2 n) (n2 a.1) (oe a.2) (n2 N) (ms s 67 B)) _
        unfold p_X12_keepAshore_B35
        have e0 : σ 66 0 = n2 N := hL.2.1.1
        simp (disch := omega) only [ii0, c0, ltE, m_bt66 hX, e0, ile_t]
        rw [fo_end] at he
        have he : a = w := he
        exact Tm.ret ⟨by rw [he], (FrM.rf s).r rfl⟩
/-! how long the fleet can be manned -/
def umB (N : Nat) (A B : Nat → Int32) (b : Nat) : Bool := !decide (crewV A N (n2 b) = 0) && decide (crewV B N (n2 b) = 0)
def umV (N : Nat) (A B : Nat → Int32) : Bool := an (umB N A B) 3 0
theorem um_self (N : Nat) (A : Nat → Int32) : umV N A A = false := by
  have h : ∀ b, umB N A A b = false := fun b => by
    unfold umB
    cases decide (crewV A N (n2 b) = 0) <;> rfl
  show (umB N A A 0 || (umB N A A 1 || (umB N A A 2 || false))) = false
  rw [h, h, h]
  rfl
theorem x_umL {N : Nat} {τ : Mem} {A B : Nat → Int32} (hA : CL3 τ 1 N A) (hB : CL3 τ 3 N B) {k : Int32 → Mem → Option (Int32 × Mem)} {x1 : Int32} {Q : Int32 → Mem → Prop} (h1 : umV N A B = true → Q x1 τ) (h2 : umV N A B = false → Tm (k x1 τ) Q) : Tm (p_X11_unmanned_L29 k 1000 x1 0 τ) Q := by
  have h8 := hA.le8
  refine lpT (L := fun g p (_ : Unit) s => p_X11_unmanned_L29 k g x1 (n2 p) s) (N := 3) (fun p _ s => s = τ ∧ an (umB N A B) (3 - p) p = umV N A B) (fun g p _ s hp hI hK => ?_) (fun g _ s hI => ?_) 3 0 () τ 1000 (by omega) (by omega) ⟨rfl, rfl⟩
  · obtain ⟨rfl, he⟩ := hI
    rw [an_step hp] at he
    show Tm (p_X11_unmanned_B29 (p_X11_unmanned_L29 k g) k x1 (n2 p) s) Q
    unfold p_X11_unmanned_B29 p_X11_unmanned_B58
    have l1 := crew_lt (R := A) (b := n2 p) h8
    have l2 := crew_lt (R := B) (b := n2 p) h8
    rw [show (if (3 : Int32) ≤ n2 p then _ else _) = _ from ile_f (a := 3) (b := p) ⟨by omega, by omega⟩]
    simp (disch := omega) only [x_crewV hA.1, x_crewV hB.1, bndE, ieq0, n2_succ]
    by_cases q1 : crewV A N (n2 p) = 0
    · rw [if_pos q1]
      have e : umB N A B p = false := by unfold umB; rw [decide_eq_true q1]; rfl
      rw [e] at he
      exact hK () s ⟨rfl, he⟩
    · rw [if_neg q1]
      by_cases q2 : crewV B N (n2 p) = 0
      · rw [if_pos q2]
        have e : umB N A B p = true := by unfold umB; rw [decide_eq_false q1, decide_eq_true q2]; rfl
        rw [e] at he
        exact Tm.ret (h1 he.symm)
      · rw [if_neg q2]
        have e : umB N A B p = false := by unfold umB; rw [decide_eq_false q1, decide_eq_false q2]; rfl
        rw [e] at he
        exact hK () s ⟨rfl, he⟩
  · obtain ⟨rfl, he⟩ := hI
    show Tm (p_X11_unmanned_B29 (p_X11_unmanned_L29 k g) k x1 (n2 3) s) Q
    unfold p_X11_unmanned_B29
    rw [show (if (3 : Int32) ≤ n2 3 then _ else _) = _ from ile_t (a := 3) (b := 3) ⟨by omega, by omega⟩]
    exact h2 he.symm
theorem m_umL {N : Nat} {τ : Mem} (hA : OkR (τ 66) N) (hB : OkR (τ 67) N) {k : Int32 → Mem → Option (Int32 × Mem)} {x1 : Int32} {Q : Int32 → Mem → Prop} (h1 : umV N (τ 66) (τ 67) = true → Q x1 τ) (h2 : umV N (τ 66) (τ 67) = false → Tm (k x1 τ) Q) : Tm (p_X12_unmanned_L21 k 1000 x1 0 τ) Q := by
  have h8 := hA.2.1
  refine lpT (L := fun g p (_ : Unit) s => p_X12_unmanned_L21 k g x1 (n2 p) s) (N := 3) (fun p _ s => s = τ ∧ an (umB N (τ 66) (τ 67)) (3 - p) p = umV N (τ 66) (τ 67)) (fun g p _ s hp hI hK => ?_) (fun g _ s hI => ?_) 3 0 () τ 1000 (by omega) (by omega) ⟨rfl, rfl⟩
  · obtain ⟨rfl, he⟩ := hI
    rw [an_step hp] at he
    show Tm (p_X12_unmanned_B21 (p_X12_unmanned_L21 k g) k x1 (n2 p) s) Q
    unfold p_X12_unmanned_B21 p_X12_unmanned_B50
    have l1 := crew_lt (R := s 66) (b := n2 p) h8
    have l2 := crew_lt (R := s 67) (b := n2 p) h8
    rw [show (if (3 : Int32) ≤ n2 p then _ else _) = _ from ile_f (a := 3) (b := p) ⟨by omega, by omega⟩]
    simp (disch := omega) only [m_crewV hA.1 h8, m_crewV hB.1 h8, bndE, ieq0, n2_succ]
    by_cases q1 : crewV (s 66) N (n2 p) = 0
    · rw [if_pos q1]
      have e : umB N (s 66) (s 67) p = false := by unfold umB; rw [decide_eq_true q1]; rfl
      rw [e] at he
      exact hK () s ⟨rfl, he⟩
    · rw [if_neg q1]
      by_cases q2 : crewV (s 67) N (n2 p) = 0
      · rw [if_pos q2]
        have e : umB N (s 66) (s 67) p = true := by unfold umB; rw [decide_eq_false q1, decide_eq_true q2]; rfl
        rw [e] at he
        exact Tm.ret (h1 he.symm)
      · rw [if_neg q2]
        have e : umB N (s 66) (s 67) p = false := by unfold umB; rw [decide_eq_false q1, decide_eq_false q2]; rfl
        rw [e] at he
        exact hK () s ⟨rfl, he⟩
  · obtain ⟨rfl, he⟩ := hI
    show Tm (p_X12_unmanned_B21 (p_X12_unmanned_L21 k g) k x1 (n2 3) s) Q
    unfold p_X12_unmanned_B21
    rw [show (if (3 : Int32) ≤ n2 3 then _ else _) = _ from ile_t (a := 3) (b := 3) ⟨by omega, by omega⟩]
    exact h2 he.symm
theorem um_mnd {σ : Mem} {N : Nat} {B : Nat → Int32} (h : N ≤ 8) : umV N (mnd σ) B = umV N (σ 66) B := by
  have e : umB N (mnd σ) B = umB N (σ 66) B := by
    funext b
    unfold umB
    rw [mnd_crew h]
  unfold umV
  rw [e]
theorem ilt60 {α : Type} {a : Nat} {A B : α} (h : a < 2147483648) : (if (60 : Int32) < n2 a then A else B) = if 60 < a then A else B := iltq (a := 60) ⟨by omega, h⟩
theorem st_unmanned : St0 Inv p_X11_unmanned p_X12_unmanned := by
  intro σ hI
  obtain ⟨N, t, hL, hA, h3, hA3, ht⟩ := getI hI
  have h8 := hL.le8
  have hse : ∀ n, n ≤ 61 → OkR (seR N n (mnd σ)) N ∧ seR N n (mnd σ) 3 = n2 (t + n) ∧ ∀ k, 100 ≤ k → seR N n (mnd σ) k = mnd σ k := fun n hn => seR_ok hA.2.1 hA3 (by omega)
  generalize hw : ff (fun n => umV N (mnd σ) (seR N n (mnd σ))) 60 1 = w
  refine st_scr hI (r := w) ?_ (fun s hX => ?_)
  · unfold p_X11_unmanned
    refine (x_mind hA (FrC.rf 3 σ)).bd (fun _ s1 h1 => ?_)
    show Tm (p_X11_unmanned_L13 1000 (n2 1) s1) _
    refine lpT (L := fun g p (_ : Unit) τ => p_X11_unmanned_L13 g (n2 p) τ) (N := 61) (fun p _ τ => 1 ≤ p ∧ CL3 τ 3 N (seR N (p - 1) (mnd σ)) ∧ FrC 3 σ τ ∧ ff (fun n => umV N (mnd σ) (seR N n (mnd σ))) (61 - p) p = w) (fun g p _ τ hp hI hK => ?_) (fun g _ τ hI => ?_) 60 1 () s1 1000 (by omega) (by omega) ⟨by omega, h1.1, h1.2, hw⟩
    · obtain ⟨hp1, hC, hf, he⟩ := hI
      rw [ff_step hp] at he
      show Tm (p_X11_unmanned_B13 (p_X11_unmanned_L13 g) (n2 p) τ) _
      unfold p_X11_unmanned_B13
      rw [ilt60 (by omega), if_neg (by omega)]
      have hs := hse (p - 1) (by omega)
      refine (x_sails isC3 hC hs.2.1 (n := 1) (by omega) (by omega)).bd (fun _ s2 q => ?_)
      have e1 : seR N 1 (seR N (p - 1) (mnd σ)) = seR N p (mnd σ) := by
        have h := seR_snoc N (p - 1) (mnd σ)
        rw [show p - 1 + 1 = p by omega] at h
        rw [h]
        rfl
      rw [e1] at q
      refine x_umL (hA.off isC3 isC1 (by decide) (hf.tr q.2)) q.1 (fun hu => ?_) (fun hu => ?_)
      · rw [hu, if_pos rfl] at he
        exact ⟨he, (hf.tr q.2).X⟩
      · rw [hu, if_neg (by decide)] at he
        rw [n2_succ]
        exact hK () s2 ⟨by omega, q.1, hf.tr q.2, he⟩
    · obtain ⟨hp1, hC, hf, he⟩ := hI
      show Tm (p_X11_unmanned_B13 (p_X11_unmanned_L13 g) (n2 61) τ) _
      unfold p_X11_unmanned_B13
      rw [ilt60 (by omega), if_pos (by omega)]
      rw [ff_end] at he
      exact Tm.ret ⟨he, hf.X⟩
  · unfold p_X12_unmanned
    rw [m_mind hX, bndE]
    have hw0 : ff (fun n => umV N (mnd σ) (seR N n (mnd σ))) 61 0 = w := by
      rw [← hw, show ff (fun n => umV N (mnd σ) (seR N n (mnd σ))) 61 0 = if umV N (mnd σ) (seR N 0 (mnd σ)) = true then n2 0 else ff (fun n => umV N (mnd σ) (seR N n (mnd σ))) 60 1 from rfl, show seR N 0 (mnd σ) = mnd σ from rfl, um_self, if_neg (by decide)]
    show Tm (p_X12_unmanned_L13 1000 (n2 0) (ms s 67 (seR N 0 (mnd σ)))) _
    refine lpT (L := fun g p (_ : Unit) τ => p_X12_unmanned_L13 g (n2 p) τ) (N := 61) (fun p _ τ => τ = ms s 67 (seR N p (mnd σ)) ∧ ff (fun n => umV N (mnd σ) (seR N n (mnd σ))) (61 - p) p = w) (fun g p _ τ hp hI hK => ?_) (fun g _ τ hI => ?_) 61 0 () _ 1000 (by omega) (by omega) ⟨rfl, hw0⟩
    · obtain ⟨rfl, he⟩ := hI
      rw [ff_step hp] at he
      show Tm (p_X12_unmanned_B13 (p_X12_unmanned_L13 g) (n2 p) (ms s 67 (seR N p (mnd σ)))) _
      unfold p_X12_unmanned_B13
      rw [ilt60 (by omega), if_neg (by omega)]
      have hs := hse p (by omega)
      have e66 : ms s 67 (seR N p (mnd σ)) 66 = σ 66 := m_bt66 hX
      have e67 : ms s 67 (seR N p (mnd σ)) 67 = seR N p (mnd σ) := ms_at _ _ _
      have hum := um_mnd (σ := σ) (B := seR N p (mnd σ)) h8
      refine m_umL (N := N) (by rw [e66]; exact hL.2.1) (by rw [e67]; exact hs.1) (fun hu => ?_) (fun hu => ?_)
      · rw [e66, e67, ← hum] at hu
        rw [hu, if_pos rfl] at he
        exact ⟨he, (FrM.rf s).r rfl⟩
      · rw [e66, e67, ← hum] at hu
        rw [hu, if_neg (by decide)] at he
        have hm := m_season (r := 67) (N := N) (σ := ms s 67 (seR N p (mnd σ))) (by rw [e67]; exact hs.1) (by rw [e67]; exact hs.2.1) (by omega)
        rw [e67, ms_ms, ← seR_snoc] at hm
        rw [hm, bndE, n2_succ]
        exact hK () _ ⟨rfl, he⟩
    · obtain ⟨rfl, he⟩ := hI
      show Tm (p_X12_unmanned_B13 (p_X12_unmanned_L13 g) (n2 61) _) _
      unfold p_X12_unmanned_B13
      rw [ilt60 (by omega), if_pos (by omega)]
      rw [ff_end] at he
      exact Tm.ret ⟨he, (FrM.rf s).r rfl⟩
