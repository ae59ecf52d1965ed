/-! a look at a cape -/
theorem CL3.x {σ τ : Mem} {N : Nat} {R : Nat → Int32} (h : CL3 σ 1 N R) (hf : FrX σ τ) : CL3 τ 1 N R := h.same (hf _ (by decide)) (hf _ (by decide)) (hf _ (by decide)) (hf _ (by decide)) (hf _ (by decide))
theorem mu_mu (σ : Mem) (o k : Nat) (v w : Int32) : mu (mu σ o k v) o k w = mu σ o k w := by
  rw [mu_ms, mu_ms, ms_ms, ms_at, upd_upd, mu_ms]
def foB (R : Nat → Int32) (w p q : Nat) : Bool := !decide (q = p) && !mayV R p q (n2 w)
def foV (R : Nat → Int32) (w N p : Nat) : Nat := setV (foB R w p) N
section LOOK
variable {N w : Nat} {R : Nat → Int32}
theorem x_lookIn {p : Nat} {τ : Mem} (h : CL3 τ 1 N R) (h4 : τ 4 4 = n2 N) (hp : p < N) (hw : w < 4) (k : Int32 → Mem → Option (Unit × Mem)) : p_X4_lookAt_L36 k 1 (n2 w) 1000 (n2 p) 0 (mu τ 37 p 0) = k (n2 p) (mu τ 37 p (n2 (foV R w N p))) := by
  have h8 := h.le8
  have k1 := lp (L := fun g q a => p_X4_lookAt_L36 k 1 (n2 w) g (n2 p) (n2 q) (mu τ 37 p (n2 a))) (f := sbF (foB R w p)) (fin := fun a => k (n2 p) (mu τ 37 p (n2 a))) (N := N) (fun _ _ => True) (fun _ _ _ _ => trivial) (fun g q a hq _ => ?_) (fun g a _ => ?_) N 0 0 1000 (by omega) (by omega) trivial
  · rw [fo_mk] at k1
    exact k1
  · show p_X4_lookAt_B36 (p_X4_lookAt_L36 k 1 (n2 w) g) k 1 (n2 w) (n2 p) (n2 q) (mu τ 37 p (n2 a)) = _
    have h1 : CL3 (mu τ 37 p (n2 a)) 1 N R := h.same (mu_off (by decide)) (mu_off (by decide)) (mu_off (by decide)) (mu_off (by decide)) (mu_off (by decide))
    have e4 : mu τ 37 p (n2 a) 4 4 = n2 N := by rw [mu_off (by decide)]; exact h4
    unfold p_X4_lookAt_B36 p_X4_lookAt_B75
    simp (disch := omega) only [ltE, e4, ile_f, ieq, h1.agreeq isC1 hp hq hw, bndE, b2z, n2_succ, n2_nat, iin, mu_at, wrE, mu_mu, n2_bitor (show q < 8 by omega)]
    by_cases q1 : q = p
    · rw [if_pos q1, sbF_f (by unfold foB; rw [decide_eq_true q1]; rfl)]
    · rw [if_neg q1]
      cases hb : mayV R p q (n2 w)
      · rw [if_neg (by decide), sbF_t (by unfold foB; rw [hb, decide_eq_false q1]; rfl)]
      · rw [if_pos rfl, sbF_f (by unfold foB; rw [hb, decide_eq_false q1]; rfl)]
  · show p_X4_lookAt_B36 (p_X4_lookAt_L36 k 1 (n2 w) g) k 1 (n2 w) (n2 p) (n2 N) (mu τ 37 p (n2 a)) = _
    have e4 : mu τ 37 p (n2 a) 4 4 = n2 N := by rw [mu_off (by decide)]; exact h4
    unfold p_X4_lookAt_B36
    simp (disch := omega) only [ltE, e4, ile_t]
/-- what the look leaves -/
def LkC (s : Mem) (N w : Nat) (R : Nat → Int32) : Prop := s 4 4 = n2 N ∧ s 4 5 = n2 (aliveV R N) ∧ ∀ p, p < N → s 37 p = n2 (foV R w N p)
theorem x_lookAt {σ : Mem} (h : CL3 σ 1 N R) (hw : w < 4) : Tm (p_X4_lookAt 1 (n2 w) σ) (fun _ s => FrX σ s ∧ LkC s N w R) := by
  have h8 := h.le8
  have h1 : CL3 (mu σ 4 4 (n2 N)) 1 N R := h.same (mu_off (by decide)) (mu_off (by decide)) (mu_off (by decide)) (mu_off (by decide)) (mu_off (by decide))
  have h2 : CL3 (mu (mu σ 4 4 (n2 N)) 4 5 (n2 (aliveV R N))) 1 N R := h1.same (mu_off (by decide)) (mu_off (by decide)) (mu_off (by decide)) (mu_off (by decide)) (mu_off (by decide))
  have e5 : σ 1 5 = n2 N := h.sizeq
  unfold p_X4_lookAt
  simp only [ltE, e5, wrE, x_living h1, bndE]
  generalize hT : mu (mu σ 4 4 (n2 N)) 4 5 (n2 (aliveV R N)) = τ at h2
  have t4 : τ 4 4 = n2 N := by rw [← hT, mu_ne (by decide), mu_at]
  have t5 : τ 4 5 = n2 (aliveV R N) := by rw [← hT, mu_at]
  have tf : FrX σ τ := by
    rw [← hT]
    exact ((FrX.rf σ).w rfl).w rfl
  have k1 := lp (L := fun g p A => p_X4_lookAt_L18 1 (n2 w) g (n2 p) (ms τ 37 A)) (f := fun p A => upd A p (n2 (foV R w N p))) (fin := fun A => some ((), ms τ 37 A)) (N := N) (fun _ _ => True) (fun _ _ _ _ => trivial) (fun g p A hp _ => ?_) (fun g A _ => ?_) N 0 (τ 37) 1000 (by omega) (by omega) trivial
  · rw [ms_self] at k1
    have hI := fo_inv (f := fun p A => upd A p (n2 (foV R w N p))) (N := N) (fun p A => ∀ q, q < p → A q = n2 (foV R w N q)) (fun p A hp hI q hq => by
      by_cases e : q = p
      · rw [e]
        exact upd_at _ _ _
      · rw [upd_ne e]
        exact hI q (by omega)) N 0 (τ 37) (by omega) (fun q hq => by omega)
    refine Tm.of k1 ⟨fun o ho => ?_, ?_, ?_, fun p hp => ?_⟩
    · rw [ms_ne (fun e => by rw [e] at ho; exact absurd ho (by decide))]
      exact tf o ho
    · rw [ms_ne (by decide)]
      exact t4
    · rw [ms_ne (by decide)]
      exact t5
    · rw [ms_at]
      exact hI p hp
  · show p_X4_lookAt_B18 (p_X4_lookAt_L18 1 (n2 w) g) 1 (n2 w) (n2 p) (ms τ 37 A) = _
    have e4 : ms τ 37 A 4 4 = n2 N := by rw [ms_ne (by decide)]; exact t4
    have hA : CL3 (ms τ 37 A) 1 N R := h2.same (ms_ne (by decide)) (ms_ne (by decide)) (ms_ne (by decide)) (ms_ne (by decide)) (ms_ne (by decide))
    unfold p_X4_lookAt_B18
    simp (disch := omega) only [ltE, e4, ile_f, n2_nat, iin, wrE]
    rw [x_lookIn hA e4 hp hw, n2_succ, ms_mu]
  · show p_X4_lookAt_B18 (p_X4_lookAt_L18 1 (n2 w) g) 1 (n2 w) (n2 N) (ms τ 37 A) = _
    have e4 : ms τ 37 A 4 4 = n2 N := by rw [ms_ne (by decide)]; exact t4
    unfold p_X4_lookAt_B18
    simp (disch := omega) only [ltE, e4, ile_t]
/-! peace in a set -/
def LawP (R : Nat → Int32) (w N a : Nat) : Prop := ∀ p q, p < N → q < N → p ≠ q → a.testBit p = true → a.testBit q = true → mayV R p q (n2 w) = true
def peC (R : Nat → Int32) (w N a p : Nat) : Bool := !a.testBit p || decide (foV R w N p &&& a = 0)
def lawB (R : Nat → Int32) (w N a : Nat) : Bool := al (peC R w N a) N 0
theorem and_0 {a b : Nat} : (a &&& b = 0) ↔ ∀ q, a.testBit q = true → b.testBit q = true → False := by
  constructor
  · intro h q h1 h2
    have h3 : (a &&& b).testBit q = false := by rw [h]; exact Nat.zero_testBit q
    rw [Nat.testBit_and, h1, h2] at h3
    cases h3
  · intro h
    refine set_ext (fun q => ?_)
    rw [Nat.testBit_and, Nat.zero_testBit]
    cases h1 : a.testBit q
    · rfl
    · cases h2 : b.testBit q
      · rfl
      · exact (h q h1 h2).elim
theorem lawB_iff {a : Nat} : lawB R w N a = true ↔ LawP R w N a := by
  unfold lawB
  rw [al_iff]
  constructor
  · intro h p q hp hq hne ha hb
    have h1 := h p (by omega) (by omega)
    unfold peC at h1
    rw [ha] at h1
    have h1 : decide (foV R w N p &&& a = 0) = true := h1
    rw [decide_eq_true_eq, and_0] at h1
    cases hm : mayV R p q (n2 w)
    · refine (h1 q ?_ hb).elim
      unfold foV
      rw [set_bit, decide_eq_true hq]
      unfold foB
      rw [hm, decide_eq_false (Ne.symm hne)]
      rfl
    · rfl
  · intro h p _ hp
    have hp : p < N := by omega
    unfold peC
    cases ha : a.testBit p
    · rfl
    · show decide (foV R w N p &&& a = 0) = true
      rw [decide_eq_true_eq, and_0]
      intro q h1 h2
      unfold foV at h1
      rw [set_bit, Bool.and_eq_true, decide_eq_true_eq] at h1
      obtain ⟨hq, h1⟩ := h1
      unfold foB at h1
      rw [Bool.and_eq_true, Bool.not_eq_true', Bool.not_eq_true', decide_eq_false_iff_not] at h1
      have h3 := h p q hp hq (Ne.symm h1.1) ha h2
      rw [h1.2] at h3
      cases h3
theorem fo_lt {p : Nat} (h8 : N ≤ 8) : foV R w N p < 256 := set_lt h8
theorem x_isPeace {s : Mem} {a : Nat} (hL : LkC s N w R) (h8 : N ≤ 8) (ha : a < 256) : p_X4_isPeace (n2 a) s = some (b2 (lawB R w N a), s) := by
  have hT : Tm (p_X4_isPeace_L2 (n2 a) 1000 (n2 0) s) (fun v t => v = b2 (lawB R w N a) ∧ t = s) := by
    refine lpT (L := fun g p (_ : Unit) τ => p_X4_isPeace_L2 (n2 a) g (n2 p) τ) (N := N) (fun p _ τ => τ = s ∧ al (peC R w N a) (N - p) p = lawB R w N a) (fun g p _ τ hp hI hK => ?_) (fun g _ τ hI => ?_) N 0 () s 1000 (by omega) (by omega) ⟨rfl, rfl⟩
    · obtain ⟨rfl, he⟩ := hI
      rw [al_step hp] at he
      show Tm (p_X4_isPeace_B2 (p_X4_isPeace_L2 (n2 a) g) (n2 a) (n2 p) τ) _
      have l1 := fo_lt (R := R) (w := w) (p := p) h8
      have l2 : foV R w N p &&& a < 256 := Nat.lt_of_le_of_lt Nat.and_le_left l1
      unfold p_X4_isPeace_B2 p_X4_isPeace_B31
      simp (disch := omega) only [ltE, hL.1, ile_f, x_holds τ ha (show p < 8 by omega), bndE, b2z, n2_nat, iin, hL.2.2 p hp, n2_and, ieq0, n2_succ]
      unfold peC at he
      cases q1 : a.testBit p
      · rw [q1] at he
        rw [if_neg (by decide)]
        exact hK () τ ⟨rfl, he⟩
      · rw [q1] at he
        rw [if_pos rfl]
        by_cases q2 : foV R w N p &&& a = 0
        · rw [if_pos q2]
          rw [decide_eq_true q2] at he
          exact hK () τ ⟨rfl, he⟩
        · rw [if_neg q2]
          rw [decide_eq_false q2] at he
          exact Tm.ret ⟨by rw [← he]; rfl, rfl⟩
    · obtain ⟨rfl, he⟩ := hI
      show Tm (p_X4_isPeace_B2 (p_X4_isPeace_L2 (n2 a) g) (n2 a) (n2 N) τ) _
      unfold p_X4_isPeace_B2
      simp (disch := omega) only [ltE, hL.1, ile_t]
      rw [al_end] at he
      exact Tm.ret ⟨by rw [← he]; rfl, rfl⟩
  obtain ⟨v, t, e, rfl, rfl⟩ := hT
  exact e
def crB (R : Nat → Int32) (w N a : Nat) : Bool := decide (a &&& (255 ^^^ aliveV R N) = 0) && lawB R w N a
theorem x_isCrew {s : Mem} {a : Nat} (hL : LkC s N w R) (h8 : N ≤ 8) (ha : a < 256) : p_X4_isCrew (n2 a) s = some (b2 (crB R w N a), s) := by
  have l1 := alive_lt (R := R) h8
  have l2 := mask_le (b := aliveV R N) ha
  unfold p_X4_isCrew crB
  simp (disch := omega) only [ltE, hL.2.1, n2_mask ha l1, ieq0, x_isPeace hL h8 ha, bndE, b2z]
  by_cases h1 : a &&& (255 ^^^ aliveV R N) = 0
  · rw [if_pos h1, decide_eq_true h1]
    cases lawB R w N a <;> rfl
  · rw [if_neg h1, decide_eq_false h1]
    rfl
end LOOK
/-! the model's peace -/
def mwC (R : Nat → Int32) (w a p q : Nat) : Bool := !(a.testBit p && a.testBit q) || mayV R p q (n2 w)
def mwD (R : Nat → Int32) (w N a p : Nat) : Bool := al (mwC R w a p) (N - (p + 1)) (p + 1)
section MLAW
variable {N w : Nat}
theorem mwD_iff {R : Nat → Int32} {a : Nat} : al (mwD R w N a) N 0 = lawB R w N a := by
  rw [Bool.eq_iff_iff, lawB_iff, al_iff]
  constructor
  · intro h p q hp hq hne ha hb
    have key : ∀ p q, p < q → q < N → a.testBit p = true → a.testBit q = true → mayV R p q (n2 w) = true := by
      intro p q hpq hq ha hb
      have h1 := h p (by omega) (by omega)
      unfold mwD at h1
      rw [al_iff] at h1
      have h2 := h1 q (by omega) (by omega)
      unfold mwC at h2
      rw [ha, hb] at h2
      exact h2
    by_cases hpq : p < q
    · exact key p q hpq hq ha hb
    · rw [may_sym]
      exact key q p (by omega) hp hb ha
  · intro h p _ hp
    unfold mwD
    rw [al_iff]
    intro q hq1 hq2
    unfold mwC
    cases ha : a.testBit p
    · rfl
    · cases hb : a.testBit q
      · rfl
      · exact h p q (by omega) (by omega) (by omega) ha hb
theorem m_lawIn {σ : Mem} {a p : Nat} (h : OkR (σ 66) N) (hp : p < N) (ha : a < 256) {k : Int32 → Mem → Option (Int32 × Mem)} {Q : Int32 → Mem → Prop} (h1 : mwD (σ 66) w N a p = false → Q 0 σ) (h2 : mwD (σ 66) w N a p = true → Tm (k (n2 p) σ) Q) : Tm (p_X12_areLawful_L14 k 66 (n2 a) (n2 w) 1000 (n2 p) (n2 (p + 1)) σ) Q := by
  have h8 := h.2.1
  refine lpT (L := fun g q (_ : Unit) τ => p_X12_areLawful_L14 k 66 (n2 a) (n2 w) g (n2 p) (n2 q) τ) (N := N) (fun q _ τ => τ = σ ∧ al (mwC (σ 66) w a p) (N - q) q = mwD (σ 66) w N a p) (fun g q _ τ hq hI hK => ?_) (fun g _ τ hI => ?_) (N - (p + 1)) (p + 1) () σ 1000 (by omega) (by omega) ⟨rfl, rfl⟩
  · obtain ⟨rfl, he⟩ := hI
    rw [al_step hq] at he
    show Tm (p_X12_areLawful_B14 (p_X12_areLawful_L14 k 66 (n2 a) (n2 w) g) k 66 (n2 a) (n2 w) (n2 p) (n2 q) τ) _
    unfold p_X12_areLawful_B14 p_X12_areLawful_B52
    simp (disch := omega) only [ii0, c0, ltE, h.1, ile_f, m_has τ ha (show p < 8 by omega), m_has τ ha (show q < 8 by omega), bndE, b2z, m_mayBy (n2 w) τ (show p < 8 by omega) (show q < 8 by omega), n2_succ]
    have hgo : mwC (τ 66) w a p q = true → Tm (p_X12_areLawful_L14 k 66 (n2 a) (n2 w) g (n2 p) (n2 (q + 1)) τ) Q := fun e => by
      rw [e] at he
      exact hK () τ ⟨rfl, he⟩
    cases q1 : a.testBit p
    · rw [if_neg (by decide)]
      exact hgo (by unfold mwC; rw [q1]; rfl)
    · rw [if_pos rfl]
      cases q2 : a.testBit q
      · rw [if_neg (by decide)]
        exact hgo (by unfold mwC; rw [q1, q2]; rfl)
      · rw [if_pos rfl]
        cases q3 : mayV (τ 66) p q (n2 w)
        · have e : mwC (τ 66) w a p q = false := by unfold mwC; rw [q1, q2, q3]; rfl
          rw [e] at he
          rw [if_neg (by decide)]
          exact Tm.ret (h1 he.symm)
        · rw [if_pos rfl]
          exact hgo (by unfold mwC; rw [q1, q2, q3]; rfl)
  · obtain ⟨rfl, he⟩ := hI
    show Tm (p_X12_areLawful_B14 (p_X12_areLawful_L14 k 66 (n2 a) (n2 w) g) k 66 (n2 a) (n2 w) (n2 p) (n2 N) τ) _
    unfold p_X12_areLawful_B14
    simp (disch := omega) only [ii0, c0, ltE, h.1, ile_t]
    rw [al_end] at he
    exact h2 he.symm
theorem m_lawful {σ : Mem} {a : Nat} (h : OkR (σ 66) N) (ha : a < 256) : p_X12_areLawful 66 (n2 a) (n2 w) σ = some (b2 (lawB (σ 66) w N a), σ) := by
  have h8 := h.2.1
  have hT : Tm (p_X12_areLawful_L2 66 (n2 a) (n2 w) 1000 (n2 0) σ) (fun v t => v = b2 (lawB (σ 66) w N a) ∧ t = σ) := by
    rw [← mwD_iff]
    refine lpT (L := fun g p (_ : Unit) τ => p_X12_areLawful_L2 66 (n2 a) (n2 w) g (n2 p) τ) (N := N) (fun p _ τ => τ = σ ∧ al (mwD (σ 66) w N a) (N - p) p = al (mwD (σ 66) w N a) N 0) (fun g p _ τ hp hI hK => ?_) (fun g _ τ hI => ?_) N 0 () σ 1000 (by omega) (by omega) ⟨rfl, rfl⟩
    · obtain ⟨rfl, he⟩ := hI
      rw [al_step hp] at he
      show Tm (p_X12_areLawful_B2 (p_X12_areLawful_L2 66 (n2 a) (n2 w) g) 66 (n2 a) (n2 w) (n2 p) τ) _
      unfold p_X12_areLawful_B2
      simp (disch := omega) only [ii0, c0, ltE, h.1, ile_f, n2_succ]
      refine m_lawIn h hp ha (fun hu => ?_) (fun hu => ?_)
      · rw [hu] at he
        exact ⟨by rw [← he]; rfl, rfl⟩
      · rw [hu] at he
        rw [n2_succ]
        exact hK () τ ⟨rfl, he⟩
    · obtain ⟨rfl, he⟩ := hI
      show Tm (p_X12_areLawful_B2 (p_X12_areLawful_L2 66 (n2 a) (n2 w) g) 66 (n2 a) (n2 w) (n2 N) τ) _
      unfold p_X12_areLawful_B2
      simp (disch := omega) only [ii0, c0, ltE, h.1, ile_t]
      rw [al_end] at he
      exact Tm.ret ⟨by rw [← he]; rfl, rfl⟩
  obtain ⟨v, t, e, rfl, rfl⟩ := hT
  exact e
end MLAW
theorem st_lawful : St1 Inv p_X11_lawful p_X12_lawful := by
  intro x σ hI
  obtain ⟨N, t, hL, -, -, -, -⟩ := getI hI
  have h8 := hL.le8
  have h := hL.2.1
  have hw := lawN_eq h
  have e17 : σ 1 7 = n2 (lawN (σ 66)) := hL.lawq
  have hC := crew_lt (R := σ 66) (b := x) h8
  cases hx : inV x 0 2
  · refine st_read hI (r := (-1 : Int32)) ?_ ?_
    · unfold p_X11_lawful
      simp only [x_isBoat, bndE, b2z, hx]
      rfl
    · unfold p_X12_lawful
      simp only [m_isBoat, bndE, b2z, hx]
      rfl
  refine st_scr hI (r := b2 (lawB (σ 66) (lawN (σ 66)) N (crewV (σ 66) N x))) ?_ (fun s hX => ?_)
  · unfold p_X11_lawful
    simp only [x_isBoat, bndE, b2z, hx, if_true, ltE, e17]
    refine (x_lookAt hL hw.2).bd (fun _ s q => ?_)
    rw [x_crewV (hL.x q.1).1, bndE, x_isPeace q.2 h8 hC, bndE, b2z]
    cases lawB (σ 66) (lawN (σ 66)) N (crewV (σ 66) N x)
    · exact Tm.ret ⟨rfl, q.1⟩
    · exact Tm.ret ⟨rfl, q.1⟩
  · have e66 : s 66 = σ 66 := hX 66 (by decide)
    have h' : OkR (s 66) N := by rw [e66]; exact h
    unfold p_X12_lawful
    simp (disch := omega) only [m_isBoat, bndE, b2z, hx, if_true, m_crewV h'.1 h8, ii1, c1, ltE, (lawN_eq h').1]
    rw [e66, m_lawful h' hC, e66, bndE, b2z]
    cases lawB (σ 66) (lawN (σ 66)) N (crewV (σ 66) N x)
    · exact Tm.ret ⟨rfl, FrM.rf s⟩
    · exact Tm.ret ⟨rfl, FrM.rf s⟩
