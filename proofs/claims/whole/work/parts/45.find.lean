/-! first ones, all, any -/
def ff (c : Nat → Bool) : Nat → Nat → Int32
  | 0, _ => -4
  | t + 1, p => if c p = true then n2 p else ff c t (p + 1)
def al (c : Nat → Bool) : Nat → Nat → Bool
  | 0, _ => true
  | t + 1, p => c p && al c t (p + 1)
def an (c : Nat → Bool) : Nat → Nat → Bool
  | 0, _ => false
  | t + 1, p => c p || an c t (p + 1)
theorem ff_step {c : Nat → Bool} {N p : Nat} (hp : p < N) : ff c (N - p) p = if c p = true then n2 p else ff c (N - (p + 1)) (p + 1) := by
  rw [show N - p = (N - (p + 1)) + 1 by omega]
  rfl
theorem al_step {c : Nat → Bool} {N p : Nat} (hp : p < N) : al c (N - p) p = (c p && al c (N - (p + 1)) (p + 1)) := by
  rw [show N - p = (N - (p + 1)) + 1 by omega]
  rfl
theorem an_step {c : Nat → Bool} {N p : Nat} (hp : p < N) : an c (N - p) p = (c p || an c (N - (p + 1)) (p + 1)) := by
  rw [show N - p = (N - (p + 1)) + 1 by omega]
  rfl
theorem fo_step {α : Type} {f : Nat → α → α} {N p : Nat} {a : α} (hp : p < N) : fo f (N - p) p a = fo f (N - (p + 1)) (p + 1) (f p a) := by
  rw [show N - p = (N - (p + 1)) + 1 by omega]
  rfl
theorem ff_end {c : Nat → Bool} {N : Nat} : ff c (N - N) N = -4 := by
  rw [Nat.sub_self]
  rfl
theorem al_end {c : Nat → Bool} {N : Nat} : al c (N - N) N = true := by
  rw [Nat.sub_self]
  rfl
theorem an_end {c : Nat → Bool} {N : Nat} : an c (N - N) N = false := by
  rw [Nat.sub_self]
  rfl
theorem fo_end {α : Type} {f : Nat → α → α} {N : Nat} {a : α} : fo f (N - N) N a = a := by
  rw [Nat.sub_self]
  rfl
theorem ff_congr {c d : Nat → Bool} {N : Nat} (h : ∀ p, p < N → c p = d p) : ∀ t p, p + t = N → ff c t p = ff d t p := by
  intro t
  induction t with
  | zero => intro p hp; rfl
  | succ t ih =>
    intro p hp
    show (if c p = true then n2 p else ff c t (p + 1)) = (if d p = true then n2 p else ff d t (p + 1))
    rw [h p (by omega), ih (p + 1) (by omega)]
theorem fo_snoc {α : Type} (f : Nat → α → α) : ∀ t p a, fo f (t + 1) p a = f (p + t) (fo f t p a) := by
  intro t
  induction t with
  | zero => intro p a; rfl
  | succ t ih =>
    intro p a
    rw [fo_succ, ih, fo_succ, show p + 1 + t = p + (t + 1) by omega]
theorem seR_snoc (N n : Nat) (R : Nat → Int32) : seR N (n + 1) R = se1 N (seR N n R) := by
  unfold seR
  rw [fo_snoc]
/-! the row in mind tells the same -/
theorem mnd_lt {σ : Mem} {k : Nat} (h : k < 100) : mnd σ k = σ 66 k := cpr_lt h
theorem mnd_bt {σ : Mem} {p : Nat} (h : p < 8) : bt (mnd σ) p = bt (σ 66) p := cpr_lt (by omega)
theorem mnd_lo {σ : Mem} {p : Nat} (h : p < 8) : lo (mnd σ) p = lo (σ 66) p := cpr_lt (by omega)
theorem mnd_lost {σ : Mem} {N : Nat} (h : N ≤ 8) : lostV (mnd σ) N = lostV (σ 66) N := lost_congr (fun p hp => mnd_lo (by omega))
theorem mnd_crew {σ : Mem} {N : Nat} {b : Int32} (h : N ≤ 8) : crewV (mnd σ) N b = crewV (σ 66) N b := set_congr (fun p hp => by rw [mnd_bt (by omega)])
theorem upd_mnd {σ : Mem} {i : Nat} {v : Int32} (hi : i < 100) : ∀ k, 100 ≤ k → upd (mnd σ) i v k = mnd σ k := fun k hk => upd_ne (by omega)
theorem m_lost66 {σ s : Mem} {B : Nat → Int32} {N : Nat} (hX : FrX σ s) (h : OkR (σ 66) N) : p_X12_lostSet 66 (ms s 67 B) = some (n2 (lostV (mnd σ) N), ms s 67 B) := by
  have e : ms s 67 B 66 = σ 66 := by rw [ms_ne (by decide), hX 66 (by decide)]
  have h1 := m_lostSet (r := 66) (N := N) (σ := ms s 67 B) (by rw [e]; exact h)
  rw [e, ← mnd_lost h.2.1] at h1
  exact h1
theorem m_bt66 {σ s : Mem} {B : Nat → Int32} (hX : FrX σ s) : ms s 67 B 66 = σ 66 := by rw [ms_ne (by decide), hX 66 (by decide)]
/-! lost ones stay lost -/
theorem ov_lost {R : Nat → Int32} {N p : Nat} (hN : N ≤ 8) (hp : p < 8) (b : Nat) (h : lo R p = 1) : lo (ovR N R b) p = 1 := by
  unfold ovR
  generalize falV R N (n2 b) (ssN R) = a
  cases a with
  | none => exact h
  | some p' =>
    show lo (ovS R p' (savV R N p' (ssN R))) p = 1
    generalize savV R N p' (ssN R) = a
    cases a with
    | none =>
      show lo (upd (upd R (4 + 4 * p' + 3) 1) (4 + 4 * p' + 2) 9) p = 1
      unfold lo at h ⊢
      rw [upd_ne (by omega)]
      by_cases e : p = p'
      · subst e
        rw [upd_at]
      · rw [upd_ne (by omega)]
        exact h
    | some q =>
      show lo (ovW R p' q _) p = 1
      unfold ovW
      unfold lo at h ⊢
      split
      · rw [upd_ne (by omega)]
        exact h
      · rw [upd_ne (by omega), upd_ne (by omega)]
        exact h
theorem se_lost {R : Nat → Int32} {N n p : Nat} (hN : N ≤ 8) (hp : p < 8) (h : lo R p = 1) : lo (seR N n R) p = 1 :=
  fo_inv (f := fun _ a => se1 N a) (N := n) (fun _ a => lo a p = 1) (fun _ a _ ha => fo_inv (f := fun b a => ovR N a b) (N := 3) (fun _ a => lo a p = 1) (fun b a _ h => ov_lost hN hp b h) 3 0 _ (by omega) (by unfold lo at ha ⊢; rw [upd_ne (by omega)]; exact ha)) n 0 R (by omega) h
theorem lost_sub {R S : Nat → Int32} {N : Nat} (hN : N ≤ 8) (h : ∀ p, p < N → lo R p = 1 → lo S p = 1) : lostV R N &&& lostV S N = lostV R N := by
  refine set_ext (fun q => ?_)
  rw [Nat.testBit_and]
  by_cases hq : q < N
  · rw [lost_bit hq, lost_bit hq]
    by_cases e : lo R q = 1
    · rw [decide_eq_true e, decide_eq_true (h q hq e)]
      rfl
    · rw [decide_eq_false e]
      rfl
  · unfold lostV
    rw [set_bit, decide_eq_false hq]
    rfl
theorem pop_sub : ∀ a < 256, ∀ b < 256, a &&& b = a → pop a = pop b → a = b := by decide +kernel
theorem pop_lost {R S : Nat → Int32} {N : Nat} (hN : N ≤ 8) (h : ∀ p, p < N → lo R p = 1 → lo S p = 1) : (pop (lostV S N) = pop (lostV R N)) ↔ (lostV S N = lostV R N) :=
  ⟨fun e => (pop_sub _ (lost_lt hN) _ (lost_lt hN) (lost_sub hN h) e.symm).symm, fun e => by rw [e]⟩
/-! calm -/
theorem ile10 {α : Type} {a : Nat} {A B : α} (h : a < 2147483648) : (if (10 : Int32) ≤ n2 a then A else B) = if 10 ≤ a then A else B := ileq (a := 10) ⟨by omega, h⟩
def calC (N n : Nat) (A : Nat → Int32) (v : Nat) : Bool := decide (lostV (seR N n (upd A 2 (n2 v))) N = lostV A N)
theorem st_calm : St1 Inv p_X11_calm p_X12_calm := by
  intro x σ hI
  obtain ⟨N, t, hL, hA, h3, hA3, ht⟩ := getI hI
  have h8 := hL.le8
  cases hx : inV x 0 60
  · refine st_read hI (r := (-1 : Int32)) ?_ ?_
    · unfold p_X11_calm
      simp only [x_within, bndE, b2z, hx]
      rfl
    · unfold p_X12_calm
      simp only [m_isIn, bndE, b2z, hx]
      rfl
  · obtain ⟨n, hn, rfl⟩ := n2_60 hx
    have hO : ∀ v, v < 10 → OkR (upd (mnd σ) 2 (n2 v)) N := fun v hv => hA.2.1.sea hv
    have hO3 : ∀ v, upd (mnd σ) 2 (n2 v) 3 = n2 t := fun v => (upd_ne (by omega)).trans hA3
    have hlt : ∀ v, v < 10 → lostV (seR N n (upd (mnd σ) 2 (n2 v))) N < 256 := fun v hv => lost_lt h8
    refine st_scr hI (r := ff (calC N n (mnd σ)) 10 0) ?_ (fun s hX => ?_)
    · unfold p_X11_calm
      simp only [x_within, bndE, b2z, hx, if_true]
      show Tm (p_X11_calm_L14 (n2 n) 1000 (n2 0) σ) _
      refine lpT (L := fun g p (_ : Unit) τ => p_X11_calm_L14 (n2 n) g (n2 p) τ) (N := 10) (fun p _ τ => FrC 3 σ τ ∧ ff (calC N n (mnd σ)) (10 - p) p = ff (calC N n (mnd σ)) 10 0) (fun g p _ τ hp hI hK => ?_) (fun g _ τ hI => ?_) 10 0 () σ 1000 (by omega) (by omega) ⟨FrC.rf 3 σ, rfl⟩
      · obtain ⟨hf, he⟩ := hI
        show Tm (p_X11_calm_B14 (p_X11_calm_L14 (n2 n) g) (n2 n) (n2 p) τ) _
        unfold p_X11_calm_B14
        rw [ile10 (by omega), if_neg (by omega)]
        refine (x_mind hA hf).bd (fun _ s1 h1 => ?_)
        simp only [ltE, wrE]
        have h2 : CL3 (mu s1 3 8 (n2 p)) 3 N (upd (mnd σ) 2 (n2 p)) := h1.1.rule isC3 (w := 2) (Or.inr rfl) (hO p hp)
        have hf2 : FrC 3 σ (mu s1 3 8 (n2 p)) := h1.2.w (Or.inl rfl)
        refine (x_sails isC3 h2 (hO3 p) (by omega) (by omega)).bd (fun _ s2 q => ?_)
        have e1 : s2 1 6 = n2 (lostV (mnd σ) N) := (hA.off isC3 isC1 (by decide) (hf2.tr q.2)).lostq
        have l1 := hlt p hp
        have l2 := lost_lt (R := mnd σ) h8
        simp (disch := omega) only [ltE, q.1.lostq, e1, ieq]
        rw [ff_step hp] at he
        unfold calC at he
        simp only [decide_eq_true_eq] at he
        by_cases hc : lostV (seR N n (upd (mnd σ) 2 (n2 p))) N = lostV (mnd σ) N
        · rw [if_pos hc] at he ⊢
          exact Tm.ret ⟨he, (hf2.tr q.2).X⟩
        · rw [if_neg hc] at he ⊢
          rw [n2_succ]
          exact hK () s2 ⟨hf2.tr q.2, he⟩
      · obtain ⟨hf, he⟩ := hI
        show Tm (p_X11_calm_B14 (p_X11_calm_L14 (n2 n) g) (n2 n) (n2 10) τ) _
        unfold p_X11_calm_B14
        rw [ile10 (by omega), if_pos (by omega)]
        rw [ff_end] at he
        exact Tm.ret ⟨he, hf.X⟩
    · unfold p_X12_calm
      simp only [m_isIn, bndE, b2z, hx, if_true]
      show Tm (p_X12_calm_L14 (n2 n) 1000 (n2 0) s) _
      refine Tm.eq (congrArg (p_X12_calm_L14 (n2 n) 1000 (n2 0)) (ms_self s 67).symm) ?_
      refine lpT (L := fun g p (B : Nat → Int32) τ => p_X12_calm_L14 (n2 n) g (n2 p) τ) (N := 10) (fun p B τ => τ = ms s 67 B ∧ (∀ k, 100 ≤ k → B k = mnd σ k) ∧ ff (calC N n (mnd σ)) (10 - p) p = ff (calC N n (mnd σ)) 10 0) (fun g p B τ hp hI hK => ?_) (fun g B τ hI => ?_) 10 0 (s 67) _ 1000 (by omega) (by omega) ⟨rfl, fun k hk => by rw [hX 67 (by decide)]; exact (cpr_ge hk).symm, rfl⟩
      · obtain ⟨rfl, hB, he⟩ := hI
        show Tm (p_X12_calm_B14 (p_X12_calm_L14 (n2 n) g) (n2 n) (n2 p) (ms s 67 B)) _
        unfold p_X12_calm_B14
        have l1 := hlt p hp
        have l2 := lost_lt (R := mnd σ) h8
        have p1 := pop_le (lostV (seR N n (upd (mnd σ) 2 (n2 p))) N)
        have p2 := pop_le (lostV (mnd σ) N)
        rw [ile10 (by omega), if_neg (by omega), m_mind2 hX hB, bndE]
        simp (disch := omega) only [ii2, c2, wrE, ms_mu, m_lostBehind (hO p hp) (hO3 p) (show t + n < 2000 by omega) (show n < 1000 by omega), bndE, m_lost66 hX hL.2.1, m_pop l2, ieq]
        rw [ff_step hp] at he
        unfold calC at he
        simp only [decide_eq_true_eq] at he
        have hpl := pop_lost (R := mnd σ) (S := seR N n (upd (mnd σ) 2 (n2 p))) h8 (fun q hq hl => se_lost h8 (by omega) (by unfold lo at hl ⊢; rw [upd_ne (by omega)]; exact hl))
        by_cases hc : lostV (seR N n (upd (mnd σ) 2 (n2 p))) N = lostV (mnd σ) N
        · rw [if_pos hc] at he
          rw [if_pos (hpl.mpr hc)]
          exact Tm.ret ⟨he, (FrM.rf s).r rfl⟩
        · rw [if_neg hc] at he
          rw [if_neg (fun q => hc (hpl.mp q)), n2_succ]
          exact hK _ _ ⟨rfl, fun k hk => ((seR_ok (hO p hp) (hO3 p) (show t + n < 2000 by omega)).2.2 k hk).trans (upd_ne (by omega)), he⟩
      · obtain ⟨rfl, hB, he⟩ := hI
        show Tm (p_X12_calm_B14 (p_X12_calm_L14 (n2 n) g) (n2 n) (n2 10) (ms s 67 B)) _
        unfold p_X12_calm_B14
        rw [ile10 (by omega), if_pos (by omega)]
        rw [ff_end] at he
        exact Tm.ret ⟨he, (FrM.rf s).r rfl⟩
