/-! the greatest crew -/
theorem fo_add {α : Type} (f : Nat → α → α) : ∀ m n p a, fo f (m + n) p a = fo f n (p + m) (fo f m p a) := by
  intro m
  induction m with
  | zero => intro n p a; rw [Nat.zero_add, Nat.add_zero]; rfl
  | succ m ih =>
    intro n p a
    rw [show m + 1 + n = (m + n) + 1 by omega, fo_succ, ih, fo_succ, show p + 1 + m = p + (m + 1) by omega]
theorem fo_id {α : Type} {f : Nat → α → α} : ∀ t p a, (∀ q, p ≤ q → q < p + t → ∀ a, f q a = a) → fo f t p a = a := by
  intro t
  induction t with
  | zero => intro p a _; rfl
  | succ t ih =>
    intro p a h
    rw [fo_succ, h p (by omega) (by omega)]
    exact ih (p + 1) a (fun q h1 h2 => h q (by omega) (by omega))
theorem n2_shl9 : ∀ N < 9, (1 : Int32) <<< (n2 N &&& 31) = n2 (2 ^ N) := by decide +kernel
theorem pow_le {N : Nat} (h : N ≤ 8) : 2 ^ N ≤ 256 := Nat.pow_le_pow_right (i := N) (j := 8) (by omega) h
theorem alive_le {R : Nat → Int32} {N : Nat} : aliveV R N < 2 ^ N := by
  have h2 : aliveV R N ≤ 2 ^ N - 1 := Nat.and_le_left
  have h3 : 0 < 2 ^ N := Nat.pow_pos (by omega)
  omega
theorem cr_le {R : Nat → Int32} {w N a : Nat} (h8 : N ≤ 8) (ha : a < 256) (h : crB R w N a = true) : a ≤ aliveV R N := by
  unfold crB at h
  rw [Bool.and_eq_true, decide_eq_true_eq, sub_iff ha] at h
  have e : a &&& aliveV R N = a := by
    refine set_ext (fun q => ?_)
    rw [Nat.testBit_and]
    cases h1 : a.testBit q
    · rfl
    · by_cases hq : q < 8
      · rw [h.1 q hq h1]
        rfl
      · rw [high_bit ha (by omega)] at h1
        cases h1
  rw [← e]
  exact Nat.and_le_right
/-- the first steps are all that count -/
theorem fo_alive {α : Type} {R : Nat → Int32} {w N : Nat} {f : Nat → α → α} {a : α} (h8 : N ≤ 8) (hf : ∀ q a, crB R w N q = false → f q a = a) : fo f (2 ^ N) 0 a = fo f (aliveV R N + 1) 0 a := by
  have h1 := alive_le (R := R) (N := N)
  have h2 := pow_le h8
  rw [show 2 ^ N = (aliveV R N + 1) + (2 ^ N - (aliveV R N + 1)) by omega, fo_add]
  refine fo_id _ _ _ (fun q hq1 hq2 a => hf q a ?_)
  cases hc : crB R w N q
  · rfl
  · have := cr_le h8 (by omega) hc
    omega
def bgF (R : Nat → Int32) (w N a best : Nat) : Nat := if pop best < pop a then (if crB R w N a = true then a else best) else best
theorem bgF_lt {R : Nat → Int32} {w N a best : Nat} (ha : a < 256) (h : best < 256) : bgF R w N a best < 256 := by
  unfold bgF
  repeat' split
  all_goals assumption
def grV (R : Nat → Int32) (w N : Nat) : Nat := fo (bgF R w N) (aliveV R N + 1) 0 0
theorem gr_lt {R : Nat → Int32} {w N : Nat} (h8 : N ≤ 8) : grV R w N < 256 :=
  fo_inv (f := bgF R w N) (N := aliveV R N + 1) (fun _ a => a < 256) (fun p a hp h => bgF_lt (by have := alive_lt (R := R) h8; omega) h) _ 0 0 (by omega) (by decide)
theorem gr_eq {R : Nat → Int32} {w N : Nat} (h8 : N ≤ 8) : fo (bgF R w N) (2 ^ N - 1) 1 0 = grV R w N := by
  have h3 : 0 < 2 ^ N := Nat.pow_pos (by omega)
  unfold grV
  rw [← fo_alive (w := w) h8 (fun q a hq => by
    unfold bgF
    rw [if_neg (show ¬ crB R w N q = true by rw [hq]; decide)]
    split <;> rfl)]
  conv => rhs; rw [show 2 ^ N = (2 ^ N - 1) + 1 by omega, fo_succ]
  have e : bgF R w N 0 0 = 0 := by
    unfold bgF
    rw [if_neg (by decide)]
  rw [e]
section BEST
variable {N w : Nat} {R : Nat → Int32}
theorem x_greatest {s : Mem} (hL : LkC s N w R) (h8 : N ≤ 8) : p_X4_greatest s = some (n2 (grV R w N), s) := by
  have hp8 := pow_le h8
  have h3 : 0 < 2 ^ N := Nat.pow_pos (by omega)
  rw [← gr_eq h8]
  refine lp (L := fun g a best => p_X4_greatest_L4 g (n2 best) (n2 a) s) (f := bgF R w N) (fin := fun best => some (n2 best, s)) (N := 2 ^ N) (fun _ best => best < 256) (fun a best ha h => bgF_lt (by omega) h) (fun g a best ha hb => ?_) (fun g best hb => ?_) (2 ^ N - 1) 1 0 1000 (by omega) (by omega) (by decide)
  · show p_X4_greatest_B4 (p_X4_greatest_L4 g) (n2 best) (n2 a) s = _
    have p1 := pop_le a
    have p2 := pop_le best
    unfold p_X4_greatest_B4 p_X4_greatest_B35 bgF
    simp (disch := omega) only [ltE, hL.1, n2_shl9 N (by omega), ileq, x_pop (show a < 256 by omega), x_pop hb, bndE, x_isCrew hL h8 (show a < 256 by omega), b2z, n2_succ]
    rw [if_neg (by omega)]
    by_cases q1 : pop best < pop a
    · rw [if_neg (by omega), if_pos q1]
      cases crB R w N a
      · rfl
      · rfl
    · rw [if_pos (by omega), if_neg q1]
  · show p_X4_greatest_B4 (p_X4_greatest_L4 g) (n2 best) (n2 (2 ^ N)) s = _
    unfold p_X4_greatest_B4
    simp (disch := omega) only [ltE, hL.1, n2_shl9 N (by omega), ile_t]
theorem m_largestBy {σ : Mem} (h : OkR (σ 66) N) : p_X12_largestBy (n2 w) σ = some (n2 (grV (σ 66) w N), σ) := by
  have h8 := h.2.1
  have hA := alive_lt (R := σ 66) h8
  unfold p_X12_largestBy
  rw [m_aliveSet h, bndE]
  refine lp (L := fun g a best => p_X12_largestBy_L13 (n2 w) g (n2 (aliveV (σ 66) N)) (n2 best) (n2 a) σ) (f := bgF (σ 66) w N) (fin := fun best => some (n2 best, σ)) (N := aliveV (σ 66) N + 1) (fun _ best => best < 256) (fun a best ha h => bgF_lt (by omega) h) (fun g a best ha hb => ?_) (fun g best hb => ?_) (aliveV (σ 66) N + 1) 0 0 1000 (by omega) (by omega) (by decide)
  · show p_X12_largestBy_B13 (p_X12_largestBy_L13 (n2 w) g) (n2 w) (n2 (aliveV (σ 66) N)) (n2 best) (n2 a) σ = _
    have p1 := pop_le a
    have p2 := pop_le best
    have l3 := mask_le (b := aliveV (σ 66) N) (show a < 256 by omega)
    unfold p_X12_largestBy_B13 p_X12_largestBy_B56 bgF crB
    simp (disch := omega) only [iltq, n2_mask (show a < 256 by omega) hA, ieq0, m_pop (show a < 256 by omega), m_pop hb, bndE, ileq, m_lawful h (show a < 256 by omega), b2z, n2_succ]
    rw [if_neg (by omega)]
    by_cases q0 : a &&& (255 ^^^ aliveV (σ 66) N) = 0
    · rw [if_pos q0, decide_eq_true q0]
      by_cases q1 : pop best < pop a
      · rw [if_neg (by omega), if_pos q1]
        cases lawB (σ 66) w N a
        · rfl
        · rfl
      · rw [if_pos (by omega), if_neg q1]
    · rw [if_neg q0, decide_eq_false q0]
      rw [if_neg (show ¬ (false && lawB (σ 66) w N a) = true by rw [Bool.false_and]; decide)]
      split <;> rfl
  · show p_X12_largestBy_B13 (p_X12_largestBy_L13 (n2 w) g) (n2 w) (n2 (aliveV (σ 66) N)) (n2 best) (n2 (aliveV (σ 66) N + 1)) σ = _
    unfold p_X12_largestBy_B13
    simp (disch := omega) only [ilt_t]
end BEST
theorem st_largest : St1 Inv p_X11_largest p_X12_largest := by
  intro x σ hI
  obtain ⟨N, t, hL, -, -, -, -⟩ := getI hI
  have h8 := hL.le8
  have h := hL.2.1
  have hw := lawN_eq h
  have e17 : σ 1 7 = n2 (lawN (σ 66)) := hL.lawq
  have hG := gr_lt (R := σ 66) (w := lawN (σ 66)) h8
  cases hx : inV x 0 1
  · refine st_read hI (r := (-1 : Int32)) ?_ ?_
    · unfold p_X11_largest
      simp only [x_isPart, bndE, b2z, hx]
      rfl
    · unfold p_X12_largest
      simp only [m_isIn, bndE, b2z, hx]
      rfl
  refine st_scr hI (r := if x = 0 then n2 (grV (σ 66) (lawN (σ 66)) N) else n2 (pop (grV (σ 66) (lawN (σ 66)) N))) ?_ (fun s hX => ?_)
  · unfold p_X11_largest
    simp only [x_isPart, bndE, b2z, hx, if_true, ltE, e17]
    refine (x_lookAt hL hw.2).bd (fun _ s q => ?_)
    rw [x_greatest q.2 h8, bndE]
    by_cases hx0 : x = 0
    · rw [if_pos hx0, if_pos hx0]
      exact Tm.ret ⟨rfl, q.1⟩
    · rw [if_neg hx0, if_neg hx0, x_pop hG, bndE]
      exact Tm.ret ⟨rfl, q.1⟩
  · have e66 : s 66 = σ 66 := hX 66 (by decide)
    have h' : OkR (s 66) N := by rw [e66]; exact h
    have hm := m_largestBy (w := lawN (σ 66)) h'
    rw [e66] at hm
    unfold p_X12_largest
    simp (disch := omega) only [m_isIn, bndE, b2z, hx, if_true, ii1, c1, ltE, e66, hw.1, hm, m_pop hG]
    by_cases hx0 : x = 0
    · rw [if_pos hx0, if_pos hx0]
      exact Tm.ret ⟨rfl, FrM.rf s⟩
    · rw [if_neg hx0, if_neg hx0]
      exact Tm.ret ⟨rfl, FrM.rf s⟩
/-! the strictest law -/
def scC (R : Nat → Int32) (N n w : Nat) : Bool := decide (n ≤ pop (grV R w N))
theorem st_strictest : St1 Inv p_X11_strictest p_X12_strictest := by
  intro x σ hI
  obtain ⟨N, t, hL, -, -, -, -⟩ := getI hI
  have h8 := hL.le8
  have h := hL.2.1
  cases hx : inV x 1 8
  · refine st_read hI (r := (-1 : Int32)) ?_ ?_
    · unfold p_X11_strictest
      simp only [x_within, bndE, b2z, hx]
      rfl
    · unfold p_X12_strictest
      simp only [m_isIn, bndE, b2z, hx]
      rfl
  obtain ⟨n, -, hn, rfl⟩ := in_n2 (lo := 1) (hi := 8) (by decide) (by decide) hx
  generalize hv : ff (scC (σ 66) N n) 4 0 = v
  refine st_scr hI (r := v) ?_ (fun s hX => ?_)
  · unfold p_X11_strictest
    simp only [x_within, bndE, b2z, hx, if_true]
    show Tm (p_X11_strictest_L14 (n2 n) 1000 (n2 0) σ) _
    refine lpT (L := fun g w (_ : Unit) τ => p_X11_strictest_L14 (n2 n) g (n2 w) τ) (N := 4) (fun w _ τ => FrX σ τ ∧ ff (scC (σ 66) N n) (4 - w) w = v) (fun g w _ τ hw hI hK => ?_) (fun g _ τ hI => ?_) 4 0 () σ 1000 (by omega) (by omega) ⟨FrX.rf σ, hv⟩
    · obtain ⟨hf, he⟩ := hI
      rw [ff_step hw] at he
      show Tm (p_X11_strictest_B14 (p_X11_strictest_L14 (n2 n) g) (n2 n) (n2 w) τ) _
      unfold p_X11_strictest_B14
      rw [ile4 (by omega), if_neg (by omega)]
      refine (x_lookAt (hL.x hf) hw).bd (fun _ s q => ?_)
      have hG := gr_lt (R := σ 66) (w := w) h8
      have p1 := pop_le (grV (σ 66) w N)
      simp (disch := omega) only [x_greatest q.2 h8, bndE, x_pop hG, iltq, n2_succ]
      unfold scC at he
      simp only [decide_eq_true_eq] at he
      by_cases hc : n ≤ pop (grV (σ 66) w N)
      · rw [if_pos hc] at he
        rw [if_neg (by omega)]
        exact Tm.ret ⟨he, hf.tr q.1⟩
      · rw [if_neg hc] at he
        rw [if_pos (by omega)]
        exact hK () s ⟨hf.tr q.1, he⟩
    · obtain ⟨hf, he⟩ := hI
      show Tm (p_X11_strictest_B14 (p_X11_strictest_L14 (n2 n) g) (n2 n) (n2 4) τ) _
      unfold p_X11_strictest_B14
      rw [ile4 (by omega), if_pos (by omega)]
      rw [ff_end] at he
      exact Tm.ret ⟨he, hf⟩
  · have e66 : s 66 = σ 66 := hX 66 (by decide)
    have h' : OkR (s 66) N := by rw [e66]; exact h
    unfold p_X12_strictest
    simp only [m_isIn, bndE, b2z, hx, if_true]
    show Tm (p_X12_strictest_L14 (n2 n) 1000 (n2 0) s) _
    refine lpT (L := fun g w (_ : Unit) τ => p_X12_strictest_L14 (n2 n) g (n2 w) τ) (N := 4) (fun w _ τ => τ = s ∧ ff (scC (σ 66) N n) (4 - w) w = v) (fun g w _ τ hw hI hK => ?_) (fun g _ τ hI => ?_) 4 0 () s 1000 (by omega) (by omega) ⟨rfl, hv⟩
    · obtain ⟨rfl, he⟩ := hI
      rw [ff_step hw] at he
      show Tm (p_X12_strictest_B14 (p_X12_strictest_L14 (n2 n) g) (n2 n) (n2 w) τ) _
      have hm := m_largestBy (w := w) h'
      rw [e66] at hm
      have hG := gr_lt (R := σ 66) (w := w) h8
      have p1 := pop_le (grV (σ 66) w N)
      unfold p_X12_strictest_B14
      rw [igt3 (by omega), if_neg (by omega)]
      simp (disch := omega) only [hm, bndE, m_pop hG, iltq, n2_succ]
      unfold scC at he
      simp only [decide_eq_true_eq] at he
      by_cases hc : n ≤ pop (grV (σ 66) w N)
      · rw [if_pos hc] at he
        rw [if_neg (by omega)]
        exact Tm.ret ⟨he, FrM.rf τ⟩
      · rw [if_neg hc] at he
        rw [if_pos (by omega)]
        exact hK () τ ⟨rfl, he⟩
    · obtain ⟨rfl, he⟩ := hI
      show Tm (p_X12_strictest_B14 (p_X12_strictest_L14 (n2 n) g) (n2 n) (n2 4) τ) _
      unfold p_X12_strictest_B14
      rw [igt3 (by omega), if_pos (by omega)]
      rw [ff_end] at he
      exact Tm.ret ⟨he, FrM.rf τ⟩
/-! skill and pay of a set -/
def suF (b : Nat → Nat) (a p v : Nat) : Nat := if a.testBit p = true then v + b p else v
def suS (b : Nat → Nat) (N a : Nat) : Nat := fo (suF b a) N 0 0
theorem su_le {b : Nat → Nat} {N a : Nat} (h8 : N ≤ 8) (hb : ∀ p, p < N → b p ≤ 24) : suS b N a ≤ 192 := by
  have h := fo_inv (f := suF b a) (N := N) (fun p v => v ≤ 24 * p) (fun p v hp h => by
    have := hb p hp
    unfold suF
    split <;> omega) N 0 0 (by omega) (by omega)
  show fo (suF b a) N 0 0 ≤ 192
  omega
theorem skN_le {k f : Nat} (hf : f < 10) : skN k f ≤ 24 := by
  unfold skN
  repeat' split
  all_goals omega
theorem pyN_le {k f : Nat} (hf : f < 10) : pyN k f ≤ 24 := by
  unfold pyN
  repeat' split
  all_goals omega
theorem skill_le {R : Nat → Int32} {N p : Nat} (h : OkR R N) (hp : p < N) : skillN R p ≤ 24 := skN_le (fn_eq h hp).2
theorem pay_le {R : Nat → Int32} {N p : Nat} (h : OkR R N) (hp : p < N) : payN R p ≤ 24 := pyN_le (fn_eq h hp).2
theorem x_skillOf {c N a : Nat} {σ : Mem} {R : Nat → Int32} (hc : isC c) (h : CL3 σ c N R) (ha : a < 256) : p_X3_skillOf c (n2 a) σ = some (n2 (suS (skillN R) N a), σ) := by
  have h8 := h.le8
  refine lp (L := fun g p v => p_X3_skillOf_L4 c (n2 a) g (n2 v) (n2 p) σ) (f := suF (skillN R) a) (fin := fun v => some (n2 v, σ)) (N := N) (fun _ _ => True) (fun _ _ _ _ => trivial) (fun g p v hp _ => ?_) (fun g v _ => ?_) N 0 0 1000 (by omega) (by omega) trivial
  · show p_X3_skillOf_B4 (p_X3_skillOf_L4 c (n2 a) g) c (n2 a) (n2 v) (n2 p) σ = _
    unfold p_X3_skillOf_B4 p_X3_skillOf_B39 suF
    simp (disch := omega) only [ltE, h.sizeq, ile_f, x_holds σ ha (show p < 8 by omega), bndE, b2z, h.kindq hp, n2_nat, iin, h.figq hp, h.skillq hc hp, n2_succ, n2_add]
    rw [show n2 v + 0 = n2 v from n2_add v 0]
    cases a.testBit p <;> rfl
  · show p_X3_skillOf_B4 (p_X3_skillOf_L4 c (n2 a) g) c (n2 a) (n2 v) (n2 N) σ = _
    unfold p_X3_skillOf_B4
    simp (disch := omega) only [ltE, h.sizeq, ile_t]
theorem x_payOf {c N a : Nat} {σ : Mem} {R : Nat → Int32} (hc : isC c) (h : CL3 σ c N R) (ha : a < 256) : p_X3_payOf c (n2 a) σ = some (n2 (suS (payN R) N a), σ) := by
  have h8 := h.le8
  refine lp (L := fun g p v => p_X3_payOf_L4 c (n2 a) g (n2 v) (n2 p) σ) (f := suF (payN R) a) (fin := fun v => some (n2 v, σ)) (N := N) (fun _ _ => True) (fun _ _ _ _ => trivial) (fun g p v hp _ => ?_) (fun g v _ => ?_) N 0 0 1000 (by omega) (by omega) trivial
  · show p_X3_payOf_B4 (p_X3_payOf_L4 c (n2 a) g) c (n2 a) (n2 v) (n2 p) σ = _
    unfold p_X3_payOf_B4 p_X3_payOf_B39 suF
    simp (disch := omega) only [ltE, h.sizeq, ile_f, x_holds σ ha (show p < 8 by omega), bndE, b2z, h.kindq hp, n2_nat, iin, h.figq hp, h.payq hc hp, n2_succ, n2_add]
    rw [show n2 v + 0 = n2 v from n2_add v 0]
    cases a.testBit p <;> rfl
  · show p_X3_payOf_B4 (p_X3_payOf_L4 c (n2 a) g) c (n2 a) (n2 v) (n2 N) σ = _
    unfold p_X3_payOf_B4
    simp (disch := omega) only [ltE, h.sizeq, ile_t]
theorem m_skillIn {N a : Nat} {σ : Mem} (h : OkR (σ 66) N) (ha : a < 256) : p_X12_skillIn (n2 a) σ = some (n2 (suS (skillN (σ 66)) N a), σ) := by
  have h8 := h.2.1
  refine lp (L := fun g p v => p_X12_skillIn_L4 (n2 a) g (n2 v) (n2 p) σ) (f := suF (skillN (σ 66)) a) (fin := fun v => some (n2 v, σ)) (N := N) (fun _ _ => True) (fun _ _ _ _ => trivial) (fun g p v hp _ => ?_) (fun g v _ => ?_) N 0 0 1000 (by omega) (by omega) trivial
  · show p_X12_skillIn_B4 (p_X12_skillIn_L4 (n2 a) g) (n2 a) (n2 v) (n2 p) σ = _
    unfold p_X12_skillIn_B4 p_X12_skillIn_B35 suF
    simp (disch := omega) only [ii0, c0, ltE, h.1, ile_f, m_has σ ha (show p < 8 by omega), bndE, b2z, m_skillN h hp, n2_succ, n2_add]
    rw [show n2 v + 0 = n2 v from n2_add v 0]
    cases a.testBit p <;> rfl
  · show p_X12_skillIn_B4 (p_X12_skillIn_L4 (n2 a) g) (n2 a) (n2 v) (n2 N) σ = _
    unfold p_X12_skillIn_B4
    simp (disch := omega) only [ii0, c0, ltE, h.1, ile_t]
theorem m_payIn {N a : Nat} {σ : Mem} (h : OkR (σ 66) N) (ha : a < 256) : p_X12_payIn (n2 a) σ = some (n2 (suS (payN (σ 66)) N a), σ) := by
  have h8 := h.2.1
  refine lp (L := fun g p v => p_X12_payIn_L4 (n2 a) g (n2 v) (n2 p) σ) (f := suF (payN (σ 66)) a) (fin := fun v => some (n2 v, σ)) (N := N) (fun _ _ => True) (fun _ _ _ _ => trivial) (fun g p v hp _ => ?_) (fun g v _ => ?_) N 0 0 1000 (by omega) (by omega) trivial
  · show p_X12_payIn_B4 (p_X12_payIn_L4 (n2 a) g) (n2 a) (n2 v) (n2 p) σ = _
    have hpay : p_X12_pay (σ 66 (4 + 4 * p + 0)) (σ 66 (4 + 4 * p + 1)) σ = some (n2 (payN (σ 66) p), σ) := m_payN h hp σ
    unfold p_X12_payIn_B4 p_X12_payIn_B50 suF
    simp (disch := omega) only [ii0, c0, ltE, h.1, ile_f, m_has σ ha (show p < 8 by omega), bndE, b2z, m_of0, m_of1, n2_nat, iin]
    cases a.testBit p
    · rw [if_neg (by decide), if_neg (by decide), n2_succ, show n2 v + 0 = n2 v from n2_add v 0]
    · rw [if_pos rfl, if_pos rfl]
      refine (congrArg (fun o => bnd o _) hpay).trans ?_
      rw [bndE, n2_succ, n2_add]
  · show p_X12_payIn_B4 (p_X12_payIn_L4 (n2 a) g) (n2 a) (n2 v) (n2 N) σ = _
    unfold p_X12_payIn_B4
    simp (disch := omega) only [ii0, c0, ltE, h.1, ile_t]
