/-! who sits in a boat -/
def tkV (g : Nat → Nat) (p b : Nat) : Nat := setV (fun q => decide (g q = b)) p
theorem tkV_lt {g : Nat → Nat} {p b : Nat} (h : p ≤ 8) : tkV g p b < 256 := set_lt h
theorem tkV_in {g : Nat → Nat} {p b : Nat} : tkV (sg g p b) (p + 1) b = tkV g p b ^^^ 2 ^ p := by
  refine set_ext (fun q => ?_)
  unfold tkV
  rw [Nat.testBit_xor, set_bit, set_bit, Nat.testBit_two_pow]
  by_cases e : q = p
  · subst e
    rw [sg_at, decide_eq_true (show q < q + 1 by omega), decide_eq_true (rfl : b = b), decide_eq_false (show ¬ q < q by omega), decide_eq_true (rfl : q = q)]
    rfl
  · rw [sg_ne e, decide_eq_false (show ¬ p = q by omega)]
    by_cases h : q < p
    · rw [decide_eq_true h, decide_eq_true (show q < p + 1 by omega)]
      cases decide (g q = b) <;> rfl
    · rw [decide_eq_false h, decide_eq_false (show ¬ q < p + 1 by omega)]
      rfl
theorem tkV_out {g : Nat → Nat} {p b c : Nat} (h : ¬ c = b) : tkV (sg g p b) (p + 1) c = tkV g p c := by
  refine set_ext (fun q => ?_)
  unfold tkV
  rw [set_bit, set_bit]
  by_cases e : q = p
  · subst e
    rw [sg_at, decide_eq_false (show ¬ b = c from fun e => h e.symm), decide_eq_false (show ¬ q < q by omega), Bool.and_false]
    rfl
  · rw [sg_ne e]
    by_cases h : q < p
    · rw [decide_eq_true h, decide_eq_true (show q < p + 1 by omega)]
    · rw [decide_eq_false h, decide_eq_false (show ¬ q < p + 1 by omega)]
theorem tkV_zero {g : Nat → Nat} {p b : Nat} : tkV g p b = 0 ↔ emG g p b = true := by
  rw [emG_iff]
  constructor
  · intro h q hq e
    have h2 : (tkV g p b).testBit q = false := by rw [h]; exact Nat.zero_testBit q
    unfold tkV at h2
    rw [set_bit, decide_eq_true hq, decide_eq_true e] at h2
    cases h2
  · intro h
    refine set_ext (fun q => ?_)
    unfold tkV
    rw [set_bit, Nat.zero_testBit]
    by_cases hq : q < p
    · rw [decide_eq_false (h q hq), Bool.and_false]
    · rw [decide_eq_false hq]
      rfl
theorem tkV_ok {R : Nat → Int32} {w N p b : Nat} {g : Nat → Nat} (hp : p < N) : tkV g p b &&& foV R w N p = 0 ↔ okG R w g p b = true := by
  rw [and_0, okG_iff]
  constructor
  · intro h q hq e
    cases hm : mayV R p q (n2 w)
    · refine (h q ?_ ?_).elim
      · unfold tkV
        rw [set_bit, decide_eq_true hq, decide_eq_true e]
        rfl
      · unfold foV foB
        rw [set_bit, decide_eq_true (show q < N by omega), hm, decide_eq_false (show ¬ q = p by omega)]
        rfl
    · rfl
  · intro h q h1 h2
    unfold tkV at h1
    rw [set_bit, Bool.and_eq_true, decide_eq_true_eq, decide_eq_true_eq] at h1
    unfold foV foB at h2
    rw [set_bit, h q h1.1 h1.2] at h2
    simp at h2
/-! the search in the memory -/
def FrS (τ s : Mem) : Prop := ∀ o, o ≠ 4 → o ≠ 38 → o ≠ 39 → o ≠ 40 → s o = τ o
theorem FrS.rf (τ : Mem) : FrS τ τ := fun _ _ _ _ _ => rfl
theorem FrS.tr {a b c : Mem} (h1 : FrS a b) (h2 : FrS b c) : FrS a c := fun o x1 x2 x3 x4 => (h2 o x1 x2 x3 x4).trans (h1 o x1 x2 x3 x4)
theorem FrS.w {a b : Mem} (h : FrS a b) {o k : Nat} {v : Int32} (ho : o = 4 ∨ o = 38 ∨ o = 39 ∨ o = 40) : FrS a (mu b o k v) := by
  intro q x1 x2 x3 x4
  rw [mu_off (by omega)]
  exact h q x1 x2 x3 x4
theorem FrS.X {a b : Mem} (h : FrS a b) : FrX a b := by
  intro o ho
  refine h o ?_ ?_ ?_ ?_ <;> (intro e; rw [e] at ho; exact absurd ho (by decide))
def BkC (p : Nat) (τ s : Mem) : Prop := FrS τ s ∧ s 4 = τ 4 ∧ s 39 = τ 39 ∧ s 40 = τ 40 ∧ ∀ q, q < p → s 38 q = τ 38 q
theorem BkC.rf (p : Nat) (τ : Mem) : BkC p τ τ := ⟨FrS.rf τ, rfl, rfl, rfl, fun _ _ => rfl⟩
theorem BkC.tr {p : Nat} {a b c : Mem} (h1 : BkC p a b) (h2 : BkC p b c) : BkC p a c := ⟨h1.1.tr h2.1, h2.2.1.trans h1.2.1, h2.2.2.1.trans h1.2.2.1, h2.2.2.2.1.trans h1.2.2.2.1, fun q hq => (h2.2.2.2.2 q hq).trans (h1.2.2.2.2 q hq)⟩
def PoC (N p : Nat) (τ : Mem) : Option (Nat → Nat) → Int32 → Mem → Prop
  | some h, r, s => r = 1 ∧ FrS τ s ∧ ∀ q, q < N → s 38 q = n2 (h q)
  | none, r, s => r = 0 ∧ BkC p τ s
theorem PoC.bk {N p : Nat} {τ s : Mem} {o : Option (Nat → Nat)} {r : Int32} {u : Mem} (hb : BkC p τ s) (h : PoC N p s o r u) : PoC N p τ o r u := by
  cases o with
  | none => exact ⟨h.1, hb.tr h.2⟩
  | some k => exact ⟨h.1, hb.1.tr h.2.1, h.2.2⟩
def SeC (τ : Mem) (R : Nat → Int32) (N w m : Nat) (ak : Bool) (p : Nat) (g W : Nat → Nat) (I : Nat) : Prop :=
  LkC τ N w R ∧ τ 4 6 = n2 m ∧ τ 4 7 = n2 I ∧ τ 4 8 = b2 ak ∧ (∀ q, q < p → τ 38 q = n2 (g q)) ∧ (∀ b, b < m → τ 39 b = n2 (tkV g p b)) ∧ (∀ b, b < m → τ 40 b = n2 (W b) ∧ W b ≤ 8) ∧ I ≤ 8
theorem SeC.bk {τ s : Mem} {R : Nat → Int32} {N w m p I : Nat} {ak : Bool} {g W : Nat → Nat} (h : SeC τ R N w m ak p g W I) (hb : BkC p τ s) : SeC s R N w m ak p g W I := by
  obtain ⟨⟨a1, a2, a3⟩, b1, b2', b3, b4, b5, b6, b7⟩ := h
  obtain ⟨c1, c2, c3, c4, c5⟩ := hb
  have c37 : s 37 = τ 37 := c1 37 (by decide) (by decide) (by decide) (by decide)
  exact ⟨⟨by rw [c2]; exact a1, by rw [c2]; exact a2, fun p hp => by rw [c37]; exact a3 p hp⟩, by rw [c2]; exact b1, by rw [c2]; exact b2', by rw [c2]; exact b3, fun q hq => (c5 q hq).trans (b4 q hq), fun b hb => by rw [c3]; exact b5 b hb, fun b hb => by rw [c4]; exact b6 b hb, b7⟩
theorem upd_self {A : Nat → Int32} {k : Nat} {v : Int32} (h : A k = v) : upd A k v = A := by
  funext j
  by_cases e : j = k
  · rw [e, upd_at, h]
  · rw [upd_ne e]
theorem n2_dec {a : Nat} (h : 0 < a) (h2 : a < 2147483648) : n2 a - 1 = n2 (a - 1) := n2_sub (b := 1) h h2
theorem n2_inc {a : Nat} (h2 : a < 1000) : n2 a - (-1) = n2 (a + 1) := by
  apply Int32.toInt_inj.mp
  rw [Int32.toInt_sub, n2_int (by omega), n2_int (by omega), show (-1 : Int32).toInt = -1 from rfl]
  unfold Int.bmod
  simp only
  split <;> omega
theorem x_enters {s : Mem} {b p : Nat} (hb : b < 8) (hp : p < 8) (v : Int32) : p_X4_enters (n2 b) (n2 p) v s = some ((), mu (mu (mu s 38 p (n2 b)) 39 b (s 39 b ^^^ n2 (2 ^ p))) 40 b (s 40 b - v)) := by
  unfold p_X4_enters
  simp (disch := omega) only [n2_nat, iin, wrE, ltE, mu_off, n2_shl p hp]
def seK (rc : Int32 → Mem → Option (Int32 × Mem)) (x1 : Int32) : Mem → Option (Int32 × Mem) := fun (m21 : Mem) => (lt (m21 4 7) fun v22 => (if v22 ≤ 0 then some ((0 : Int32), m21) else (if x1 < 0 ∨ 8 ≤ (x1).toNatClampNeg then none else wr m21 38 (x1).toNatClampNeg (9 : Int32) fun s23 => (lt (s23 4 7) fun v24 => (wr s23 4 7 (v24 - (1 : Int32)) fun s25 => (bnd (rc (x1 + (1 : Int32)) s25) fun v26 s27 => (if v26 = 0 then (lt (s27 4 7) fun v29 => (wr s27 4 7 (v29 + (1 : Int32)) fun s30 => some ((0 : Int32), s30))) else some ((1 : Int32), s27))))))))
def zr (a : Option (Nat → Nat)) : Option (Option (Nat → Nat)) → Option (Nat → Nat)
  | some o => o
  | none => a
section SEATS
variable {R : Nat → Int32} {N w m : Nat} {ak : Bool}
theorem fx_step {β : Type} {f : Nat → Option β} {s : Nat → Bool} {b : Nat} (hb : b < m) : fx f s (m - b) b = match f b with
    | some r => some (some r)
    | none => if s b = true then some none else fx f s (m - (b + 1)) (b + 1) := by
  rw [show m - b = (m - (b + 1)) + 1 by omega]
  rfl
theorem sec_ashore {τ : Mem} {p I : Nat} {g W : Nat → Nat} (hm : m ≤ 8) (h : SeC τ R N w m ak p g W I) : SeC (mu τ 38 p 9) R N w m ak (p + 1) (sg g p 9) W I := by
  obtain ⟨⟨a1, a2, a3⟩, b1, b2', b3, b4, b5, b6, b7⟩ := h
  refine ⟨⟨by rw [mu_off (by decide)]; exact a1, by rw [mu_off (by decide)]; exact a2, fun p hp => by rw [mu_off (by decide)]; exact a3 p hp⟩, by rw [mu_off (by decide)]; exact b1, by rw [mu_off (by decide)]; exact b2', by rw [mu_off (by decide)]; exact b3, fun q hq => ?_, fun b hb => ?_, fun b hb => by rw [mu_off (by decide)]; exact b6 b hb, b7⟩
  · by_cases e : q = p
    · subst e
      rw [mu_at, sg_at]
      rfl
    · rw [mu_ne (by omega), sg_ne e]
      exact b4 q (by omega)
  · rw [mu_off (by decide), tkV_out (by omega)]
    exact b5 b hb
theorem sec_in {τ : Mem} {p I b : Nat} {g W : Nat → Nat} (hm : m ≤ 8) (hb : b < m) (hW : 0 < W b) (h : SeC τ R N w m ak p g W I) : SeC (mu (mu (mu τ 38 p (n2 b)) 39 b (τ 39 b ^^^ n2 (2 ^ p))) 40 b (τ 40 b - 1)) R N w m ak (p + 1) (sg g p b) (dc W b) I := by
  obtain ⟨⟨a1, a2, a3⟩, b1, b2', b3, b4, b5, b6, b7⟩ := h
  generalize hT : mu (mu (mu τ 38 p (n2 b)) 39 b (τ 39 b ^^^ n2 (2 ^ p))) 40 b (τ 40 b - 1) = s
  have s4 : s 4 = τ 4 := by rw [← hT, mu_off (by decide), mu_off (by decide), mu_off (by decide)]
  have s37 : s 37 = τ 37 := by rw [← hT, mu_off (by decide), mu_off (by decide), mu_off (by decide)]
  have s38 : s 38 = upd (τ 38) p (n2 b) := by rw [← hT, mu_off (by decide), mu_off (by decide), mu_row]
  have s39 : s 39 = upd (τ 39) b (τ 39 b ^^^ n2 (2 ^ p)) := by rw [← hT, mu_off (by decide), mu_row, mu_off (by decide)]
  have s40 : s 40 = upd (τ 40) b (τ 40 b - 1) := by rw [← hT, mu_row, mu_off (by decide), mu_off (by decide)]
  refine ⟨⟨by rw [s4]; exact a1, by rw [s4]; exact a2, fun p hp => by rw [s37]; exact a3 p hp⟩, by rw [s4]; exact b1, by rw [s4]; exact b2', by rw [s4]; exact b3, fun q hq => ?_, fun c hc => ?_, fun c hc => ?_, b7⟩
  · rw [s38]
    by_cases e : q = p
    · subst e
      rw [upd_at, sg_at]
    · rw [upd_ne e, sg_ne e]
      exact b4 q (by omega)
  · rw [s39]
    by_cases e : c = b
    · subst e
      rw [upd_at, tkV_in, b5 c hc, n2_xor]
    · rw [upd_ne e, tkV_out e]
      exact b5 c hc
  · rw [s40]
    obtain ⟨w1, w2⟩ := b6 b hb
    unfold dc
    by_cases e : c = b
    · subst e
      rw [upd_at, if_pos rfl, w1, n2_dec hW (by omega)]
      exact ⟨rfl, by omega⟩
    · rw [upd_ne e, if_neg e]
      exact b6 c hc
theorem x_seats (hm : m ≤ 8) (h8 : N ≤ 8) : ∀ t p g W I τ d, p + t = N → t < d → SeC τ R N w m ak p g W I → Tm (p_X4_seats d (n2 p) τ) (PoC N p τ (clG R w m ak t p g W I)) := by
  intro t
  induction t with
  | zero =>
    intro p g W I τ d hp hd hS
    obtain ⟨d, rfl⟩ : ∃ k, d = k + 1 := ⟨d - 1, by omega⟩
    show Tm (p_X4_seats_E (p_X4_seats d) (n2 p) τ) _
    unfold p_X4_seats_E
    rw [ltE, hS.1.1, ilt_f ⟨by omega, by omega⟩]
    exact Tm.ret ⟨rfl, FrS.rf τ, fun q hq => hS.2.2.2.2.1 q (by omega)⟩
  | succ t ih =>
    intro p g W I τ d hp hd hS
    obtain ⟨d, rfl⟩ : ∃ k, d = k + 1 := ⟨d - 1, by omega⟩
    have hA := alive_lt (R := R) h8
    show Tm (p_X4_seats_E (p_X4_seats d) (n2 p) τ) _
    unfold p_X4_seats_E
    rw [ltE, hS.1.1, ilt_t ⟨by omega, by omega⟩, ltE, hS.1.2.1, x_holds τ hA (show p < 8 by omega), bndE, b2z, alive_bit h8, decide_eq_true (show p < N by omega)]
    simp only [clG]
    by_cases hl : lo R p = 1
    · rw [decide_eq_true hl, if_neg (by decide), if_pos hl]
      simp (disch := omega) only [n2_nat, iin, wrE, n2_succ]
      refine (ih (p + 1) _ W I _ d (by omega) (by omega) (sec_ashore hm hS)).bd (fun r s q => ?_)
      cases ho : clG R w m ak t (p + 1) (sg g p 9) W I with
      | some h =>
        rw [ho] at q
        obtain ⟨rfl, q2, q3⟩ := q
        exact Tm.ret ⟨rfl, ((FrS.rf τ).w (Or.inr (Or.inl rfl))).tr q2, q3⟩
      | none =>
        rw [ho] at q
        obtain ⟨rfl, q1, q2, q3, q4, q5⟩ := q
        refine Tm.ret ⟨rfl, ((FrS.rf τ).w (Or.inr (Or.inl rfl))).tr q1, ?_, ?_, ?_, fun q hq => ?_⟩
        · rw [q2, mu_off (by decide)]
        · rw [q3, mu_off (by decide)]
        · rw [q4, mu_off (by decide)]
        · rw [q5 q (by omega), mu_ne (by omega)]
    · rw [decide_eq_false hl, if_pos (show (true && !false) = true from rfl), if_neg hl]
      generalize hF : (fun b => if 0 < W b then (if okG R w g p b = true then clG R w m ak t (p + 1) (sg g p b) (dc W b) I else none) else none) = F
      generalize hZ : fx F (fun b => ak && emG g p b) m 0 = Z
      show Tm (p_X4_seats_L39 (seK (p_X4_seats d) (n2 p)) (p_X4_seats d) (n2 p) 1000 (n2 0) τ) (PoC N p τ (zr (if 0 < I then clG R w m ak t (p + 1) (sg g p 9) W (I - 1) else none) Z))
      generalize hAL : (if 0 < I then clG R w m ak t (p + 1) (sg g p 9) W (I - 1) else none) = AL
      refine lpT (L := fun j b (_ : Unit) s => p_X4_seats_L39 (seK (p_X4_seats d) (n2 p)) (p_X4_seats d) (n2 p) j (n2 b) s) (N := m) (fun b _ s => BkC p τ s ∧ fx F (fun b => ak && emG g p b) (m - b) b = Z) (fun j b _ s hb hI hK => ?_) (fun j _ s hI => ?_) m 0 () τ 1000 (by omega) (by omega) ⟨BkC.rf p τ, hZ⟩
      · obtain ⟨hbk, he⟩ := hI
        rw [fx_step hb] at he
        have hS2 := hS.bk hbk
        obtain ⟨⟨a1, a2, a3⟩, b1, b2', b3, b4, b5, b6, b7⟩ := id hS2
        obtain ⟨w1, w2⟩ := b6 b hb
        have t1 := tkV_lt (g := g) (p := p) (b := b) (by omega)
        have f1 := fo_lt (R := R) (w := w) (p := p) h8
        have f2 : tkV g p b &&& foV R w N p < 256 := Nat.lt_of_le_of_lt Nat.and_le_left t1
        have hgo : ∀ (t0 : Int32), t0 = b2 (emG g p b) → Tm (p_X4_seats_B61 (p_X4_seats_L39 (seK (p_X4_seats d) (n2 p)) (p_X4_seats d) (n2 p) j) (p_X4_seats d) (n2 p) (n2 b) t0 s) (PoC N p τ (zr AL Z)) := fun t0 ht0 => by
          have h113 : ∀ s', BkC p τ s' → F b = none → Tm (p_X4_seats_B113 (p_X4_seats_L39 (seK (p_X4_seats d) (n2 p)) (p_X4_seats d) (n2 p) j) (p_X4_seats d) (n2 p) (n2 b) t0 s') (PoC N p τ (zr AL Z)) := fun s' hb' hf => by
            have hS3 := hS.bk hb'
            rw [hf] at he
            simp only at he
            unfold p_X4_seats_B113 p_X4_seats_B126
            rw [ht0, b2z, ltE, hS3.2.2.2.1, b2z, n2_succ]
            cases e1 : emG g p b
            · rw [e1, Bool.and_false, if_neg (by decide)] at he
              rw [if_neg (by decide)]
              exact hK () s' ⟨hb', he⟩
            · rw [if_pos rfl]
              cases ak
              · rw [e1, if_neg (show ¬ (false && true) = true by decide)] at he
                rw [if_neg (by decide)]
                exact hK () s' ⟨hb', he⟩
              · rw [e1, if_pos (show (true && true) = true from rfl)] at he
                rw [if_pos rfl, ← he]
                exact Tm.ret ⟨rfl, hb'⟩
          unfold p_X4_seats_B61
          simp (disch := omega) only [n2_nat, iin, ltE, w1, ile0, b5 b hb, a3 p (show p < N by omega), n2_and, ieq0]
          by_cases q1 : W b = 0
          · rw [if_pos q1]
            exact h113 s hbk (by rw [← hF]; simp only; rw [if_neg (by omega)])
          · rw [if_neg q1]
            by_cases q2 : okG R w g p b = true
            · rw [if_pos ((tkV_ok (show p < N by omega)).mpr q2), x_enters (by omega) (by omega), bndE, n2_succ]
              have hFb : F b = clG R w m ak t (p + 1) (sg g p b) (dc W b) I := by
                rw [← hF]
                simp only
                rw [if_pos (by omega), if_pos q2]
              have hE := sec_in hm hb (show 0 < W b by omega) hS2
              refine (ih (p + 1) _ _ I _ d (by omega) (by omega) hE).bd (fun r u q => ?_)
              cases ho : clG R w m ak t (p + 1) (sg g p b) (dc W b) I with
              | some h =>
                rw [ho] at q hFb
                rw [hFb] at he
                obtain ⟨rfl, q2, q3⟩ := q
                rw [if_neg (by decide), ← he]
                exact Tm.ret ⟨rfl, (((hbk.1.w (Or.inr (Or.inl rfl))).w (Or.inr (Or.inr (Or.inl rfl)))).w (Or.inr (Or.inr (Or.inr rfl)))).tr q2, q3⟩
              | none =>
                rw [ho] at q hFb
                obtain ⟨rfl, g1, g2, g3, g4, g5⟩ := q
                rw [if_pos rfl, x_enters (by omega) (by omega), bndE]
                refine h113 _ ⟨((((((hbk.1.w (Or.inr (Or.inl rfl))).w (Or.inr (Or.inr (Or.inl rfl)))).w (Or.inr (Or.inr (Or.inr rfl)))).tr g1).w (Or.inr (Or.inl rfl))).w (Or.inr (Or.inr (Or.inl rfl)))).w (Or.inr (Or.inr (Or.inr rfl))), ?_, ?_, ?_, fun q hq => ?_⟩ hFb
                · rw [mu_off (by decide), mu_off (by decide), mu_off (by decide), g2, mu_off (by decide), mu_off (by decide), mu_off (by decide)]
                  exact hbk.2.1
                · rw [mu_off (by decide), mu_row, mu_off (by decide), g3, mu_off (by decide), mu_row, upd_upd, upd_at, mu_off (by decide), b5 b hb, n2_xor, n2_xor, Nat.xor_assoc, Nat.xor_self, Nat.xor_zero, upd_self (b5 b hb)]
                  exact hbk.2.2.1
                · rw [mu_row, mu_off (by decide), mu_off (by decide), g4, mu_row, upd_upd, upd_at, mu_off (by decide), mu_off (by decide), w1, n2_dec (by omega) (by omega), n2_inc (by omega), show W b - 1 + 1 = W b by omega, upd_self w1]
                  exact hbk.2.2.2.1
                · rw [mu_off (by decide), mu_off (by decide), mu_ne (by omega), g5 q (by omega), mu_off (by decide), mu_off (by decide), mu_ne (by omega)]
                  exact hbk.2.2.2.2 q hq
            · rw [if_neg (fun e => q2 ((tkV_ok (show p < N by omega)).mp e))]
              exact h113 s hbk (by rw [← hF]; simp only; rw [if_pos (by omega), if_neg q2])
        show Tm (p_X4_seats_B39 (p_X4_seats_L39 (seK (p_X4_seats d) (n2 p)) (p_X4_seats d) (n2 p) j) (seK (p_X4_seats d) (n2 p)) (p_X4_seats d) (n2 p) (n2 b) s) _
        unfold p_X4_seats_B39
        rw [ltE, b1, ile_f ⟨by omega, by omega⟩]
        simp (disch := omega) only [n2_nat, iin, ltE, b5 b hb, ieq0]
        by_cases e1 : emG g p b = true
        · rw [if_pos (tkV_zero.mpr e1)]
          exact hgo 1 (by rw [e1]; rfl)
        · rw [if_neg (fun e => e1 (tkV_zero.mp e))]
          exact hgo 0 (by rw [Bool.not_eq_true] at e1; rw [e1]; rfl)
      · obtain ⟨hbk, he⟩ := hI
        have hS2 := hS.bk hbk
        obtain ⟨⟨a1, a2, a3⟩, b1, b2', b3, b4, b5, b6, b7⟩ := id hS2
        rw [Nat.sub_self] at he
        have he : none = Z := he
        rw [← he]
        show Tm _ (PoC N p τ AL)
        rw [← hAL]
        show Tm (p_X4_seats_B39 (p_X4_seats_L39 (seK (p_X4_seats d) (n2 p)) (p_X4_seats d) (n2 p) j) (seK (p_X4_seats d) (n2 p)) (p_X4_seats d) (n2 p) (n2 m) s) _
        unfold p_X4_seats_B39 seK
        rw [ltE, b1, ile_t ⟨by omega, by omega⟩]
        simp (disch := omega) only [ltE, b2', ile0, n2_nat, iin, wrE, n2_succ]
        by_cases hI0 : I = 0
        · rw [if_pos hI0, if_neg (by omega)]
          exact Tm.ret ⟨rfl, hbk⟩
        · rw [if_neg hI0, if_pos (by omega)]
          have e47 : mu s 38 p 9 4 7 = n2 I := by rw [mu_off (by decide)]; exact b2'
          rw [e47, n2_dec (by omega) (by omega)]
          have hE : SeC (mu (mu s 38 p 9) 4 7 (n2 (I - 1))) R N w m ak (p + 1) (sg g p 9) W (I - 1) := by
            obtain ⟨⟨c1, c2, c3⟩, d1, d2, d3, d4, d5, d6, d7⟩ := sec_ashore hm hS2
            exact ⟨⟨by rw [mu_ne (by omega)]; exact c1, by rw [mu_ne (by omega)]; exact c2, fun q hq => by rw [mu_ne (by omega)]; exact c3 q hq⟩, by rw [mu_ne (by omega)]; exact d1, mu_at _ _ _ _, by rw [mu_ne (by omega)]; exact d3, fun q hq => by rw [mu_ne (by omega)]; exact d4 q hq, fun b hb => by rw [mu_ne (by omega)]; exact d5 b hb, fun b hb => by rw [mu_ne (by omega)]; exact d6 b hb, by omega⟩
          refine (ih (p + 1) _ W (I - 1) _ d (by omega) (by omega) hE).bd (fun r u q => ?_)
          cases ho : clG R w m ak t (p + 1) (sg g p 9) W (I - 1) with
          | some h =>
            rw [ho] at q
            obtain ⟨rfl, q2, q3⟩ := q
            rw [if_neg (by decide)]
            exact Tm.ret ⟨rfl, ((hbk.1.w (Or.inr (Or.inl rfl))).w (Or.inl rfl)).tr q2, q3⟩
          | none =>
            rw [ho] at q
            obtain ⟨rfl, g1, g2, g3, g4, g5⟩ := q
            rw [if_pos rfl]
            have e4 : u 4 7 = n2 (I - 1) := by rw [g2, mu_at]
            rw [e4, n2_succ, show I - 1 + 1 = I by omega]
            refine Tm.ret ⟨rfl, (((hbk.1.w (Or.inr (Or.inl rfl))).w (Or.inl rfl)).tr g1).w (Or.inl rfl), ?_, ?_, ?_, fun q hq => ?_⟩
            · rw [mu_row, g2, mu_row, upd_upd, mu_off (by decide), upd_self b2']
              exact hbk.2.1
            · rw [mu_off (by decide), g3, mu_off (by decide), mu_off (by decide)]
              exact hbk.2.2.1
            · rw [mu_off (by decide), g4, mu_off (by decide), mu_off (by decide)]
              exact hbk.2.2.2.1
            · rw [mu_off (by decide), g5 q (by omega), mu_off (by decide), mu_ne (by omega)]
              exact hbk.2.2.2.2 q hq
end SEATS
