/-! the best crew, the cheapest one -/
def skV2 (R : Nat → Int32) (N a : Nat) : Nat := suS (skillN R) N a
def pyV2 (R : Nat → Int32) (N a : Nat) : Nat := suS (payN R) N a
theorem skV2_le {R : Nat → Int32} {N a : Nat} (h : OkR R N) : skV2 R N a ≤ 192 := su_le h.2.1 (fun _ hp => skill_le h hp)
theorem pyV2_le {R : Nat → Int32} {N a : Nat} (h : OkR R N) : pyV2 R N a ≤ 192 := su_le h.2.1 (fun _ hp => pay_le h hp)
def bsF (R : Nat → Int32) (w N n a : Nat) : Option Nat → Option Nat
  | none => if pop a = n then (if crB R w N a = true then some a else none) else none
  | some b => if pop a = n then (if crB R w N a = true then (if skV2 R N b < skV2 R N a then some a else some b) else some b) else some b
def okA (a : Option Nat) : Prop := ∀ b, a = some b → b < 256
theorem bsF_ok {R : Nat → Int32} {w N n a : Nat} {o : Option Nat} (ha : a < 256) (h : okA o) : okA (bsF R w N n a o) := by
  intro b hb
  cases o with
  | none =>
    simp only [bsF] at hb
    split at hb
    · split at hb
      · cases hb
        exact ha
      · cases hb
    · cases hb
  | some x =>
    have hx := h x rfl
    simp only [bsF] at hb
    split at hb
    · split at hb
      · split at hb
        · cases hb
          exact ha
        · cases hb
          exact hx
      · cases hb
        exact hx
    · cases hb
      exact hx
theorem bsF_no {R : Nat → Int32} {w N n a : Nat} {o : Option Nat} (h : crB R w N a = false) : bsF R w N n a o = o := by
  have h2 : ¬ crB R w N a = true := by rw [h]; decide
  cases o with
  | none =>
    simp only [bsF, if_neg h2]
    split <;> rfl
  | some x =>
    simp only [bsF, if_neg h2]
    split <;> rfl
def bsV (R : Nat → Int32) (w N n : Nat) : Option Nat := fo (bsF R w N n) (aliveV R N + 1) 0 none
theorem bsV_ok {R : Nat → Int32} {w N n : Nat} (h8 : N ≤ 8) : okA (bsV R w N n) :=
  fo_inv (f := bsF R w N n) (N := aliveV R N + 1) (fun _ a => okA a) (fun p a hp h => bsF_ok (by have := alive_lt (R := R) h8; omega) h) _ 0 none (by omega) (fun b hb => by cases hb)
def mo1 (R : Nat → Int32) (N : Nat) : Option Nat → Int32
  | none => -1
  | some b => n2 (skV2 R N b)
section BCREW
variable {N w n : Nat}
theorem x_mostS {s : Mem} {R : Nat → Int32} (hC : CL3 s 1 N R) (hL : LkC s N w R) (hn : n < 2147483648) : p_X4_mostSkilled 1 (n2 n) s = some (oe (bsV R w N n), s) := by
  have h8 := hC.le8
  have hp8 := pow_le h8
  unfold bsV
  rw [← fo_alive (w := w) h8 (fun q a hq => bsF_no hq)]
  refine lp (L := fun g a o => p_X4_mostSkilled_L9 1 (n2 n) g (oe o) (mo1 R N o) (n2 a) s) (f := bsF R w N n) (fin := fun o => some (oe o, s)) (N := 2 ^ N) (fun _ o => okA o) (fun a o ha h => bsF_ok (by omega) h) (fun g a o ha ho => ?_) (fun g o ho => ?_) (2 ^ N) 0 none 1000 (by omega) (by omega) (fun b hb => by cases hb)
  · show p_X4_mostSkilled_B9 (p_X4_mostSkilled_L9 1 (n2 n) g) 1 (n2 n) (oe o) (mo1 R N o) (n2 a) s = _
    have p1 := pop_le a
    have hs : p_X3_skillOf 1 (n2 a) s = some (n2 (skV2 R N a), s) := x_skillOf isC1 hC (show a < 256 by omega)
    have l1 := skV2_le (a := a) hC.2.1
    unfold p_X4_mostSkilled_B9 p_X4_mostSkilled_B60
    simp (disch := omega) only [ltE, hL.1, n2_shl9 N (by omega), ileq, ieq, x_pop (show a < 256 by omega), bndE, x_isCrew hL h8 (show a < 256 by omega), b2z, hs, n2_succ]
    rw [if_neg (by omega)]
    by_cases q1 : pop a = n
    · rw [if_pos q1]
      cases q2 : crB R w N a
      · rw [bsF_no q2, if_neg (by decide)]
      · rw [if_pos rfl]
        cases o with
        | none =>
          have e : bsF R w N n a none = some a := by simp only [bsF]; rw [if_pos q1, if_pos q2]
          rw [e, if_neg]
          · rfl
          · show ¬ n2 (skV2 R N a) ≤ -1
            rw [Int32.le_iff_toInt_le, n2_int (by omega), show (-1 : Int32).toInt = -1 from rfl]
            omega
        | some b =>
          have l2 := skV2_le (a := b) hC.2.1
          show (if n2 (skV2 R N a) ≤ n2 (skV2 R N b) then _ else _) = _
          rw [ileq ⟨by omega, by omega⟩]
          by_cases q3 : skV2 R N b < skV2 R N a
          · have e : bsF R w N n a (some b) = some a := by simp only [bsF]; rw [if_pos q1, if_pos q2, if_pos q3]
            rw [e, if_neg (by omega)]
            rfl
          · have e : bsF R w N n a (some b) = some b := by simp only [bsF]; rw [if_pos q1, if_pos q2, if_neg q3]
            rw [e, if_pos (by omega)]
    · rw [if_neg q1]
      have e : bsF R w N n a o = o := by cases o <;> simp only [bsF, if_neg q1]
      rw [e]
  · show p_X4_mostSkilled_B9 (p_X4_mostSkilled_L9 1 (n2 n) g) 1 (n2 n) (oe o) (mo1 R N o) (n2 (2 ^ N)) s = _
    unfold p_X4_mostSkilled_B9
    simp (disch := omega) only [ltE, hL.1, n2_shl9 N (by omega), ile_t]
theorem m_bestL {σ : Mem} (h : OkR (σ 66) N) (x2 : Int32) (hn : n < 2147483648) (k : Int32 → Mem → Option (Int32 × Mem)) : p_X12_bestCrew_L35 k (n2 n) x2 1000 (n2 (aliveV (σ 66) N)) (-4) 0 σ = k (oe (bsV (σ 66) (lawN (σ 66)) N n)) σ := by
  have h8 := h.2.1
  have hA := alive_lt (R := σ 66) h8
  have hw := (lawN_eq h).1
  refine lp (L := fun g a o => p_X12_bestCrew_L35 k (n2 n) x2 g (n2 (aliveV (σ 66) N)) (oe o) (n2 a) σ) (f := bsF (σ 66) (lawN (σ 66)) N n) (fin := fun o => k (oe o) σ) (N := aliveV (σ 66) N + 1) (fun _ o => okA o) (fun a o ha h => bsF_ok (by omega) h) (fun g a o ha ho => ?_) (fun g o ho => ?_) (aliveV (σ 66) N + 1) 0 none 1000 (by omega) (by omega) (fun b hb => by cases hb)
  · show p_X12_bestCrew_B35 (p_X12_bestCrew_L35 k (n2 n) x2 g) k (n2 n) x2 (n2 (aliveV (σ 66) N)) (oe o) (n2 a) σ = _
    have p1 := pop_le a
    have l3 := mask_le (b := aliveV (σ 66) N) (show a < 256 by omega)
    have hs : p_X12_skillIn (n2 a) σ = some (n2 (skV2 (σ 66) N a), σ) := m_skillIn h (show a < 256 by omega)
    have l1 := skV2_le (a := a) h
    have hcr : a &&& (255 ^^^ aliveV (σ 66) N) = 0 → crB (σ 66) (lawN (σ 66)) N a = lawB (σ 66) (lawN (σ 66)) N a := fun e => by
      unfold crB
      rw [decide_eq_true e]
      rfl
    have hgo : a &&& (255 ^^^ aliveV (σ 66) N) = 0 → pop a = n → (∀ b, o = some b → skV2 (σ 66) N b < skV2 (σ 66) N a) → p_X12_bestCrew_B82 (p_X12_bestCrew_L35 k (n2 n) x2 g) (n2 n) x2 (n2 (aliveV (σ 66) N)) (oe o) (n2 a) σ = p_X12_bestCrew_L35 k (n2 n) x2 g (n2 (aliveV (σ 66) N)) (oe (bsF (σ 66) (lawN (σ 66)) N n a o)) (n2 (a + 1)) σ := fun q0 q1 hb => by
      unfold p_X12_bestCrew_B82 p_X12_bestCrew_B104
      simp (disch := omega) only [ii1, c1, ltE, hw, m_lawful h (show a < 256 by omega), bndE, b2z, n2_succ]
      cases q2 : lawB (σ 66) (lawN (σ 66)) N a
      · rw [if_neg (by decide), bsF_no (by rw [hcr q0]; exact q2)]
      · rw [if_pos rfl]
        have q2 : crB (σ 66) (lawN (σ 66)) N a = true := by rw [hcr q0]; exact q2
        have e : bsF (σ 66) (lawN (σ 66)) N n a o = some a := by
          cases o with
          | none => simp only [bsF]; rw [if_pos q1, if_pos q2]
          | some b => simp only [bsF]; rw [if_pos q1, if_pos q2, if_pos (hb b rfl)]
        rw [e]
        rfl
    unfold p_X12_bestCrew_B35 p_X12_bestCrew_B104
    simp (disch := omega) only [iltq, n2_mask (show a < 256 by omega) hA, ieq0, ieq, m_pop (show a < 256 by omega), bndE, hs, n2_succ]
    rw [if_neg (by omega)]
    by_cases q0 : a &&& (255 ^^^ aliveV (σ 66) N) = 0
    · rw [if_pos q0]
      by_cases q1 : pop a = n
      · rw [if_pos q1]
        cases o with
        | none =>
          rw [if_pos (show oe none < 0 by decide)]
          exact hgo q0 q1 (fun b hb => by cases hb)
        | some b =>
          have hb := ho b rfl
          have l2 := skV2_le (a := b) h
          have hs2 : p_X12_skillIn (n2 b) σ = some (n2 (skV2 (σ 66) N b), σ) := m_skillIn h hb
          simp (disch := omega) only [oe_some, ilt0, hs2, bndE, iltq]
          by_cases q3 : skV2 (σ 66) N b < skV2 (σ 66) N a
          · rw [if_pos q3]
            exact hgo q0 q1 (fun b' hb' => by cases hb'; exact q3)
          · rw [if_neg q3]
            have e : bsF (σ 66) (lawN (σ 66)) N n a (some b) = some b := by
              simp only [bsF]
              rw [if_pos q1, if_neg q3]
              split <;> rfl
            rw [e]
            rfl
      · rw [if_neg q1]
        have e : bsF (σ 66) (lawN (σ 66)) N n a o = o := by cases o <;> simp only [bsF, if_neg q1]
        rw [e]
    · rw [if_neg q0, bsF_no (by unfold crB; rw [decide_eq_false q0]; rfl)]
  · show p_X12_bestCrew_B35 (p_X12_bestCrew_L35 k (n2 n) x2 g) k (n2 n) x2 (n2 (aliveV (σ 66) N)) (oe o) (n2 (aliveV (σ 66) N + 1)) σ = _
    unfold p_X12_bestCrew_B35
    simp (disch := omega) only [ilt_t]
end BCREW
theorem st_bestCrew : St2 Inv p_X11_bestCrew p_X12_bestCrew := by
  intro x y σ hI
  obtain ⟨N, t, hL, -, -, -, -⟩ := getI hI
  have h8 := hL.le8
  have h := hL.2.1
  have hw := lawN_eq h
  have e17 : σ 1 7 = n2 (lawN (σ 66)) := hL.lawq
  cases hx : inV x 1 5
  · refine st_read hI (r := (-1 : Int32)) ?_ ?_
    · unfold p_X11_bestCrew
      simp only [x_within, bndE, b2z, hx]
      rfl
    · unfold p_X12_bestCrew
      simp only [m_isIn, bndE, b2z, hx]
      rfl
  cases hy : inV y 0 1
  · refine st_read hI (r := (-1 : Int32)) ?_ ?_
    · unfold p_X11_bestCrew
      simp only [x_within, bndE, b2z, hx, if_true, x_isPart, hy]
      rfl
    · unfold p_X12_bestCrew
      simp only [m_isIn, bndE, b2z, hx, if_true, hy]
      rfl
  obtain ⟨n, -, hn, rfl⟩ := in_n2 (lo := 1) (hi := 5) (by decide) (by decide) hx
  have hO := bsV_ok (R := σ 66) (w := lawN (σ 66)) (n := n) h8
  refine st_scr hI (r := match bsV (σ 66) (lawN (σ 66)) N n with
    | none => -4
    | some b => if y = 0 then n2 b else n2 (skV2 (σ 66) N b)) ?_ (fun s hX => ?_)
  · unfold p_X11_bestCrew p_X11_bestCrew_B57
    simp only [x_within, bndE, b2z, hx, if_true, x_isPart, hy, ltE, e17]
    refine (x_lookAt hL hw.2).bd (fun _ s q => ?_)
    rw [x_mostS (hL.x q.1) q.2 (by omega), bndE]
    generalize bsV (σ 66) (lawN (σ 66)) N n = o at hO ⊢
    cases o with
    | none => exact Tm.ret ⟨rfl, q.1⟩
    | some b =>
      have hb := hO b rfl
      have hs : p_X3_skillOf 1 (n2 b) s = some (n2 (skV2 (σ 66) N b), s) := x_skillOf isC1 (hL.x q.1) hb
      simp (disch := omega) only [oe_some, ilt0, hs, bndE]
      split
      · exact Tm.ret ⟨rfl, q.1⟩
      · exact Tm.ret ⟨rfl, q.1⟩
  · have e66 : s 66 = σ 66 := hX 66 (by decide)
    have h' : OkR (s 66) N := by rw [e66]; exact h
    have hm := fun k => m_bestL (n := n) h' y (by omega) k
    have ha := m_aliveSet (r := 66) h'
    rw [e66] at hm ha
    unfold p_X12_bestCrew p_X12_bestCrew_B119
    simp only [m_isIn, bndE, b2z, hx, if_true, hy, ha, hm]
    generalize bsV (σ 66) (lawN (σ 66)) N n = o at hO ⊢
    cases o with
    | none => exact Tm.ret ⟨rfl, FrM.rf s⟩
    | some b =>
      have hb := hO b rfl
      have hs := m_skillIn h' hb
      rw [e66] at hs
      have hs : p_X12_skillIn (n2 b) s = some (n2 (skV2 (σ 66) N b), s) := hs
      simp (disch := omega) only [oe_some, ilt0, hs, bndE]
      split
      · exact Tm.ret ⟨rfl, FrM.rf s⟩
      · exact Tm.ret ⟨rfl, FrM.rf s⟩
def chF (R : Nat → Int32) (w N v a : Nat) : Option Nat → Option Nat
  | none => if crB R w N a = true then (if skV2 R N a < v then none else some a) else none
  | some b => if crB R w N a = true then (if skV2 R N a < v then some b else if pyV2 R N a < pyV2 R N b then some a else some b) else some b
theorem chF_ok {R : Nat → Int32} {w N v a : Nat} {o : Option Nat} (ha : a < 256) (h : okA o) : okA (chF R w N v a o) := by
  intro b hb
  cases o with
  | none =>
    simp only [chF] at hb
    split at hb
    · split at hb
      · cases hb
      · cases hb
        exact ha
    · cases hb
  | some x =>
    have hx := h x rfl
    simp only [chF] at hb
    split at hb
    · split at hb
      · cases hb
        exact hx
      · split at hb
        · cases hb
          exact ha
        · cases hb
          exact hx
    · cases hb
      exact hx
theorem chF_no {R : Nat → Int32} {w N v a : Nat} {o : Option Nat} (h : crB R w N a = false) : chF R w N v a o = o := by
  have h2 : ¬ crB R w N a = true := by rw [h]; decide
  cases o with
  | none => simp only [chF, if_neg h2]
  | some x => simp only [chF, if_neg h2]
def chV (R : Nat → Int32) (w N v : Nat) : Option Nat := fo (chF R w N v) (aliveV R N + 1) 0 none
theorem chV_ok {R : Nat → Int32} {w N v : Nat} (h8 : N ≤ 8) : okA (chV R w N v) :=
  fo_inv (f := chF R w N v) (N := aliveV R N + 1) (fun _ a => okA a) (fun p a hp h => chF_ok (by have := alive_lt (R := R) h8; omega) h) _ 0 none (by omega) (fun b hb => by cases hb)
def mo2 (R : Nat → Int32) (N : Nat) : Option Nat → Nat
  | none => 2147483647
  | some b => pyV2 R N b
section CCREW
variable {N w v : Nat}
theorem x_leastP {s : Mem} {R : Nat → Int32} (hC : CL3 s 1 N R) (hL : LkC s N w R) (hv : v ≤ 60) : p_X4_leastPaid 1 (n2 v) s = some (oe (chV R w N v), s) := by
  have h8 := hC.le8
  have hp8 := pow_le h8
  unfold chV
  rw [← fo_alive (w := w) h8 (fun q a hq => chF_no hq)]
  refine lp (L := fun g a o => p_X4_leastPaid_L10 1 (n2 v) g (oe o) (n2 (mo2 R N o)) (n2 a) s) (f := chF R w N v) (fin := fun o => some (oe o, s)) (N := 2 ^ N) (fun _ o => okA o) (fun a o ha h => chF_ok (by omega) h) (fun g a o ha ho => ?_) (fun g o ho => ?_) (2 ^ N) 0 none 1000 (by omega) (by omega) (fun b hb => by cases hb)
  · show p_X4_leastPaid_B10 (p_X4_leastPaid_L10 1 (n2 v) g) 1 (n2 v) (oe o) (n2 (mo2 R N o)) (n2 a) s = _
    have hs : p_X3_skillOf 1 (n2 a) s = some (n2 (skV2 R N a), s) := x_skillOf isC1 hC (show a < 256 by omega)
    have hp : p_X3_payOf 1 (n2 a) s = some (n2 (pyV2 R N a), s) := x_payOf isC1 hC (show a < 256 by omega)
    have l1 := skV2_le (a := a) hC.2.1
    have l2 := pyV2_le (a := a) hC.2.1
    have l3 : mo2 R N o ≤ 2147483647 := by
      cases o with
      | none => exact Nat.le_refl _
      | some b =>
        have := pyV2_le (a := b) hC.2.1
        show pyV2 R N b ≤ _
        omega
    unfold p_X4_leastPaid_B10 p_X4_leastPaid_B62
    simp (disch := omega) only [ltE, hL.1, n2_shl9 N (by omega), ileq, iltq, x_isCrew hL h8 (show a < 256 by omega), bndE, b2z, hs, hp, n2_succ]
    rw [if_neg (by omega)]
    cases q2 : crB R w N a
    · rw [chF_no q2, if_neg (by decide)]
    · rw [if_pos rfl]
      by_cases q1 : skV2 R N a < v
      · rw [if_pos q1]
        have e : chF R w N v a o = o := by cases o <;> simp only [chF, if_pos q2, if_pos q1]
        rw [e]
      · rw [if_neg q1]
        cases o with
        | none =>
          have e : chF R w N v a none = some a := by simp only [chF]; rw [if_pos q2, if_neg q1]
          rw [e, if_neg]
          · rfl
          · show ¬ (2147483647 ≤ pyV2 R N a)
            omega
        | some b =>
          by_cases q3 : pyV2 R N a < pyV2 R N b
          · have e : chF R w N v a (some b) = some a := by simp only [chF]; rw [if_pos q2, if_neg q1, if_pos q3]
            rw [e, if_neg (show ¬ (mo2 R N (some b) ≤ pyV2 R N a) from show ¬ (pyV2 R N b ≤ pyV2 R N a) by omega)]
            rfl
          · have e : chF R w N v a (some b) = some b := by simp only [chF]; rw [if_pos q2, if_neg q1, if_neg q3]
            rw [e, if_pos (show mo2 R N (some b) ≤ pyV2 R N a from show pyV2 R N b ≤ pyV2 R N a by omega)]
  · show p_X4_leastPaid_B10 (p_X4_leastPaid_L10 1 (n2 v) g) 1 (n2 v) (oe o) (n2 (mo2 R N o)) (n2 (2 ^ N)) s = _
    unfold p_X4_leastPaid_B10
    simp (disch := omega) only [ltE, hL.1, n2_shl9 N (by omega), ile_t]
theorem m_cheapL {σ : Mem} (h : OkR (σ 66) N) (x2 : Int32) (hv : v ≤ 60) (k : Int32 → Mem → Option (Int32 × Mem)) : p_X12_cheapest_L36 k (n2 v) x2 1000 (n2 (aliveV (σ 66) N)) (-4) 0 σ = k (oe (chV (σ 66) (lawN (σ 66)) N v)) σ := by
  have h8 := h.2.1
  have hA := alive_lt (R := σ 66) h8
  have hw := (lawN_eq h).1
  refine lp (L := fun g a o => p_X12_cheapest_L36 k (n2 v) x2 g (n2 (aliveV (σ 66) N)) (oe o) (n2 a) σ) (f := chF (σ 66) (lawN (σ 66)) N v) (fin := fun o => k (oe o) σ) (N := aliveV (σ 66) N + 1) (fun _ o => okA o) (fun a o ha h => chF_ok (by omega) h) (fun g a o ha ho => ?_) (fun g o ho => ?_) (aliveV (σ 66) N + 1) 0 none 1000 (by omega) (by omega) (fun b hb => by cases hb)
  · show p_X12_cheapest_B36 (p_X12_cheapest_L36 k (n2 v) x2 g) k (n2 v) x2 (n2 (aliveV (σ 66) N)) (oe o) (n2 a) σ = _
    have l3 := mask_le (b := aliveV (σ 66) N) (show a < 256 by omega)
    have hs : p_X12_skillIn (n2 a) σ = some (n2 (skV2 (σ 66) N a), σ) := m_skillIn h (show a < 256 by omega)
    have hp : p_X12_payIn (n2 a) σ = some (n2 (pyV2 (σ 66) N a), σ) := m_payIn h (show a < 256 by omega)
    have l1 := skV2_le (a := a) h
    have l2 := pyV2_le (a := a) h
    have hcr : a &&& (255 ^^^ aliveV (σ 66) N) = 0 → crB (σ 66) (lawN (σ 66)) N a = lawB (σ 66) (lawN (σ 66)) N a := fun e => by
      unfold crB
      rw [decide_eq_true e]
      rfl
    have hgo : a &&& (255 ^^^ aliveV (σ 66) N) = 0 → ¬ skV2 (σ 66) N a < v → (∀ b, o = some b → pyV2 (σ 66) N a < pyV2 (σ 66) N b) → p_X12_cheapest_B84 (p_X12_cheapest_L36 k (n2 v) x2 g) (n2 v) x2 (n2 (aliveV (σ 66) N)) (oe o) (n2 a) σ = p_X12_cheapest_L36 k (n2 v) x2 g (n2 (aliveV (σ 66) N)) (oe (chF (σ 66) (lawN (σ 66)) N v a o)) (n2 (a + 1)) σ := fun q0 q1 hb => by
      unfold p_X12_cheapest_B84 p_X12_cheapest_B106
      simp (disch := omega) only [ii1, c1, ltE, hw, m_lawful h (show a < 256 by omega), bndE, b2z, n2_succ]
      cases q2 : lawB (σ 66) (lawN (σ 66)) N a
      · rw [if_neg (by decide), chF_no (by rw [hcr q0]; exact q2)]
      · rw [if_pos rfl]
        have q2 : crB (σ 66) (lawN (σ 66)) N a = true := by rw [hcr q0]; exact q2
        have e : chF (σ 66) (lawN (σ 66)) N v a o = some a := by
          cases o with
          | none => simp only [chF]; rw [if_pos q2, if_neg q1]
          | some b => simp only [chF]; rw [if_pos q2, if_neg q1, if_pos (hb b rfl)]
        rw [e]
        rfl
    unfold p_X12_cheapest_B36 p_X12_cheapest_B106
    simp (disch := omega) only [iltq, n2_mask (show a < 256 by omega) hA, ieq0, bndE, hs, hp, n2_succ]
    rw [if_neg (by omega)]
    by_cases q0 : a &&& (255 ^^^ aliveV (σ 66) N) = 0
    · rw [if_pos q0]
      by_cases q1 : skV2 (σ 66) N a < v
      · rw [if_pos q1]
        have e : chF (σ 66) (lawN (σ 66)) N v a o = o := by
          cases o with
          | none => simp only [chF, if_pos q1]; split <;> rfl
          | some b => simp only [chF, if_pos q1]; split <;> rfl
        rw [e]
      · rw [if_neg q1]
        cases o with
        | none =>
          rw [if_pos (show oe none < 0 by decide)]
          exact hgo q0 q1 (fun b hb => by cases hb)
        | some b =>
          have hb := ho b rfl
          have l4 := pyV2_le (a := b) h
          have hp2 : p_X12_payIn (n2 b) σ = some (n2 (pyV2 (σ 66) N b), σ) := m_payIn h hb
          simp (disch := omega) only [oe_some, ilt0, hp2, bndE, iltq]
          by_cases q3 : pyV2 (σ 66) N a < pyV2 (σ 66) N b
          · rw [if_pos q3]
            exact hgo q0 q1 (fun b' hb' => by cases hb'; exact q3)
          · rw [if_neg q3]
            have e : chF (σ 66) (lawN (σ 66)) N v a (some b) = some b := by
              simp only [chF]
              rw [if_neg q1, if_neg q3]
              split <;> rfl
            rw [e]
            rfl
    · rw [if_neg q0, chF_no (by unfold crB; rw [decide_eq_false q0]; rfl)]
  · show p_X12_cheapest_B36 (p_X12_cheapest_L36 k (n2 v) x2 g) k (n2 v) x2 (n2 (aliveV (σ 66) N)) (oe o) (n2 (aliveV (σ 66) N + 1)) σ = _
    unfold p_X12_cheapest_B36
    simp (disch := omega) only [ilt_t]
end CCREW
theorem st_cheapest : St2 Inv p_X11_cheapest p_X12_cheapest := by
  intro x y σ hI
  obtain ⟨N, t, hL, -, -, -, -⟩ := getI hI
  have h8 := hL.le8
  have h := hL.2.1
  have hw := lawN_eq h
  have e17 : σ 1 7 = n2 (lawN (σ 66)) := hL.lawq
  cases hx : inV x 0 60
  · refine st_read hI (r := (-1 : Int32)) ?_ ?_
    · unfold p_X11_cheapest
      simp only [x_within, bndE, b2z, hx]
      rfl
    · unfold p_X12_cheapest
      simp only [m_isIn, bndE, b2z, hx]
      rfl
  cases hy : inV y 0 1
  · refine st_read hI (r := (-1 : Int32)) ?_ ?_
    · unfold p_X11_cheapest
      simp only [x_within, bndE, b2z, hx, if_true, x_isPart, hy]
      rfl
    · unfold p_X12_cheapest
      simp only [m_isIn, bndE, b2z, hx, if_true, hy]
      rfl
  obtain ⟨v, hv, rfl⟩ := n2_60 hx
  have hO := chV_ok (R := σ 66) (w := lawN (σ 66)) (v := v) h8
  refine st_scr hI (r := match chV (σ 66) (lawN (σ 66)) N v with
    | none => -4
    | some b => if y = 0 then n2 b else n2 (pyV2 (σ 66) N b)) ?_ (fun s hX => ?_)
  · unfold p_X11_cheapest p_X11_cheapest_B58
    simp only [x_within, bndE, b2z, hx, if_true, x_isPart, hy, ltE, e17]
    refine (x_lookAt hL hw.2).bd (fun _ s q => ?_)
    rw [x_leastP (hL.x q.1) q.2 hv, bndE]
    generalize chV (σ 66) (lawN (σ 66)) N v = o at hO ⊢
    cases o with
    | none => exact Tm.ret ⟨rfl, q.1⟩
    | some b =>
      have hb := hO b rfl
      have hs : p_X3_payOf 1 (n2 b) s = some (n2 (pyV2 (σ 66) N b), s) := x_payOf isC1 (hL.x q.1) hb
      simp (disch := omega) only [oe_some, ilt0, hs, bndE]
      split
      · exact Tm.ret ⟨rfl, q.1⟩
      · exact Tm.ret ⟨rfl, q.1⟩
  · have e66 : s 66 = σ 66 := hX 66 (by decide)
    have h' : OkR (s 66) N := by rw [e66]; exact h
    have hm := fun k => m_cheapL (v := v) h' y hv k
    have ha := m_aliveSet (r := 66) h'
    rw [e66] at hm ha
    unfold p_X12_cheapest p_X12_cheapest_B121
    simp only [m_isIn, bndE, b2z, hx, if_true, hy, ha, hm]
    generalize chV (σ 66) (lawN (σ 66)) N v = o at hO ⊢
    cases o with
    | none => exact Tm.ret ⟨rfl, FrM.rf s⟩
    | some b =>
      have hb := hO b rfl
      have hs := m_payIn h' hb
      rw [e66] at hs
      have hs : p_X12_payIn (n2 b) s = some (n2 (pyV2 (σ 66) N b), s) := hs
      simp (disch := omega) only [oe_some, ilt0, hs, bndE]
      split
      · exact Tm.ret ⟨rfl, FrM.rf s⟩
      · exact Tm.ret ⟨rfl, FrM.rf s⟩
