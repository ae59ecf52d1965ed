/-! sets of men by what holds of them -/
def sbF (b : Nat → Bool) (q acc : Nat) : Nat := acc ||| (if b q = true then 2 ^ q else 0)
theorem fo_mk (b : Nat → Bool) : ∀ t p acc, fo (sbF b) t p acc = mk b t p acc := by
  intro t
  induction t with
  | zero => intro p acc; rfl
  | succ t ih => intro p acc; exact ih _ _
theorem sbF_t {b : Nat → Bool} {q acc : Nat} (h : b q = true) : sbF b q acc = acc ||| 2 ^ q := by
  unfold sbF
  rw [if_pos h]
theorem sbF_f {b : Nat → Bool} {q acc : Nat} (h : b q = false) : sbF b q acc = acc := by
  unfold sbF
  rw [if_neg (by rw [h]; decide), Nat.or_zero]
theorem n2_bitor {acc q : Nat} (hq : q < 8) : n2 acc ||| ((1 : Int32) <<< (n2 q &&& 31)) = n2 (acc ||| 2 ^ q) := by rw [n2_shl q hq, n2_or]
theorem n2_and (a b : Nat) (ha : a < 4294967296) (hb : b < 4294967296) : n2 a &&& n2 b = n2 (a &&& b) := by
  apply Int32.toBitVec_inj.mp
  apply BitVec.eq_of_toNat_eq
  have h1 : a % 4294967296 = a := Nat.mod_eq_of_lt ha
  have h2 : b % 4294967296 = b := Nat.mod_eq_of_lt hb
  have h3 : (a &&& b) % 4294967296 = a &&& b := Nat.mod_eq_of_lt (Nat.lt_of_le_of_lt Nat.and_le_left ha)
  simp [n2, h1, h2, h3]
def cnF (b : Nat → Bool) (q v : Nat) : Nat := if b q = true then v + 1 else v
def cnt (b : Nat → Bool) (N : Nat) : Nat := fo (cnF b) N 0 0
theorem pop_add : ∀ a < 256, ∀ p < 8, a < 2 ^ p → pop (a ||| 2 ^ p) = pop a + 1 := by decide +kernel
theorem or_lt2 : ∀ a < 256, ∀ p < 8, a < 2 ^ p → a ||| 2 ^ p < 2 ^ (p + 1) := by decide +kernel
theorem pop_mk (b : Nat → Bool) : ∀ t p acc, p + t ≤ 8 → acc < 2 ^ p → pop (mk b t p acc) = fo (cnF b) t p (pop acc) := by
  intro t
  induction t with
  | zero => intro p acc _ _; rfl
  | succ t ih =>
    intro p acc hp h
    have hp8 : 2 ^ p ≤ 128 := by
      have : 2 ^ p ≤ 2 ^ 7 := Nat.pow_le_pow_right (by omega) (by omega)
      omega
    show pop (mk b t (p + 1) (acc ||| (if b p = true then 2 ^ p else 0))) = fo (cnF b) t (p + 1) (cnF b p (pop acc))
    unfold cnF
    cases b p
    · rw [if_neg (by decide), if_neg (by decide), Nat.or_zero]
      exact ih (p + 1) acc (by omega) (by rw [Nat.pow_succ]; omega)
    · rw [if_pos rfl, if_pos rfl, ← pop_add acc (by omega) p (by omega) h]
      exact ih (p + 1) _ (by omega) (or_lt2 acc (by omega) p (by omega) h)
theorem pop_cnt {b : Nat → Bool} {N : Nat} (h : N ≤ 8) : pop (setV b N) = cnt b N := pop_mk b N 0 0 (by omega) (by decide)
theorem cnt_le {b : Nat → Bool} {N : Nat} (h : N ≤ 8) : cnt b N ≤ 8 := by
  rw [← pop_cnt h]
  exact pop_le _
def svB (R : Nat → Int32) (p q : Nat) : Bool := svV (hw R p q) (n2 (lawN R))
def svT (R : Nat → Int32) (p q : Nat) : Bool := svB R q p
def myB (R : Nat → Int32) (p q : Nat) : Bool := mayV R p q (n2 (lawN R))
theorem alive_bit {R : Nat → Int32} {N q : Nat} (h : N ≤ 8) : (aliveV R N).testBit q = (decide (q < N) && !decide (lo R q = 1)) := by
  unfold aliveV
  rw [Nat.testBit_and, Nat.testBit_two_pow_sub_one]
  by_cases hq : q < N
  · rw [decide_eq_true hq, Nat.testBit_xor, lost_bit hq, show (255 : Nat) = 2 ^ 8 - 1 from rfl, Nat.testBit_two_pow_sub_one, decide_eq_true (show q < 8 by omega)]
    cases decide (lo R q = 1) <;> rfl
  · rw [decide_eq_false hq]
    rfl
theorem alive_lt {R : Nat → Int32} {N : Nat} (h : N ≤ 8) : aliveV R N < 256 := by
  have h1 : 2 ^ N ≤ 2 ^ 8 := Nat.pow_le_pow_right (by omega) h
  have h2 : aliveV R N ≤ 2 ^ N - 1 := Nat.and_le_left
  have h3 : 0 < 2 ^ N := Nat.pow_pos (by omega)
  omega
section XMEN
variable {c N p : Nat} {σ : Mem} {R : Nat → Int32}
theorem x_savedBy (h : CL3 σ c N R) (hp : p < N) : p_X3_savedBy c (n2 p) σ = some (n2 (setV (svB R p) N), σ) := by
  have hL := lawN_eq h.2.1
  have h8 := h.le8
  have k := lp (L := fun g q a => p_X3_savedBy_L4 c (n2 p) g (n2 a) (n2 q) σ) (f := sbF (svB R p)) (fin := fun a => some (n2 a, σ)) (N := N) (fun _ _ => True) (fun _ _ _ _ => trivial) (fun g q a hq _ => ?_) (fun g a _ => ?_) N 0 0 1000 (by omega) (by omega) trivial
  · rw [fo_mk] at k
    exact k
  · show p_X3_savedBy_B4 (p_X3_savedBy_L4 c (n2 p) g) c (n2 p) (n2 a) (n2 q) σ = _
    unfold p_X3_savedBy_B4 p_X3_savedBy_B33
    simp (disch := omega) only [ltE, h.sizeq, ile_f, h.lawq, h.countq hp hq hL.2, bndE, b2z, n2_succ, or_0, n2_bitor (show q < 8 by omega)]
    cases hb : svB R p q
    · rw [if_neg (show ¬ svV (hw R p q) (n2 (lawN R)) = true by unfold svB at hb; rw [hb]; decide), sbF_f hb]
    · rw [if_pos (show svV (hw R p q) (n2 (lawN R)) = true from hb), sbF_t hb]
  · show p_X3_savedBy_B4 (p_X3_savedBy_L4 c (n2 p) g) c (n2 p) (n2 a) (n2 N) σ = _
    unfold p_X3_savedBy_B4
    simp (disch := omega) only [ltE, h.sizeq, ile_t]
theorem x_saversOf (h : CL3 σ c N R) (hp : p < N) : p_X3_saversOf c (n2 p) σ = some (n2 (setV (svT R p) N), σ) := by
  have hL := lawN_eq h.2.1
  have h8 := h.le8
  have k := lp (L := fun g q a => p_X3_saversOf_L4 c (n2 p) g (n2 a) (n2 q) σ) (f := sbF (svT R p)) (fin := fun a => some (n2 a, σ)) (N := N) (fun _ _ => True) (fun _ _ _ _ => trivial) (fun g q a hq _ => ?_) (fun g a _ => ?_) N 0 0 1000 (by omega) (by omega) trivial
  · rw [fo_mk] at k
    exact k
  · show p_X3_saversOf_B4 (p_X3_saversOf_L4 c (n2 p) g) c (n2 p) (n2 a) (n2 q) σ = _
    unfold p_X3_saversOf_B4 p_X3_saversOf_B33
    simp (disch := omega) only [ltE, h.sizeq, ile_f, h.lawq, h.countq hq hp hL.2, bndE, b2z, n2_succ, or_0, n2_bitor (show q < 8 by omega)]
    cases hb : svB R q p
    · rw [if_neg (show ¬ svV (hw R q p) (n2 (lawN R)) = true by unfold svB at hb; rw [hb]; decide), sbF_f (show svT R p q = false from hb)]
    · rw [if_pos (show svV (hw R q p) (n2 (lawN R)) = true from hb), sbF_t (show svT R p q = true from hb)]
  · show p_X3_saversOf_B4 (p_X3_saversOf_L4 c (n2 p) g) c (n2 p) (n2 a) (n2 N) σ = _
    unfold p_X3_saversOf_B4
    simp (disch := omega) only [ltE, h.sizeq, ile_t]
def frB (R : Nat → Int32) (p q : Nat) : Bool := !decide (q = p) && (!decide (lo R q = 1) && myB R p q)
theorem x_friends (hc : isC c) (h : CL3 σ c N R) (hp : p < N) : p_X3_friends c (n2 p) σ = some (n2 (setV (frB R p) N), σ) := by
  have hL := lawN_eq h.2.1
  have h8 := h.le8
  have k := lp (L := fun g q a => p_X3_friends_L4 c (n2 p) g (n2 a) (n2 q) σ) (f := sbF (frB R p)) (fin := fun a => some (n2 a, σ)) (N := N) (fun _ _ => True) (fun _ _ _ _ => trivial) (fun g q a hq _ => ?_) (fun g a _ => ?_) N 0 0 1000 (by omega) (by omega) trivial
  · rw [fo_mk] at k
    exact k
  · show p_X3_friends_B4 (p_X3_friends_L4 c (n2 p) g) c (n2 p) (n2 a) (n2 q) σ = _
    unfold p_X3_friends_B4 p_X3_friends_B44
    simp (disch := omega) only [ltE, h.sizeq, ile_f, ieq, x_isLost h hq, h.lawq, h.agreeq hc hp hq hL.2, bndE, b2z, n2_succ, decide_eq_true_eq, n2_bitor (show q < 8 by omega)]
    by_cases q1 : q = p
    · rw [if_pos q1, sbF_f (by unfold frB; rw [decide_eq_true q1]; rfl)]
    · rw [if_neg q1]
      by_cases q2 : lo R q = 1
      · rw [if_pos q2, sbF_f (by unfold frB; rw [decide_eq_true q2, decide_eq_false q1]; rfl)]
      · rw [if_neg q2]
        cases hb : mayV R p q (n2 (lawN R))
        · rw [if_neg (by decide), sbF_f (by unfold frB myB; rw [hb, decide_eq_false q2, decide_eq_false q1]; rfl)]
        · rw [if_pos rfl, sbF_t (by unfold frB myB; rw [hb, decide_eq_false q2, decide_eq_false q1]; rfl)]
  · show p_X3_friends_B4 (p_X3_friends_L4 c (n2 p) g) c (n2 p) (n2 a) (n2 N) σ = _
    unfold p_X3_friends_B4
    simp (disch := omega) only [ltE, h.sizeq, ile_t]
end XMEN
section MMEN
variable {N p : Nat} {σ : Mem}
theorem m_sv {q : Nat} (h : OkR (σ 66) N) (hp : p < N) (hq : q < N) : p_X12_hasSaved 66 (n2 p) (n2 q) (n2 (lawN (σ 66))) σ = some (b2 (svB (σ 66) p q), σ) := m_hasSaved _ σ (by have := h.2.1; omega) (by have := h.2.1; omega)
theorem m_my {q : Nat} (h : OkR (σ 66) N) (hp : p < N) (hq : q < N) : p_X12_mayIn 66 (n2 p) (n2 q) σ = some (b2 (myB (σ 66) p q), σ) := by
  rw [m_mayIn σ (by have := h.2.1; omega) (by have := h.2.1; omega), (lawN_eq h).1]
  unfold myB
  rfl
theorem m_owedOf (h : OkR (σ 66) N) (hp : p < N) : p_X12_owedOf (n2 p) σ = some (n2 (cnt (svB (σ 66) p) N), σ) := by
  have hL := lawN_eq h
  have h8 := h.2.1
  refine lp (L := fun g q a => p_X12_owedOf_L4 (n2 p) g (n2 a) (n2 q) σ) (f := cnF (svB (σ 66) p)) (fin := fun a => some (n2 a, σ)) (N := N) (fun _ _ => True) (fun _ _ _ _ => trivial) (fun g q a hq _ => ?_) (fun g a _ => ?_) N 0 0 1000 (by omega) (by omega) trivial
  · show p_X12_owedOf_B4 (p_X12_owedOf_L4 (n2 p) g) (n2 p) (n2 a) (n2 q) σ = _
    unfold p_X12_owedOf_B4 p_X12_owedOf_B38 cnF
    simp (disch := omega) only [ii0, c0, ltE, h.1, ile_f, ii1, c1, hL.1, m_sv h hp hq, bndE, b2z, n2_succ]
    cases svB (σ 66) p q
    · rw [if_neg (by decide), if_neg (by decide)]
      rw [show n2 a + 0 = n2 a from n2_add a 0]
    · rw [if_pos rfl, if_pos rfl]
  · show p_X12_owedOf_B4 (p_X12_owedOf_L4 (n2 p) g) (n2 p) (n2 a) (n2 N) σ = _
    unfold p_X12_owedOf_B4
    simp (disch := omega) only [ii0, c0, ltE, h.1, ile_t]
end MMEN
theorem st_owed : St1 Inv p_X11_owed p_X12_owed := by
  intro a σ hI
  obtain ⟨N, t, hL, -, -, -, -⟩ := getI hI
  have h8 := hL.le8
  cases ha : manV N a
  · refine st_read hI (r := (-1 : Int32)) ?_ ?_
    · unfold p_X11_owed
      simp only [x_has hL.1, bndE, b2z, ha]
      rfl
    · unfold p_X12_owed
      simp only [m_isMan hL.2.1.1 h8, bndE, b2z, ha]
      rfl
  · obtain ⟨p, hp, rfl⟩ := man_n2 h8 ha
    refine st_read hI (r := n2 (cnt (svB (σ 66) p) N)) ?_ ?_
    · unfold p_X11_owed
      simp only [x_has hL.1, bndE, b2z, ha, if_true, x_savedBy hL hp, x_pop (set_lt h8), pop_cnt h8]
    · unfold p_X12_owed
      simp only [m_isMan hL.2.1.1 h8, bndE, b2z, ha, if_true, m_owedOf hL.2.1 hp]
theorem st_owes : St1 Inv p_X11_owes p_X12_owes := by
  intro a σ hI
  obtain ⟨N, t, hL, -, -, -, -⟩ := getI hI
  have h8 := hL.le8
  cases ha : manV N a
  · refine st_read hI (r := (-1 : Int32)) ?_ ?_
    · unfold p_X11_owes
      simp only [x_has hL.1, bndE, b2z, ha]
      rfl
    · unfold p_X12_owes
      simp only [m_isMan hL.2.1.1 h8, bndE, b2z, ha]
      rfl
  · obtain ⟨p, hp, rfl⟩ := man_n2 h8 ha
    refine st_read hI (r := n2 (setV (svT (σ 66) p) N)) ?_ ?_
    · unfold p_X11_owes
      simp only [x_has hL.1, bndE, b2z, ha, if_true, x_saversOf hL hp]
    · have hw := lawN_eq hL.2.1
      have h := hL.2.1
      unfold p_X12_owes
      simp only [m_isMan hL.2.1.1 h8, bndE, b2z, ha, if_true]
      have k := lp (L := fun g q a => p_X12_owes_L14 (n2 p) g (n2 a) (n2 q) σ) (f := sbF (svT (σ 66) p)) (fin := fun a => some (n2 a, σ)) (N := N) (fun _ _ => True) (fun _ _ _ _ => trivial) (fun g q a hq _ => ?_) (fun g a _ => ?_) N 0 0 1000 (by omega) (by omega) trivial
      · rw [fo_mk] at k
        exact k
      · show p_X12_owes_B14 (p_X12_owes_L14 (n2 p) g) (n2 p) (n2 a) (n2 q) σ = _
        unfold p_X12_owes_B14 p_X12_owes_B50
        simp (disch := omega) only [ii0, c0, ltE, h.1, ile_f, ii1, c1, hw.1, m_sv h hq hp, bndE, b2z, n2_succ, or_0, n2_bitor (show q < 8 by omega)]
        cases hb : svB (σ 66) q p
        · rw [if_neg (by decide), sbF_f (show svT (σ 66) p q = false from hb)]
        · rw [if_pos rfl, sbF_t (show svT (σ 66) p q = true from hb)]
      · show p_X12_owes_B14 (p_X12_owes_L14 (n2 p) g) (n2 p) (n2 a) (n2 N) σ = _
        unfold p_X12_owes_B14
        simp (disch := omega) only [ii0, c0, ltE, h.1, ile_t]
def frA (R : Nat → Int32) (p q : Nat) : Bool := !decide (q = p) && myB R p q
theorem st_with : St1 Inv p_X11_with p_X12_with := by
  intro a σ hI
  obtain ⟨N, t, hL, -, -, -, -⟩ := getI hI
  have h8 := hL.le8
  cases ha : manV N a
  · refine st_read hI (r := (-1 : Int32)) ?_ ?_
    · unfold p_X11_with
      simp only [x_has hL.1, bndE, b2z, ha]
      rfl
    · unfold p_X12_with
      simp only [m_isMan hL.2.1.1 h8, bndE, b2z, ha]
      rfl
  · obtain ⟨p, hp, rfl⟩ := man_n2 h8 ha
    refine st_read hI (r := n2 (setV (frB (σ 66) p) N)) ?_ ?_
    · unfold p_X11_with
      simp only [x_has hL.1, bndE, b2z, ha, if_true, x_friends isC1 hL hp]
    · have h := hL.2.1
      unfold p_X12_with
      simp only [m_isMan hL.2.1.1 h8, bndE, b2z, ha, if_true]
      have k := fun (kk : Int32 → Mem → Option (Int32 × Mem)) => lp (L := fun g q a => p_X12_with_L14 kk (n2 p) g (n2 a) (n2 q) σ) (f := sbF (frA (σ 66) p)) (fin := fun a => kk (n2 a) σ) (N := N) (fun _ _ => True) (fun _ _ _ _ => trivial) (fun g q a hq _ => by
        show p_X12_with_B14 (p_X12_with_L14 kk (n2 p) g) kk (n2 p) (n2 a) (n2 q) σ = _
        unfold p_X12_with_B14 p_X12_with_B48 p_X12_with_B49
        simp (disch := omega) only [ii0, c0, ltE, h.1, ile_f, ieq, m_my h hp hq, bndE, b2z, n2_succ, or_0, n2_bitor (show q < 8 by omega)]
        by_cases q1 : q = p
        · rw [if_pos q1, sbF_f (by unfold frA; rw [decide_eq_true q1]; rfl)]
        · rw [if_neg q1]
          cases hb : myB (σ 66) p q
          · rw [if_neg (by decide), sbF_f (by unfold frA; rw [hb, decide_eq_false q1]; rfl)]
          · rw [if_pos rfl, sbF_t (by unfold frA; rw [hb, decide_eq_false q1]; rfl)]) (fun g a _ => by
        show p_X12_with_B14 (p_X12_with_L14 kk (n2 p) g) kk (n2 p) (n2 a) (n2 N) σ = _
        unfold p_X12_with_B14
        simp (disch := omega) only [ii0, c0, ltE, h.1, ile_t]) N 0 0 1000 (by omega) (by omega) trivial
      refine (k _).trans ?_
      rw [fo_mk, show mk (frA (σ 66) p) N 0 0 = setV (frA (σ 66) p) N from rfl]
      have l1 : setV (frA (σ 66) p) N < 256 := set_lt h8
      have l2 := alive_lt (R := σ 66) h8
      rw [m_aliveSet h, bndE, n2_and _ _ (by omega) (by omega)]
      have e : setV (frA (σ 66) p) N &&& aliveV (σ 66) N = setV (frB (σ 66) p) N := by
        refine set_ext (fun q => ?_)
        rw [Nat.testBit_and, alive_bit h8, set_bit, set_bit]
        unfold frA frB
        cases decide (q < N) <;> cases decide (q = p) <;> cases decide (lo (σ 66) q = 1) <;> cases myB (σ 66) p q <;> rfl
      rw [e]
/-! who is owed most -/
def mowF (R : Nat → Int32) (N p : Nat) (a : Option Nat × Nat) : Option Nat × Nat := if a.2 < cnt (svB R p) N then (some p, cnt (svB R p) N) else a
theorem mow_le {R : Nat → Int32} {N p : Nat} {a : Option Nat × Nat} (h8 : N ≤ 8) (h : a.2 ≤ 8) : (mowF R N p a).2 ≤ 8 := by
  unfold mowF
  split
  · exact cnt_le h8
  · exact h
theorem st_mostOwed : St0 Inv p_X11_mostOwed p_X12_mostOwed := by
  intro σ hI
  obtain ⟨N, t, hL, -, -, -, -⟩ := getI hI
  have h8 := hL.le8
  have h := hL.2.1
  refine st_read hI (r := oe (fo (mowF (σ 66) N) N 0 (none, 0)).1) ?_ ?_
  · refine lp (L := fun g p (a : Option Nat × Nat) => p_X11_mostOwed_L7 g (oe a.1) (n2 a.2) (n2 p) σ) (f := mowF (σ 66) N) (fin := fun a => some (oe a.1, σ)) (N := N) (fun _ a => a.2 ≤ 8) (fun p a _ h => mow_le h8 h) (fun g p a hp ha => ?_) (fun g a _ => ?_) N 0 (none, 0) 1000 (by omega) (by omega) (by decide)
    · show p_X11_mostOwed_B7 (p_X11_mostOwed_L7 g) (oe a.1) (n2 a.2) (n2 p) σ = _
      have e5 : σ 1 5 = n2 N := hL.sizeq
      have l1 := cnt_le (b := svB (σ 66) p) h8
      unfold p_X11_mostOwed_B7 p_X11_mostOwed_B42 mowF
      simp (disch := omega) only [ltE, e5, ile_f, x_savedBy hL hp, bndE, x_pop (set_lt h8), pop_cnt h8, ileq, n2_succ]
      by_cases q1 : a.2 < cnt (svB (σ 66) p) N
      · rw [if_neg (by omega), if_pos q1]
        rfl
      · rw [if_pos (by omega), if_neg q1]
    · show p_X11_mostOwed_B7 (p_X11_mostOwed_L7 g) (oe a.1) (n2 a.2) (n2 N) σ = _
      have e5 : σ 1 5 = n2 N := hL.sizeq
      unfold p_X11_mostOwed_B7
      simp (disch := omega) only [ltE, e5, ile_t]
  · refine lp (L := fun g p (a : Option Nat × Nat) => p_X12_mostOwed_L7 g (oe a.1) (n2 a.2) (n2 p) σ) (f := mowF (σ 66) N) (fin := fun a => some (oe a.1, σ)) (N := N) (fun _ a => a.2 ≤ 8) (fun p a _ h => mow_le h8 h) (fun g p a hp ha => ?_) (fun g a _ => ?_) N 0 (none, 0) 1000 (by omega) (by omega) (by decide)
    · show p_X12_mostOwed_B7 (p_X12_mostOwed_L7 g) (oe a.1) (n2 a.2) (n2 p) σ = _
      have l1 := cnt_le (b := svB (σ 66) p) h8
      unfold p_X12_mostOwed_B7 p_X12_mostOwed_B37 mowF
      simp (disch := omega) only [ii0, c0, ltE, h.1, ile_f, m_owedOf h hp, bndE, iltq, n2_succ]
      by_cases q1 : a.2 < cnt (svB (σ 66) p) N
      · rw [if_pos q1, if_pos q1]
        rfl
      · rw [if_neg q1, if_neg q1]
    · show p_X12_mostOwed_B7 (p_X12_mostOwed_L7 g) (oe a.1) (n2 a.2) (n2 N) σ = _
      unfold p_X12_mostOwed_B7
      simp (disch := omega) only [ii0, c0, ltE, h.1, ile_t]
/-! how many laws let two sail together -/
def frl (R : Nat → Int32) (p q w : Nat) : Bool := mayV R p q (n2 w)
def freF (R : Nat → Int32) (p q : Nat) : Nat → Nat → Nat := cnF (frl R p q)
theorem ile4 {α : Type} {a : Nat} {A B : α} (h : a < 2147483648) : (if (4 : Int32) ≤ n2 a then A else B) = if 4 ≤ a then A else B := ileq (a := 4) ⟨by omega, h⟩
theorem igt3 {α : Type} {a : Nat} {A B : α} (h : a < 2147483648) : (if (3 : Int32) < n2 a then A else B) = if 3 < a then A else B := iltq (a := 3) ⟨by omega, h⟩
theorem st_freeLaw : St2 Inv p_X11_freeLaw p_X12_freeLaw := by
  intro a b σ hI
  obtain ⟨N, t, hL, -, -, -, -⟩ := getI hI
  have h8 := hL.le8
  have h := hL.2.1
  cases ht : twoV N a b
  · refine st_read hI (r := (-1 : Int32)) ?_ ?_
    · unfold p_X11_freeLaw
      simp only [x_hasTwo hL.1, bndE, b2z, ht]
      rfl
    · unfold p_X12_freeLaw
      simp only [m_areTwo h.1 h8, bndE, b2z, ht]
      rfl
  · obtain ⟨p, q, hp, hq, -, rfl, rfl⟩ := two_n2 h8 ht
    refine st_read hI (r := n2 (fo (freF (σ 66) p q) 4 0 0)) ?_ ?_
    · unfold p_X11_freeLaw
      simp only [x_hasTwo hL.1, bndE, b2z, ht, if_true]
      refine lp (L := fun g w a => p_X11_freeLaw_L19 (n2 p) (n2 q) g (n2 a) (n2 w) σ) (f := freF (σ 66) p q) (fin := fun a => some (n2 a, σ)) (N := 4) (fun _ _ => True) (fun _ _ _ _ => trivial) (fun g w a hw _ => ?_) (fun g a _ => ?_) 4 0 0 1000 (by omega) (by omega) trivial
      · show p_X11_freeLaw_B19 (p_X11_freeLaw_L19 (n2 p) (n2 q) g) (n2 p) (n2 q) (n2 a) (n2 w) σ = _
        unfold p_X11_freeLaw_B19 p_X11_freeLaw_B42 freF cnF frl
        rw [ile4 (by omega), if_neg (by omega), hL.agreeq isC1 hp hq hw, bndE, b2z]
        cases mayV (σ 66) p q (n2 w)
        · rw [if_neg (by decide), if_neg (by decide), n2_succ]
        · rw [if_pos rfl, if_pos rfl, n2_succ, n2_succ]
      · show p_X11_freeLaw_B19 (p_X11_freeLaw_L19 (n2 p) (n2 q) g) (n2 p) (n2 q) (n2 a) (n2 4) σ = _
        unfold p_X11_freeLaw_B19
        rw [ile4 (by omega), if_pos (by omega)]
    · unfold p_X12_freeLaw
      simp only [m_areTwo h.1 h8, bndE, b2z, ht, if_true]
      refine lp (L := fun g w a => p_X12_freeLaw_L16 (n2 p) (n2 q) g (n2 a) (n2 w) σ) (f := freF (σ 66) p q) (fin := fun a => some (n2 a, σ)) (N := 4) (fun _ _ => True) (fun _ _ _ _ => trivial) (fun g w a hw _ => ?_) (fun g a _ => ?_) 4 0 0 1000 (by omega) (by omega) trivial
      · show p_X12_freeLaw_B16 (p_X12_freeLaw_L16 (n2 p) (n2 q) g) (n2 p) (n2 q) (n2 a) (n2 w) σ = _
        unfold p_X12_freeLaw_B16 p_X12_freeLaw_B42 freF cnF frl
        rw [igt3 (by omega), if_neg (by omega), m_mayBy (n2 w) σ (show p < 8 by omega) (show q < 8 by omega), bndE, b2z]
        cases mayV (σ 66) p q (n2 w)
        · rw [if_neg (by decide), if_neg (by decide), n2_succ, show n2 a + 0 = n2 a from n2_add a 0]
        · rw [if_pos rfl, if_pos rfl, n2_succ, n2_succ]
      · show p_X12_freeLaw_B16 (p_X12_freeLaw_L16 (n2 p) (n2 q) g) (n2 p) (n2 q) (n2 a) (n2 4) σ = _
        unfold p_X12_freeLaw_B16
        rw [igt3 (by omega), if_pos (by omega)]
