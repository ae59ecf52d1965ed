/-! two who see a third one fall -/
def hbV (o1 o2 x y : Bool) : Int32 := if (x && o1) = true then (if (y && o2) = true then -1 else -2) else if (y && o2) = true then 0 else -5
def twC (o1 o2 : Bool) (v : Nat) : Bool :=
  !decide (hbV o1 o2 (decide (2 ≤ v)) (decide (v % 2 = 1)) < hbV o1 o2 (!decide (2 ≤ v)) (decide (v % 2 = 1))) && !decide (hbV o2 o1 (decide (v % 2 = 1)) (decide (2 ≤ v)) < hbV o2 o1 (!decide (v % 2 = 1)) (decide (2 ≤ v)))
def twV (o1 o2 : Bool) : Int32 := if twC o1 o2 0 = true then 0 else if twC o1 o2 1 = true then 1 else if twC o1 o2 2 = true then 10 else if twC o1 o2 3 = true then 11 else -4
theorem x_twV (x1 x2 x3 : Int32) (σ : Mem) (o1 o2 : Bool) : p_X11_two_B84 x1 x2 x3 (b2 o1) (b2 o2) σ = some (twV o1 o2, σ) := by
  cases o1 <;> cases o2 <;> rfl
def orN (R : Nat → Int32) (r p : Nat) : Bool := decide (r ≤ reachN R p)
theorem m_hasBy {N p q r : Nat} {σ : Mem} (h : OkR (σ 66) N) (hp : p < N) (hq : q < N) (hr : r < 10) (x y : Bool) : p_X12_hasBy (n2 p) (n2 q) (n2 r) (b2 x) (b2 y) σ = some (hbV (orN (σ 66) r p) (orN (σ 66) r q) x y, σ) := by
  have r1 := reach_le h hp
  have r2 := reach_le h hq
  have f1 : (reachN (σ 66) p < r) = ¬ (r ≤ reachN (σ 66) p) := by rw [Nat.not_le]
  have f2 : (reachN (σ 66) q < r) = ¬ (r ≤ reachN (σ 66) q) := by rw [Nat.not_le]
  unfold p_X12_hasBy p_X12_hasBy_B22 p_X12_hasBy_B23 p_X12_hasBy_B47 p_X12_hasBy_B48 hbV orN
  simp (disch := omega) only [m_reachN h hp, m_reachN h hq, bndE, iltq]
  by_cases g1 : r ≤ reachN (σ 66) p
  · rw [if_neg (show ¬ reachN (σ 66) p < r by omega), decide_eq_true g1]
    by_cases g2 : r ≤ reachN (σ 66) q
    · rw [if_neg (show ¬ reachN (σ 66) q < r by omega), if_neg (show ¬ reachN (σ 66) q < r by omega), decide_eq_true g2]
      cases x <;> cases y <;> rfl
    · rw [if_pos (show reachN (σ 66) q < r by omega), if_pos (show reachN (σ 66) q < r by omega), decide_eq_false g2]
      cases x <;> cases y <;> rfl
  · rw [if_pos (show reachN (σ 66) p < r by omega), decide_eq_false g1]
    by_cases g2 : r ≤ reachN (σ 66) q
    · rw [if_neg (show ¬ reachN (σ 66) q < r by omega), decide_eq_true g2]
      cases x <;> cases y <;> rfl
    · rw [if_pos (show reachN (σ 66) q < r by omega), decide_eq_false g2]
      cases x <;> cases y <;> rfl
theorem tw_num : ∀ v < 4, n2 v / 2 = b2 (decide (2 ≤ v)) ∧ n2 v - b2 (decide (2 ≤ v)) * 2 = b2 (decide (v % 2 = 1)) := by decide +kernel
theorem b2_not (b : Bool) : 1 - b2 b = b2 (!b) := by cases b <;> rfl
theorem m_twS {N p q r g v : Nat} {σ : Mem} (h : OkR (σ 66) N) (hp : p < N) (hq : q < N) (hr : r < 10) (hv : v < 4) (k : Int32 → Int32 → Mem → Option (Int32 × Mem)) : p_X12_two_L24 k (n2 p) (n2 q) (n2 r) (g + 1) (n2 v) σ = if twC (orN (σ 66) r p) (orN (σ 66) r q) v = true then k (b2 (decide (2 ≤ v))) (b2 (decide (v % 2 = 1))) σ else p_X12_two_L24 k (n2 p) (n2 q) (n2 r) g (n2 (v + 1)) σ := by
  obtain ⟨e1, e2⟩ := tw_num v hv
  show p_X12_two_B24 (p_X12_two_L24 k (n2 p) (n2 q) (n2 r) g) k (n2 p) (n2 q) (n2 r) (n2 v) σ = _
  unfold p_X12_two_B24 p_X12_two_B105
  rw [ile4 (by omega), if_neg (by omega)]
  simp only [e1, e2, b2_not, m_hasBy h hp hq hr, m_hasBy h hq hp hr, bndE, n2_succ]
  unfold twC
  by_cases c1 : hbV (orN (σ 66) r p) (orN (σ 66) r q) (decide (2 ≤ v)) (decide (v % 2 = 1)) < hbV (orN (σ 66) r p) (orN (σ 66) r q) (!decide (2 ≤ v)) (decide (v % 2 = 1))
  · rw [if_pos c1, decide_eq_true c1]
    rfl
  · rw [if_neg c1, decide_eq_false c1]
    by_cases c2 : hbV (orN (σ 66) r q) (orN (σ 66) r p) (decide (v % 2 = 1)) (decide (2 ≤ v)) < hbV (orN (σ 66) r q) (orN (σ 66) r p) (!decide (v % 2 = 1)) (decide (2 ≤ v))
    · rw [if_pos c2, decide_eq_true c2]
      rfl
    · rw [if_neg c2, decide_eq_false c2]
      rfl
theorem st_two : St3 Inv p_X11_two p_X12_two := by
  intro a b x σ hI
  obtain ⟨N, t, hL, -, -, -, -⟩ := getI hI
  have h8 := hL.le8
  have h := hL.2.1
  cases ht : twoV N a b
  · refine st_read hI (r := (-1 : Int32)) ?_ ?_
    · unfold p_X11_two
      simp only [x_hasTwo hL.1, bndE, b2z, ht]
      rfl
    · unfold p_X12_two
      simp only [m_areTwo h.1 h8, bndE, b2z, ht]
      rfl
  cases hx : inV x 0 9
  · refine st_read hI (r := (-1 : Int32)) ?_ ?_
    · unfold p_X11_two
      simp only [x_hasTwo hL.1, bndE, b2z, ht, if_true, x_within, hx]
      rfl
    · unfold p_X12_two
      simp only [m_areTwo h.1 h8, bndE, b2z, ht, if_true, m_isIn, hx]
      rfl
  obtain ⟨p, q, hp, hq, -, rfl, rfl⟩ := two_n2 h8 ht
  obtain ⟨r, hr, rfl⟩ := in9 hx
  have r1 := reach_le h hp
  have r2 := reach_le h hq
  refine st_read hI (r := twV (orN (σ 66) r p) (orN (σ 66) r q)) ?_ ?_
  · have k1 : p_X3_kindOf 1 (n2 p) σ = some (41 + kn (σ 66) p, σ) := hL.kindq hp
    have k2 : p_X3_kindOf 1 (n2 q) σ = some (41 + kn (σ 66) q, σ) := hL.kindq hq
    have f1 : σ 28 p = n2 (fn (σ 66) p) := hL.figq hp
    have f2 : σ 28 q = n2 (fn (σ 66) q) := hL.figq hq
    have g1 : p_K_reach (41 + kn (σ 66) p) (n2 (fn (σ 66) p)) σ = some (n2 (reachN (σ 66) p), σ) := hL.reachq isC1 hp σ
    have g2 : p_K_reach (41 + kn (σ 66) q) (n2 (fn (σ 66) q)) σ = some (n2 (reachN (σ 66) q), σ) := hL.reachq isC1 hq σ
    have hb : ∀ o1, p_X11_two_B53 (n2 p) (n2 q) (n2 r) (b2 o1) σ = some (twV o1 (orN (σ 66) r q), σ) := fun o1 => by
      unfold p_X11_two_B53
      simp (disch := omega) only [k2, bndE, n2_nat, iin, ltE, f2, g2, iltq]
      by_cases c : reachN (σ 66) q < r
      · have e : orN (σ 66) r q = false := decide_eq_false (by omega)
        rw [if_pos c, e]
        exact x_twV _ _ _ _ o1 false
      · have e : orN (σ 66) r q = true := decide_eq_true (by omega)
        rw [if_neg c, e]
        exact x_twV _ _ _ _ o1 true
    unfold p_X11_two
    simp (disch := omega) only [x_hasTwo hL.1, bndE, b2z, ht, if_true, x_within, hx, k1, n2_nat, iin, ltE, f1, g1, iltq]
    by_cases c : reachN (σ 66) p < r
    · have e : orN (σ 66) r p = false := decide_eq_false (by omega)
      rw [if_pos c, e]
      exact hb false
    · have e : orN (σ 66) r p = true := decide_eq_true (by omega)
      rw [if_neg c, e]
      exact hb true
  · unfold p_X12_two
    simp only [m_areTwo h.1 h8, bndE, b2z, ht, if_true, m_isIn, hx]
    have k := fun (kk : Int32 → Int32 → Mem → Option (Int32 × Mem)) => (m_twS (g := 999) h hp hq hr (show 0 < 4 by omega) kk)
    refine (k _).trans ?_
    rw [m_twS (g := 998) h hp hq hr (show 1 < 4 by omega), m_twS (g := 997) h hp hq hr (show 2 < 4 by omega), m_twS (g := 996) h hp hq hr (show 3 < 4 by omega)]
    unfold twV
    cases twC (orN (σ 66) r p) (orN (σ 66) r q) 0
    · cases twC (orN (σ 66) r p) (orN (σ 66) r q) 1
      · cases twC (orN (σ 66) r p) (orN (σ 66) r q) 2
        · cases twC (orN (σ 66) r p) (orN (σ 66) r q) 3
          · rfl
          · rfl
        · rfl
      · rfl
    · rfl
/-! a forged list -/
def fgC (R : Nat → Int32) (N : Nat) (E : Nat → Int32) (j : Nat) : Bool := !(twoV N (E (2 * j)) (E (2 * j + 1)) && svB R (E (2 * j)).toNatClampNeg (E (2 * j + 1)).toNatClampNeg)
theorem half : ∀ j < 60, n2 (2 * j) / 2 = n2 j := by decide +kernel
theorem n2_add2 (n : Nat) : n2 n + 2 = n2 (n + 2) := n2_add n 2
theorem el_n2' (d i : Nat) : n2 (100 * d + i) + 1 = n2 (100 * d + i + 1) := n2_add (100 * d + i) 1
theorem st_forged : St1 Inv p_X11_forged p_X12_forged := by
  intro x σ hI
  obtain ⟨N, t, hL, -, -, -, -⟩ := getI hI
  have h8 := hL.le8
  have h := hL.2.1
  have hw := (lawN_eq h).1
  have e17 : σ 1 7 = n2 (lawN (σ 66)) := hL.lawq
  rcases shf_cases hI.2.2 x with ⟨r, hr, hx, hm⟩ | ⟨d, w, n, hd, rfl, hx, hm, -, hn, -, -, e5, e77, hel⟩
  · refine st_read hI (r := r) ?_ ?_
    · unfold p_X11_forged
      simp only [hx, bndE, if_neg hr]
    · unfold p_X12_forged p_X12_forged_B26
      simp only [hm σ (FrX.rf σ), bndE, if_neg hr]
  have hmod := mod2 n (by omega)
  by_cases hev : n % 2 = 0
  · obtain ⟨m, rfl⟩ : ∃ m, n = 2 * m := ⟨n / 2, by omega⟩
    rw [hev] at hmod
    generalize hv : ff (fgC (σ 66) N (σ (14 + d))) m 0 = v
    have hT : ∀ {α : Type} {o : Option (α × Mem)} {v : α}, Tm o (fun u s => u = v ∧ s = σ) → o = some (v, σ) := fun ⟨_, _, e, e1, e2⟩ => by rw [e, e1, e2]
    have two : ∀ j, twoV N (σ (14 + d) (2 * j)) (σ (14 + d) (2 * j + 1)) = true → ∃ p q, p < N ∧ q < N ∧ σ (14 + d) (2 * j) = n2 p ∧ σ (14 + d) (2 * j + 1) = n2 q ∧ fgC (σ 66) N (σ (14 + d)) j = !svB (σ 66) p q := fun j hj => by
      obtain ⟨p, q, hp, hq, -, ea, eb⟩ := two_n2 h8 hj
      refine ⟨p, q, hp, hq, ea, eb, ?_⟩
      unfold fgC
      rw [hj, ea, eb, n2_nat (by omega), n2_nat (by omega)]
      rfl
    refine st_read hI (r := v) (hT ?_) (hT ?_)
    · unfold p_X11_forged
      simp (disch := omega) only [hx, bndE, if_true, n2_nat, iin, ltE, e5, hmod, ieq0]
      show Tm (p_X11_forged_L35 (p_X11_forged_B101 (n2 d)) (n2 d) 1000 (6 + d) (n2 (2 * 0)) σ) _
      refine lpT (L := fun g j (_ : Unit) τ => p_X11_forged_L35 (p_X11_forged_B101 (n2 d)) (n2 d) g (6 + d) (n2 (2 * j)) τ) (N := m) (fun j _ τ => τ = σ ∧ ff (fgC (σ 66) N (σ (14 + d))) (m - j) j = v) (fun g j _ τ hj hI hK => ?_) (fun g _ τ hI => ?_) m 0 () σ 1000 (by omega) (by omega) ⟨rfl, hv⟩
      · obtain ⟨rfl, he⟩ := hI
        rw [ff_step hj] at he
        show Tm (p_X11_forged_B35 (p_X11_forged_L35 (p_X11_forged_B101 (n2 d)) (n2 d) g) (p_X11_forged_B101 (n2 d)) (n2 d) (6 + d) (n2 (2 * j)) τ) _
        unfold p_X11_forged_B35 p_X11_forged_B101
        have e86 : 8 + (6 + d) = 14 + d := by omega
        simp (disch := omega) only [ltE, e5, n2_succ, ile_f, n2_nat, iin, e86, x_hasTwo hL.1, bndE, b2z, half j (by omega), n2_add2]
        cases htw : twoV N (τ (14 + d) (2 * j)) (τ (14 + d) (2 * j + 1))
        · have e : fgC (τ 66) N (τ (14 + d)) j = true := by unfold fgC; rw [htw]; rfl
          rw [e, if_pos rfl] at he
          rw [if_neg (by decide)]
          exact Tm.ret ⟨he, rfl⟩
        · obtain ⟨p, q, hp, hq, ea, eb, ef⟩ := two j htw
          rw [if_pos rfl, ea, eb]
          simp only [ltE, e17, hL.svq hp hq, bndE, b2z]
          cases hs : svB (τ 66) p q
          · rw [hs] at ef
            rw [ef, if_pos (show (!false) = true from rfl)] at he
            rw [if_neg (by decide)]
            exact Tm.ret ⟨he, rfl⟩
          · rw [hs] at ef
            rw [ef, if_neg (by decide)] at he
            rw [if_pos rfl]
            exact hK () τ ⟨rfl, he⟩
      · obtain ⟨rfl, he⟩ := hI
        show Tm (p_X11_forged_B35 (p_X11_forged_L35 (p_X11_forged_B101 (n2 d)) (n2 d) g) (p_X11_forged_B101 (n2 d)) (n2 d) (6 + d) (n2 (2 * m)) τ) _
        unfold p_X11_forged_B35
        simp (disch := omega) only [ltE, e5, n2_succ, ile_t]
        rw [ff_end] at he
        exact Tm.ret ⟨he, rfl⟩
    · unfold p_X12_forged p_X12_forged_B26
      have z01 : ¬ (n2 0 = 1) := by decide
      simp (disch := omega) only [hm σ (FrX.rf σ), bndE, if_true, n2_nat, iin, ltE, e77, hmod, if_neg z01]
      show Tm (p_X12_forged_L34 (p_X12_forged_B103 (n2 d)) (n2 d) 1000 (n2 (2 * 0)) σ) _
      refine lpT (L := fun g j (_ : Unit) τ => p_X12_forged_L34 (p_X12_forged_B103 (n2 d)) (n2 d) g (n2 (2 * j)) τ) (N := m) (fun j _ τ => τ = σ ∧ ff (fgC (σ 66) N (σ (14 + d))) (m - j) j = v) (fun g j _ τ hj hI hK => ?_) (fun g _ τ hI => ?_) m 0 () σ 1000 (by omega) (by omega) ⟨rfl, hv⟩
      · obtain ⟨rfl, he⟩ := hI
        rw [ff_step hj] at he
        show Tm (p_X12_forged_B34 (p_X12_forged_L34 (p_X12_forged_B103 (n2 d)) (n2 d) g) (p_X12_forged_B103 (n2 d)) (n2 d) (n2 (2 * j)) τ) _
        unfold p_X12_forged_B34 p_X12_forged_B103
        have ea' := hel (2 * j) (by omega)
        have eb' := hel (2 * j + 1) (by omega)
        rw [← Nat.add_assoc] at eb'
        simp (disch := omega) only [ltE, e77, n2_nat, iin, ile_f, el_n2, el_n2', ← ea', ← eb', m_areTwo h.1 h8, bndE, b2z, half j (by omega), n2_add2]
        cases htw : twoV N (τ (14 + d) (2 * j)) (τ (14 + d) (2 * j + 1))
        · have e : fgC (τ 66) N (τ (14 + d)) j = true := by unfold fgC; rw [htw]; rfl
          rw [e, if_pos rfl] at he
          rw [if_neg (by decide)]
          exact Tm.ret ⟨he, rfl⟩
        · obtain ⟨p, q, hp, hq, ea, eb, ef⟩ := two j htw
          rw [if_pos rfl, ea, eb]
          simp (disch := omega) only [ii1, c1, ltE, hw, m_sv h hp hq, bndE, b2z]
          cases hs : svB (τ 66) p q
          · rw [hs] at ef
            rw [ef, if_pos (show (!false) = true from rfl)] at he
            rw [if_neg (by decide)]
            exact Tm.ret ⟨he, rfl⟩
          · rw [hs] at ef
            rw [ef, if_neg (by decide)] at he
            rw [if_pos rfl]
            exact hK () τ ⟨rfl, he⟩
      · obtain ⟨rfl, he⟩ := hI
        show Tm (p_X12_forged_B34 (p_X12_forged_L34 (p_X12_forged_B103 (n2 d)) (n2 d) g) (p_X12_forged_B103 (n2 d)) (n2 d) (n2 (2 * m)) τ) _
        unfold p_X12_forged_B34
        simp (disch := omega) only [ltE, e77, n2_nat, iin, ile_t]
        rw [ff_end] at he
        exact Tm.ret ⟨he, rfl⟩
  · have h1 : n % 2 = 1 := by omega
    rw [h1] at hmod
    refine st_read hI (r := (-13 : Int32)) ?_ ?_
    · unfold p_X11_forged
      have z10 : ¬ (n2 1 = 0) := by decide
      simp (disch := omega) only [hx, bndE, if_true, n2_nat, iin, ltE, e5, hmod, if_neg z10]
    · unfold p_X12_forged p_X12_forged_B26
      have z11 : n2 1 = 1 := rfl
      have z13 : ¬ (-13 : Int32) = 0 := by decide
      simp (disch := omega) only [hm σ (FrX.rf σ), bndE, if_true, n2_nat, iin, ltE, e77, hmod, if_pos z11, if_neg z13]
