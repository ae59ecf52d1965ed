/-! rings -/
def rgB (R : Nat → Int32) (p q : Nat) : Bool := svB R p q && svB R q p
def rinF (R : Nat → Int32) (p q : Nat) (a : Nat × Int32) : Nat × Int32 := if rgB R p q = true then (a.1 + 1, if a.1 = 0 then n2 (10 * p + q) else a.2) else a
def rinG (R : Nat → Int32) (N p : Nat) (a : Nat × Int32) : Nat × Int32 := fo (rinF R p) (N - (p + 1)) (p + 1) a
theorem rinF_le {R : Nat → Int32} {p q m : Nat} {a : Nat × Int32} (h : a.1 ≤ m + q) : (rinF R p q a).1 ≤ m + (q + 1) := by
  unfold rinF
  split
  · show a.1 + 1 ≤ _
    omega
  · omega
theorem rinG_le {R : Nat → Int32} {N p : Nat} {a : Nat × Int32} (h8 : N ≤ 8) (hp : p < N) (h : a.1 ≤ 8 * p) : (rinG R N p a).1 ≤ 8 * (p + 1) := by
  have h1 := fo_inv (f := rinF R p) (N := N) (fun q a => a.1 ≤ 8 * p + q) (fun q a _ h => rinF_le h) (N - (p + 1)) (p + 1) a (by omega) (by omega)
  show (fo (rinF R p) (N - (p + 1)) (p + 1) a).1 ≤ 8 * (p + 1)
  omega
theorem n2_ten (p q : Nat) : n2 p * 10 + n2 q = n2 (10 * p + q) := by
  show n2 p * n2 10 + n2 q = _
  rw [show n2 p * n2 10 = n2 (p * 10) from (Int32.ofNat_mul p 10).symm, n2_add, Nat.mul_comm]
theorem n2_ten' (p q : Nat) : 10 * n2 p + n2 q = n2 (10 * p + q) := by
  show n2 10 * n2 p + n2 q = _
  rw [show n2 10 * n2 p = n2 (10 * p) from (Int32.ofNat_mul 10 p).symm, n2_add]
theorem CL3.svq {c N p q : Nat} {σ : Mem} {R : Nat → Int32} (h : CL3 σ c N R) (hp : p < N) (hq : q < N) : p_X3_counts c (n2 p) (n2 q) (n2 (lawN R)) σ = some (b2 (svB R p q), σ) := h.countq hp hq (lawN_eq h.2.1).2
theorem CL3.myq {c N p q : Nat} {σ : Mem} {R : Nat → Int32} (hc : isC c) (h : CL3 σ c N R) (hp : p < N) (hq : q < N) : p_X3_agree c (n2 p) (n2 q) (n2 (lawN R)) σ = some (b2 (myB R p q), σ) := h.agreeq hc hp hq (lawN_eq h.2.1).2
section RINGS
variable {N : Nat} {σ : Mem}
theorem x_ringL (hL : CL3 σ 1 N (σ 66)) {p : Nat} (hp : p < N) (x1 : Int32) (a : Nat × Int32) (ha : a.1 ≤ 8 * p) (k : Int32 → Int32 → Int32 → Mem → Option (Int32 × Mem)) : p_X11_rings_L35 k x1 1000 (n2 a.1) a.2 (n2 p) (n2 (p + 1)) σ = k (n2 (rinG (σ 66) N p a).1) (rinG (σ 66) N p a).2 (n2 p) σ := by
  have h8 := hL.le8
  have e5 : σ 1 5 = n2 N := hL.sizeq
  have e7 : σ 1 7 = n2 (lawN (σ 66)) := hL.lawq
  refine lp (L := fun g q (a : Nat × Int32) => p_X11_rings_L35 k x1 g (n2 a.1) a.2 (n2 p) (n2 q) σ) (f := rinF (σ 66) p) (fin := fun a => k (n2 a.1) a.2 (n2 p) σ) (N := N) (fun q a => a.1 ≤ 8 * p + q) (fun q a _ h => rinF_le h) (fun g q a hq hI => ?_) (fun g a hI => ?_) (N - (p + 1)) (p + 1) a 1000 (by omega) (by omega) (by omega)
  · show p_X11_rings_B35 (p_X11_rings_L35 k x1 g) k x1 (n2 a.1) a.2 (n2 p) (n2 q) σ = _
    unfold p_X11_rings_B35 p_X11_rings_B105 p_X11_rings_B109
    simp (disch := omega) only [ltE, e5, ile_f, e7, hL.svq hp hq, hL.svq hq hp, bndE, b2z, ieq0, n2_succ, n2_ten]
    unfold rinF rgB
    cases svB (σ 66) p q <;> cases svB (σ 66) q p
    · rfl
    · rfl
    · rfl
    · by_cases z : a.1 = 0
      · simp only [if_pos z, Bool.and_self, if_true]
      · simp only [if_neg z, Bool.and_self, if_true]
  · show p_X11_rings_B35 (p_X11_rings_L35 k x1 g) k x1 (n2 a.1) a.2 (n2 p) (n2 N) σ = _
    unfold p_X11_rings_B35
    simp (disch := omega) only [ltE, e5, ile_t]
theorem m_ringL (h : OkR (σ 66) N) {p : Nat} (hp : p < N) (x1 : Int32) (a : Nat × Int32) (ha : a.1 ≤ 8 * p) (k : Int32 → Int32 → Int32 → Mem → Option (Int32 × Mem)) : p_X12_rings_L36 k x1 1000 (n2 a.1) a.2 (n2 p) (n2 (p + 1)) σ = k (n2 (rinG (σ 66) N p a).1) (rinG (σ 66) N p a).2 (n2 p) σ := by
  have h8 := h.2.1
  have hw := (lawN_eq h).1
  refine lp (L := fun g q (a : Nat × Int32) => p_X12_rings_L36 k x1 g (n2 a.1) a.2 (n2 p) (n2 q) σ) (f := rinF (σ 66) p) (fin := fun a => k (n2 a.1) a.2 (n2 p) σ) (N := N) (fun q a => a.1 ≤ 8 * p + q) (fun q a _ h => rinF_le h) (fun g q a hq hI => ?_) (fun g a hI => ?_) (N - (p + 1)) (p + 1) a 1000 (by omega) (by omega) (by omega)
  · show p_X12_rings_B36 (p_X12_rings_L36 k x1 g) k x1 (n2 a.1) a.2 (n2 p) (n2 q) σ = _
    unfold p_X12_rings_B36 p_X12_rings_B106 p_X12_rings_B110
    simp (disch := omega) only [ii0, c0, ltE, h.1, ile_f, ii1, c1, hw, m_sv h hp hq, m_sv h hq hp, bndE, b2z, ieq0, n2_succ, n2_ten']
    unfold rinF rgB
    cases svB (σ 66) p q <;> cases svB (σ 66) q p
    · rfl
    · rfl
    · rfl
    · by_cases z : a.1 = 0
      · simp only [if_pos z, Bool.and_self, if_true]
      · simp only [if_neg z, Bool.and_self, if_true]
  · show p_X12_rings_B36 (p_X12_rings_L36 k x1 g) k x1 (n2 a.1) a.2 (n2 p) (n2 N) σ = _
    unfold p_X12_rings_B36
    simp (disch := omega) only [ii0, c0, ltE, h.1, ile_t]
end RINGS
theorem st_rings : St1 Inv p_X11_rings p_X12_rings := by
  intro x σ hI
  obtain ⟨N, t, hL, -, -, -, -⟩ := getI hI
  have h8 := hL.le8
  have h := hL.2.1
  cases hx : inV x 0 1
  · refine st_read hI (r := (-1 : Int32)) ?_ ?_
    · unfold p_X11_rings
      simp only [x_isPart, bndE, b2z, hx]
      rfl
    · unfold p_X12_rings
      simp only [m_isIn, bndE, b2z, hx]
      rfl
  · generalize hw : fo (rinG (σ 66) N) N 0 (0, -4) = w
    refine st_read hI (r := if x = 0 then n2 w.1 else w.2) ?_ ?_
    · unfold p_X11_rings
      simp only [x_isPart, bndE, b2z, hx, if_true]
      have k := fun (kk : Int32 → Int32 → Mem → Option (Int32 × Mem)) => lp (L := fun g p (a : Nat × Int32) => p_X11_rings_L17 kk x g (n2 a.1) a.2 (n2 p) σ) (f := rinG (σ 66) N) (fin := fun a => kk (n2 a.1) a.2 σ) (N := N) (fun p a => a.1 ≤ 8 * p) (fun p a hp h => rinG_le h8 hp h) (fun g p a hp ha => by
        show p_X11_rings_B17 (p_X11_rings_L17 kk x g) kk x (n2 a.1) a.2 (n2 p) σ = _
        have e5 : σ 1 5 = n2 N := hL.sizeq
        unfold p_X11_rings_B17
        simp (disch := omega) only [ltE, e5, ile_f, n2_succ, x_ringL hL hp x a ha]) (fun g a _ => by
        show p_X11_rings_B17 (p_X11_rings_L17 kk x g) kk x (n2 a.1) a.2 (n2 N) σ = _
        have e5 : σ 1 5 = n2 N := hL.sizeq
        unfold p_X11_rings_B17
        simp (disch := omega) only [ltE, e5, ile_t]) N 0 (0, -4) 1000 (by omega) (by omega) (by decide)
      refine (k _).trans ?_
      rw [hw]
      split <;> rfl
    · unfold p_X12_rings
      simp only [m_isIn, bndE, b2z, hx, if_true]
      have k := fun (kk : Int32 → Int32 → Mem → Option (Int32 × Mem)) => lp (L := fun g p (a : Nat × Int32) => p_X12_rings_L19 kk x g (n2 a.1) a.2 (n2 p) σ) (f := rinG (σ 66) N) (fin := fun a => kk (n2 a.1) a.2 σ) (N := N) (fun p a => a.1 ≤ 8 * p) (fun p a hp h => rinG_le h8 hp h) (fun g p a hp ha => by
        show p_X12_rings_B19 (p_X12_rings_L19 kk x g) kk x (n2 a.1) a.2 (n2 p) σ = _
        unfold p_X12_rings_B19
        simp (disch := omega) only [ii0, c0, ltE, h.1, ile_f, n2_succ, m_ringL h hp x a ha]) (fun g a _ => by
        show p_X12_rings_B19 (p_X12_rings_L19 kk x g) kk x (n2 a.1) a.2 (n2 N) σ = _
        unfold p_X12_rings_B19
        simp (disch := omega) only [ii0, c0, ltE, h.1, ile_t]) N 0 (0, -4) 1000 (by omega) (by omega) (by decide)
      refine (k _).trans ?_
      rw [hw]
      split <;> rfl
/-! quarrels -/
def quB (R : Nat → Int32) (p q : Nat) : Bool := !decide (lo R p = 1) && (!decide (lo R q = 1) && !myB R p q)
def quG (R : Nat → Int32) (N p v : Nat) : Nat := fo (cnF (quB R p)) (N - (p + 1)) (p + 1) v
section QUARREL
variable {N : Nat} {σ : Mem}
theorem x_quL (hL : CL3 σ 1 N (σ 66)) {p : Nat} (hp : p < N) (v : Nat) (k : Int32 → Int32 → Mem → Option (Int32 × Mem)) : p_X11_quarrels_L19 k 1000 (n2 v) (n2 p) (n2 (p + 1)) σ = k (n2 (quG (σ 66) N p v)) (n2 p) σ := by
  have h8 := hL.le8
  have e5 : σ 1 5 = n2 N := hL.sizeq
  have e7 : σ 1 7 = n2 (lawN (σ 66)) := hL.lawq
  refine lp (L := fun g q v => p_X11_quarrels_L19 k g (n2 v) (n2 p) (n2 q) σ) (f := cnF (quB (σ 66) p)) (fin := fun v => k (n2 v) (n2 p) σ) (N := N) (fun _ _ => True) (fun _ _ _ _ => trivial) (fun g q v hq _ => ?_) (fun g v _ => ?_) (N - (p + 1)) (p + 1) v 1000 (by omega) (by omega) trivial
  · show p_X11_quarrels_B19 (p_X11_quarrels_L19 k g) k (n2 v) (n2 p) (n2 q) σ = _
    unfold p_X11_quarrels_B19 p_X11_quarrels_B74
    simp (disch := omega) only [ltE, e5, ile_f, e7, x_isLost hL hp, x_isLost hL hq, hL.myq isC1 hp hq, bndE, b2z, n2_succ]
    unfold cnF quB
    cases decide (lo (σ 66) p = 1) <;> cases decide (lo (σ 66) q = 1) <;> cases myB (σ 66) p q <;> rfl
  · show p_X11_quarrels_B19 (p_X11_quarrels_L19 k g) k (n2 v) (n2 p) (n2 N) σ = _
    unfold p_X11_quarrels_B19
    simp (disch := omega) only [ltE, e5, ile_t]
theorem m_quL (h : OkR (σ 66) N) {p : Nat} (hp : p < N) (v : Nat) (k : Int32 → Int32 → Int32 → Mem → Option (Int32 × Mem)) : p_X12_quarrels_L27 k 1000 (n2 (aliveV (σ 66) N)) (n2 v) (n2 p) (n2 (p + 1)) σ = k (n2 (aliveV (σ 66) N)) (n2 (quG (σ 66) N p v)) (n2 p) σ := by
  have h8 := h.2.1
  have hA := alive_lt (R := σ 66) h8
  have b1 : (aliveV (σ 66) N).testBit p = !decide (lo (σ 66) p = 1) := by rw [alive_bit h8, decide_eq_true hp]; rfl
  refine lp (L := fun g q v => p_X12_quarrels_L27 k g (n2 (aliveV (σ 66) N)) (n2 v) (n2 p) (n2 q) σ) (f := cnF (quB (σ 66) p)) (fin := fun v => k (n2 (aliveV (σ 66) N)) (n2 v) (n2 p) σ) (N := N) (fun _ _ => True) (fun _ _ _ _ => trivial) (fun g q v hq _ => ?_) (fun g v _ => ?_) (N - (p + 1)) (p + 1) v 1000 (by omega) (by omega) trivial
  · show p_X12_quarrels_B27 (p_X12_quarrels_L27 k g) k (n2 (aliveV (σ 66) N)) (n2 v) (n2 p) (n2 q) σ = _
    have b2' : (aliveV (σ 66) N).testBit q = !decide (lo (σ 66) q = 1) := by rw [alive_bit h8, decide_eq_true hq]; rfl
    unfold p_X12_quarrels_B27 p_X12_quarrels_B73 p_X12_quarrels_B74
    simp (disch := omega) only [ii0, c0, ltE, h.1, ile_f, m_has σ hA (show p < 8 by omega), m_has σ hA (show q < 8 by omega), b1, b2', m_my h hp hq, bndE, b2z, n2_succ]
    rw [show n2 v + 0 = n2 v from n2_add v 0]
    unfold cnF quB
    cases decide (lo (σ 66) p = 1) <;> cases decide (lo (σ 66) q = 1) <;> cases myB (σ 66) p q <;> rfl
  · show p_X12_quarrels_B27 (p_X12_quarrels_L27 k g) k (n2 (aliveV (σ 66) N)) (n2 v) (n2 p) (n2 N) σ = _
    unfold p_X12_quarrels_B27
    simp (disch := omega) only [ii0, c0, ltE, h.1, ile_t]
end QUARREL
theorem st_quarrels : St0 Inv p_X11_quarrels p_X12_quarrels := by
  intro σ hI
  obtain ⟨N, t, hL, -, -, -, -⟩ := getI hI
  have h8 := hL.le8
  have h := hL.2.1
  have e5 : σ 1 5 = n2 N := hL.sizeq
  refine st_read hI (r := n2 (fo (quG (σ 66) N) N 0 0)) ?_ ?_
  · refine lp (L := fun g p v => p_X11_quarrels_L4 g (n2 v) (n2 p) σ) (f := quG (σ 66) N) (fin := fun v => some (n2 v, σ)) (N := N) (fun _ _ => True) (fun _ _ _ _ => trivial) (fun g p v hp _ => ?_) (fun g v _ => ?_) N 0 0 1000 (by omega) (by omega) trivial
    · show p_X11_quarrels_B4 (p_X11_quarrels_L4 g) (n2 v) (n2 p) σ = _
      unfold p_X11_quarrels_B4
      simp (disch := omega) only [ltE, e5, ile_f, n2_succ, x_quL hL hp]
    · show p_X11_quarrels_B4 (p_X11_quarrels_L4 g) (n2 v) (n2 N) σ = _
      unfold p_X11_quarrels_B4
      simp (disch := omega) only [ltE, e5, ile_t]
  · unfold p_X12_quarrels
    rw [m_aliveSet h, bndE]
    refine lp (L := fun g p v => p_X12_quarrels_L12 g (n2 (aliveV (σ 66) N)) (n2 v) (n2 p) σ) (f := quG (σ 66) N) (fin := fun v => some (n2 v, σ)) (N := N) (fun _ _ => True) (fun _ _ _ _ => trivial) (fun g p v hp _ => ?_) (fun g v _ => ?_) N 0 0 1000 (by omega) (by omega) trivial
    · show p_X12_quarrels_B12 (p_X12_quarrels_L12 g) (n2 (aliveV (σ 66) N)) (n2 v) (n2 p) σ = _
      unfold p_X12_quarrels_B12
      simp (disch := omega) only [ii0, c0, ltE, h.1, ile_f, n2_succ, m_quL h hp]
    · show p_X12_quarrels_B12 (p_X12_quarrels_L12 g) (n2 (aliveV (σ 66) N)) (n2 v) (n2 N) σ = _
      unfold p_X12_quarrels_B12
      simp (disch := omega) only [ii0, c0, ltE, h.1, ile_t]
/-! count -/
def abdV (R : Nat → Int32) (N : Nat) : Nat := (crewV R N 0 ||| crewV R N 1) ||| crewV R N 2
theorem abd_lt {R : Nat → Int32} {N : Nat} (h : N ≤ 8) : abdV R N < 256 := Nat.or_lt_two_pow (n := 8) (Nat.or_lt_two_pow (n := 8) (crew_lt h) (crew_lt h)) (crew_lt h)
theorem x_aboard {c N : Nat} {σ : Mem} {R : Nat → Int32} (h : CL3 σ c N R) : p_X3_aboard c σ = some (n2 (abdV R N), σ) := by
  have k := lp (L := fun g b a => p_X3_aboard_L4 c g (n2 a) (n2 b) σ) (f := fun b a => a ||| crewV R N (n2 b)) (fin := fun a => some (n2 a, σ)) (N := 3) (fun _ _ => True) (fun _ _ _ _ => trivial) (fun g b a hb _ => ?_) (fun g a _ => rfl) 3 0 0 1000 (by omega) (by omega) trivial
  · refine Eq.trans k ?_
    show some (n2 (((0 ||| crewV R N (n2 0)) ||| crewV R N (n2 1)) ||| crewV R N (n2 2)), σ) = _
    rw [Nat.zero_or]
    rfl
  · show p_X3_aboard_B4 (p_X3_aboard_L4 c g) c (n2 a) (n2 b) σ = _
    unfold p_X3_aboard_B4
    rw [show (if (3 : Int32) ≤ n2 b then _ else _) = _ from ile_f (a := 3) (b := b) ⟨by omega, by omega⟩, x_crewV h.1, bndE, n2_or, n2_succ]
theorem m_afloat {r N : Nat} {σ : Mem} (h : OkR (σ r) N) : p_X12_afloat r σ = some (n2 (abdV (σ r) N), σ) := by
  unfold p_X12_afloat
  simp only [m_crewV h.1 h.2.1, bndE, n2_or]
  rfl
def svgF (R : Nat → Int32) (N p v : Nat) : Nat := v + cnt (svB R p) N
theorem st_count : St1 Inv p_X11_count p_X12_count := by
  intro x σ hI
  obtain ⟨N, t, hL, -, -, -, -⟩ := getI hI
  have h8 := hL.le8
  have h := hL.2.1
  have e5 : σ 1 5 = n2 N := hL.sizeq
  by_cases x0 : x = 0
  · subst x0
    refine st_read hI (r := n2 N) ?_ ?_
    · unfold p_X11_count
      rw [if_pos rfl, ltE, e5]
    · unfold p_X12_count
      rw [m_isIn, bndE, b2z, if_pos (by decide)]
      simp (disch := omega) only [ii0, c0, ltE, h.1]
  by_cases x1 : x = 1
  · subst x1
    refine st_read hI (r := n2 (lawN (σ 66))) ?_ ?_
    · have e7 : σ 1 7 = n2 (lawN (σ 66)) := hL.lawq
      unfold p_X11_count
      rw [if_neg (by decide), if_pos rfl, ltE, e7]
    · unfold p_X12_count
      rw [m_isIn, bndE, b2z, if_pos (by decide)]
      simp (disch := omega) only [ii1, c1, ltE, (lawN_eq h).1]
  by_cases x2 : x = 2
  · subst x2
    refine st_read hI (r := n2 (seaN (σ 66))) ?_ ?_
    · have e8 : σ 1 8 = n2 (seaN (σ 66)) := hL.seaq
      unfold p_X11_count
      rw [if_neg (by decide), if_neg (by decide), if_pos rfl, ltE, e8]
    · unfold p_X12_count
      rw [m_isIn, bndE, b2z, if_pos (by decide)]
      simp (disch := omega) only [ii2, c2, ltE, (seaN_eq h).1]
  by_cases x3 : x = 3
  · subst x3
    refine st_read hI (r := n2 (ssN (σ 66))) ?_ ?_
    · have e9 : σ 1 9 = n2 (ssN (σ 66)) := hL.ssq
      unfold p_X11_count
      rw [if_neg (by decide), if_neg (by decide), if_neg (by decide), if_pos rfl, ltE, e9]
    · unfold p_X12_count
      rw [m_isIn, bndE, b2z, if_pos (by decide)]
      simp (disch := omega) only [ii3, c3, ltE, (ssN_eq h).1]
  have hno : inV x 0 3 = false := by
    cases hx : inV x 0 3
    · rfl
    · obtain ⟨v, hv, rfl⟩ := in3 hx
      match v, hv with
      | 0, _ => exact absurd rfl x0
      | 1, _ => exact absurd rfl x1
      | 2, _ => exact absurd rfl x2
      | 3, _ => exact absurd rfl x3
  by_cases x4 : x = 4
  · subst x4
    refine st_read hI (r := n2 (lostV (σ 66) N)) ?_ ?_
    · have e6 : σ 1 6 = n2 (lostV (σ 66) N) := hL.lostq
      unfold p_X11_count
      rw [if_neg (by decide), if_neg (by decide), if_neg (by decide), if_neg (by decide), if_pos rfl, ltE, e6]
    · unfold p_X12_count
      rw [m_isIn, bndE, b2z, hno, if_neg (by decide), if_pos rfl, m_lostSet h, bndE]
  by_cases x5 : x = 5
  · subst x5
    refine st_read hI (r := n2 (abdV (σ 66) N)) ?_ ?_
    · unfold p_X11_count
      rw [if_neg (by decide), if_neg (by decide), if_neg (by decide), if_neg (by decide), if_neg (by decide), if_pos rfl, x_aboard hL, bndE]
    · unfold p_X12_count
      rw [m_isIn, bndE, b2z, hno, if_neg (by decide), if_neg (by decide), if_pos rfl, m_afloat h, bndE]
  by_cases x6 : x = 6
  · subst x6
    refine st_read hI (r := n2 (fo (svgF (σ 66) N) N 0 0)) ?_ ?_
    · unfold p_X11_count
      rw [if_neg (by decide), if_neg (by decide), if_neg (by decide), if_neg (by decide), if_neg (by decide), if_neg (by decide), if_pos rfl]
      have k := lp (L := fun g p v => p_X3_savings_L4 1 g (n2 v) (n2 p) σ) (f := svgF (σ 66) N) (fin := fun v => some (n2 v, σ)) (N := N) (fun _ _ => True) (fun _ _ _ _ => trivial) (fun g p v hp _ => ?_) (fun g v _ => ?_) N 0 0 1000 (by omega) (by omega) trivial
      · rw [show p_X3_savings 1 σ = _ from k, bndE]
      · show p_X3_savings_B4 (p_X3_savings_L4 1 g) 1 (n2 v) (n2 p) σ = _
        unfold p_X3_savings_B4
        simp (disch := omega) only [ltE, e5, ile_f, x_savedBy hL hp, bndE, x_pop (set_lt h8), pop_cnt h8, n2_add, n2_succ]
        rfl
      · show p_X3_savings_B4 (p_X3_savings_L4 1 g) 1 (n2 v) (n2 N) σ = _
        unfold p_X3_savings_B4
        simp (disch := omega) only [ltE, e5, ile_t]
    · unfold p_X12_count
      rw [m_isIn, bndE, b2z, hno, if_neg (by decide), if_neg (by decide), if_neg (by decide), if_pos rfl]
      refine lp (L := fun g p v => p_X12_count_L62 6 g (n2 v) (n2 p) σ) (f := svgF (σ 66) N) (fin := fun v => some (n2 v, σ)) (N := N) (fun _ _ => True) (fun _ _ _ _ => trivial) (fun g p v hp _ => ?_) (fun g v _ => ?_) N 0 0 1000 (by omega) (by omega) trivial
      · show p_X12_count_B62 (p_X12_count_L62 6 g) 6 (n2 v) (n2 p) σ = _
        unfold p_X12_count_B62
        simp (disch := omega) only [ii0, c0, ltE, h.1, ile_f, m_owedOf h hp, bndE, n2_add, n2_succ]
        rfl
      · show p_X12_count_B62 (p_X12_count_L62 6 g) 6 (n2 v) (n2 N) σ = _
        unfold p_X12_count_B62
        simp (disch := omega) only [ii0, c0, ltE, h.1, ile_t]
  · refine st_read hI (r := (-1 : Int32)) ?_ ?_
    · unfold p_X11_count
      rw [if_neg x0, if_neg x1, if_neg x2, if_neg x3, if_neg x4, if_neg x5, if_neg x6]
    · unfold p_X12_count
      rw [m_isIn, bndE, b2z, hno, if_neg (by decide), if_neg x4, if_neg x5, if_neg x6]
