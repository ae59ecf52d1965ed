/-! falls by odds -/
def odF (N t still i : Nat) (a : Nat × (Nat → Int32)) : Nat × (Nat → Int32) := if still.testBit i = true then (a.1, upd a.2 3 (a.2 3 + 1)) else (a.1 * (t - 1), se1 N a.2)
def odW (N n t : Nat) (A : Nat → Int32) (still : Nat) : Nat × (Nat → Int32) := fo (odF N t still) n 0 (1, A)
def odV (N n t : Nat) (A : Nat → Int32) (p still : Nat) : Nat := if lo (odW N n t A still).2 p = 1 then 0 else (odW N n t A still).1
def odI (N s : Nat) (A : Nat → Int32) (i : Nat) (a : Nat × (Nat → Int32)) : Prop := OkR a.2 N ∧ a.2 3 = n2 (s + i) ∧ (∀ k, 100 ≤ k → a.2 k = A k) ∧ a.1 ≤ 19 ^ i
theorem odF_ok {N t still s i : Nat} {A : Nat → Int32} {a : Nat × (Nat → Int32)} (ht : t ≤ 20) (hs : s + i + 1 < 2000) (h : odI N s A i a) : odI N s A (i + 1) (odF N t still i a) := by
  obtain ⟨h1, h2, h3, h4⟩ := h
  unfold odF
  split
  · refine ⟨?_, ?_, fun k hk => ?_, ?_⟩
    · show OkR (upd a.2 3 (a.2 3 + 1)) N
      rw [h2, n2_succ]
      exact h1.ss hs
    · show upd a.2 3 (a.2 3 + 1) 3 = _
      rw [upd_at, h2, n2_succ]
      rfl
    · show upd a.2 3 (a.2 3 + 1) k = _
      rw [upd_ne (by omega)]
      exact h3 k hk
    · show a.1 ≤ 19 ^ (i + 1)
      rw [Nat.pow_succ]
      omega
  · obtain ⟨g1, g2, g3⟩ := se1_ok h1 h2 hs
    refine ⟨g1, g2, fun k hk => (g3 k hk).trans (h3 k hk), ?_⟩
    show a.1 * (t - 1) ≤ 19 ^ (i + 1)
    rw [Nat.pow_succ]
    exact Nat.mul_le_mul h4 (by omega)
theorem odW_ok {N n t still s : Nat} {A : Nat → Int32} (hA : OkR A N) (h3 : A 3 = n2 s) (ht : t ≤ 20) (hs : s + n < 2000) : odI N s A n (odW N n t A still) :=
  fo_inv (f := odF N t still) (N := n) (fun i a => odI N s A i a) (fun i a hi h => odF_ok ht (by omega) h) n 0 (1, A) (by omega) ⟨hA, h3, fun _ _ => rfl, Nat.le_refl 1⟩
theorem odV_le {N n t still s p : Nat} {A : Nat → Int32} (hA : OkR A N) (h3 : A 3 = n2 s) (ht : t ≤ 20) (hs : s + n < 2000) (hn : n ≤ 7) : odV N n t A p still ≤ 893871739 := by
  have h := (odW_ok (still := still) hA h3 ht hs).2.2.2
  have h2 : 19 ^ n ≤ 19 ^ 7 := Nat.pow_le_pow_right (by omega) hn
  unfold odV
  split
  · omega
  · have h3 : (19 : Nat) ^ 7 = 893871739 := rfl
    omega
theorem n6_mul (a b : Nat) : n6 a * n6 b = n6 (a * b) := (Int64.ofNat_mul a b).symm
theorem n6_add (a b : Nat) : n6 a + n6 b = n6 (a + b) := (Int64.ofNat_add a b).symm
theorem t_1 {t : Nat} (h2 : 2 ≤ t) (h20 : t ≤ 20) : Int32.toInt64 (n2 t - 1) = n6 (t - 1) := by
  rw [show n2 t - 1 = n2 (t - 1) from n2_sub (b := 1) (by omega) (by omega), n6_of (by omega)]
section ODDS
variable {N n t p s : Nat}
theorem x_chances {σ τ : Mem} {A : Nat → Int32} (hA : CL3 σ 1 N A) (h3 : A 3 = n2 s) (hs : s ≤ 999) (hf : FrC 3 σ τ) (hp : p < N) (hn : n ≤ 7) (h2 : 2 ≤ t) (h20 : t ≤ 20) {still : Nat} (hst : still < 128) : Tm (p_X11_chances (n2 p) (n2 n) (n2 t) (n2 still) τ) (fun v u => v = n6 (odV N n t A p still) ∧ FrC 3 σ u) := by
  have h8 := hA.le8
  unfold p_X11_chances
  refine (x_mind hA hf).bd (fun _ s1 h1 => ?_)
  refine lpT (L := fun g i (a : Nat × (Nat → Int32)) u => p_X11_chances_L17 (fun (x5 : Int64) (m12 : Mem) => (bnd (p_X3_isLost 3 (n2 p) m12) fun v13 s14 => (if v13 = 0 then some (x5, s14) else some ((0 : Int64), s14)))) (n2 p) (n2 n) (n2 t) (n2 still) g (n6 a.1) (n2 i) u) (N := n) (fun i a u => CL3 u 3 N a.2 ∧ FrC 3 σ u ∧ odI N s A i a ∧ fo (odF N t still) (n - i) i a = odW N n t A still) (fun g i a u hi hI hK => ?_) (fun g a u hI => ?_) n 0 (1, A) s1 1000 (by omega) (by omega) ⟨h1.1, h1.2, ⟨hA.2.1, h3, fun _ _ => rfl, Nat.le_refl 1⟩, rfl⟩
  · obtain ⟨hC, hf, ho, he⟩ := hI
    rw [fo_step hi] at he
    have ho2 := odF_ok (still := still) h20 (show s + i + 1 < 2000 by omega) ho
    show Tm (p_X11_chances_B17 (p_X11_chances_L17 _ (n2 p) (n2 n) (n2 t) (n2 still) g) _ (n2 p) (n2 n) (n2 t) (n2 still) (n6 a.1) (n2 i) u) _
    unfold p_X11_chances_B17 p_X11_chances_B66
    rw [ile_f ⟨by omega, by omega⟩, x_holds u (show still < 256 by omega) (show i < 8 by omega), bndE, b2z]
    cases hb : still.testBit i
    · have e : odF N t still i a = (a.1 * (t - 1), se1 N a.2) := by unfold odF; rw [hb, if_neg (by decide)]
      rw [e] at he ho2
      rw [if_neg (by decide)]
      refine (x_sails isC3 hC ho.2.1 (n := 1) (by omega) (by omega)).bd (fun _ u2 q => ?_)
      rw [t_1 h2 h20, n6_mul, n2_succ]
      exact hK (a.1 * (t - 1), se1 N a.2) u2 ⟨q.1, hf.tr q.2, ho2, he⟩
    · have e : odF N t still i a = (a.1, upd a.2 3 (a.2 3 + 1)) := by unfold odF; rw [hb, if_pos rfl]
      rw [e] at he ho2
      rw [if_pos rfl, ltE, wrE, n2_succ]
      have e9 : u 3 9 = n2 (s + i) := hC.1.2.2.2.2.2.2.2.trans ho.2.1
      have e3 : a.2 3 + 1 = n2 (s + i + 1) := by rw [ho.2.1, n2_succ]
      rw [e9, n2_succ]
      refine hK (a.1, upd a.2 3 (a.2 3 + 1)) _ ⟨?_, hf.w (Or.inl rfl), ho2, he⟩
      show CL3 (mu u 3 9 (n2 (s + i + 1))) 3 N (upd a.2 3 (a.2 3 + 1))
      rw [e3]
      exact hC.ss isC3 (by omega)
  · obtain ⟨hC, hf, ho, he⟩ := hI
    show Tm (p_X11_chances_B17 (p_X11_chances_L17 _ (n2 p) (n2 n) (n2 t) (n2 still) g) _ (n2 p) (n2 n) (n2 t) (n2 still) (n6 a.1) (n2 n) u) _
    unfold p_X11_chances_B17
    rw [ile_t ⟨by omega, by omega⟩]
    rw [fo_end] at he
    have he : a = odW N n t A still := he
    show Tm (bnd (p_X3_isLost 3 (n2 p) u) _) _
    rw [x_isLost hC hp, bndE, b2z]
    unfold odV
    rw [← he]
    by_cases hl : lo a.2 p = 1
    · rw [if_pos (decide_eq_true hl), if_pos hl]
      exact Tm.ret ⟨rfl, hf⟩
    · rw [if_neg (fun e => hl (decide_eq_true_eq.mp e)), if_neg hl]
      exact Tm.ret ⟨rfl, hf⟩
theorem m_weight {u : Mem} {A : Nat → Int32} (hA : OkR A N) (h3 : A 3 = n2 s) (hs : s ≤ 999) (hn : n ≤ 7) (h2 : 2 ≤ t) (h20 : t ≤ 20) {still : Nat} (hst : still < 128) (x1 y : Int32) (x5 x7 : Int64) (k : Int64 → Int64 → Int32 → Int64 → Mem → Option (Int64 × Mem)) : p_X12_odds_L98 k x1 (n2 n) (n2 t) y 1000 x5 x7 (n2 still) 1 0 (ms u 67 A) = k x5 x7 (n2 still) (n6 (odW N n t A still).1) (ms u 67 (odW N n t A still).2) := by
  have h8 := hA.2.1
  refine lp (L := fun g i (a : Nat × (Nat → Int32)) => p_X12_odds_L98 k x1 (n2 n) (n2 t) y g x5 x7 (n2 still) (n6 a.1) (n2 i) (ms u 67 a.2)) (f := odF N t still) (fin := fun a => k x5 x7 (n2 still) (n6 a.1) (ms u 67 a.2)) (N := n) (fun i a => odI N s A i a) (fun i a hi h => odF_ok h20 (by omega) h) (fun g i a hi ho => ?_) (fun g a _ => ?_) n 0 (1, A) 1000 (by omega) (by omega) ⟨hA, h3, fun _ _ => rfl, Nat.le_refl 1⟩
  · show p_X12_odds_B98 (p_X12_odds_L98 k x1 (n2 n) (n2 t) y g) k x1 (n2 n) (n2 t) y x5 x7 (n2 still) (n6 a.1) (n2 i) (ms u 67 a.2) = _
    have hh := m_has (a := still) (p := i) (ms u 67 a.2) (by omega) (by omega)
    have e67 : ms u 67 a.2 67 = a.2 := ms_at _ _ _
    unfold p_X12_odds_B98 p_X12_odds_B124 odF
    rw [ile_f ⟨by omega, by omega⟩, hh, bndE, b2z, hh]
    simp only [bndE]
    cases hb : still.testBit i
    · have hm := m_season (r := 67) (N := N) (σ := ms u 67 a.2) (by rw [e67]; exact ho.1) (by rw [e67]; exact ho.2.1) (by omega)
      rw [e67, ms_ms] at hm
      rw [if_neg (by decide), if_neg (by decide), show b2 false = (0 : Int32) from rfl, hm, bndE, t_1 h2 h20, n6_mul, n2_succ]
    · have hm := m_still (r := 67) (σ := ms u 67 a.2)
      rw [e67, ms_ms] at hm
      rw [if_pos rfl, if_pos rfl, show b2 true = (1 : Int32) from rfl, hm, bndE, Int64.mul_one, n2_succ]
  · show p_X12_odds_B98 (p_X12_odds_L98 k x1 (n2 n) (n2 t) y g) k x1 (n2 n) (n2 t) y x5 x7 (n2 still) (n6 a.1) (n2 n) (ms u 67 a.2) = _
    unfold p_X12_odds_B98
    rw [ile_t ⟨by omega, by omega⟩]
def blV (n t : Nat) : Nat := fo (fun _ b => b * t) n 0 1
theorem bl_lt (hn : n ≤ 7) (h20 : t ≤ 20) : blV n t < 2147483648 := by
  have h := fo_inv (f := fun _ b => b * t) (N := n) (fun i b => b ≤ 20 ^ i) (fun i b _ h => by
    show b * t ≤ 20 ^ (i + 1)
    rw [Nat.pow_succ]
    exact Nat.mul_le_mul h h20) n 0 1 (by omega) (by decide)
  have h2 : 20 ^ n ≤ 20 ^ 7 := Nat.pow_le_pow_right (by omega) hn
  have h3 : (20 : Nat) ^ 7 = 1280000000 := rfl
  have h4 : blV n t ≤ 20 ^ n := h
  omega
theorem x_below (hn : n ≤ 7) (h20 : t ≤ 20) (x1 y : Int32) (k : Int64 → Int64 → Mem → Option (Int64 × Mem)) (τ : Mem) : p_X11_odds_L64 k x1 (n2 n) (n2 t) y 1000 0 1 0 τ = k 0 (n6 (blV n t)) τ := by
  refine lp (L := fun g i b => p_X11_odds_L64 k x1 (n2 n) (n2 t) y g 0 (n6 b) (n2 i) τ) (f := fun _ b => b * t) (fin := fun b => k 0 (n6 b) τ) (N := n) (fun _ _ => True) (fun _ _ _ _ => trivial) (fun g i b hi _ => ?_) (fun g b _ => ?_) n 0 1 1000 (by omega) (by omega) trivial
  · show p_X11_odds_B64 (p_X11_odds_L64 k x1 (n2 n) (n2 t) y g) k x1 (n2 n) (n2 t) y 0 (n6 b) (n2 i) τ = _
    unfold p_X11_odds_B64
    rw [ile_f ⟨by omega, by omega⟩, n6_of (by omega), n6_mul, n2_succ]
  · show p_X11_odds_B64 (p_X11_odds_L64 k x1 (n2 n) (n2 t) y g) k x1 (n2 n) (n2 t) y 0 (n6 b) (n2 n) τ = _
    unfold p_X11_odds_B64
    rw [ile_t ⟨by omega, by omega⟩]
theorem m_below (hn : n ≤ 7) (h20 : t ≤ 20) (x1 y : Int32) (k : Int64 → Int64 → Mem → Option (Int64 × Mem)) (τ : Mem) : p_X12_odds_L51 k x1 (n2 n) (n2 t) y 1000 0 1 0 τ = k 0 (n6 (blV n t)) τ := by
  refine lp (L := fun g i b => p_X12_odds_L51 k x1 (n2 n) (n2 t) y g 0 (n6 b) (n2 i) τ) (f := fun _ b => b * t) (fin := fun b => k 0 (n6 b) τ) (N := n) (fun _ _ => True) (fun _ _ _ _ => trivial) (fun g i b hi _ => ?_) (fun g b _ => ?_) n 0 1 1000 (by omega) (by omega) trivial
  · show p_X12_odds_B51 (p_X12_odds_L51 k x1 (n2 n) (n2 t) y g) k x1 (n2 n) (n2 t) y 0 (n6 b) (n2 i) τ = _
    unfold p_X12_odds_B51
    rw [ile_f ⟨by omega, by omega⟩, n6_of (by omega), n6_mul, n2_succ]
  · show p_X12_odds_B51 (p_X12_odds_L51 k x1 (n2 n) (n2 t) y g) k x1 (n2 n) (n2 t) y 0 (n6 b) (n2 n) τ = _
    unfold p_X12_odds_B51
    rw [ile_t ⟨by omega, by omega⟩]
end ODDS
def abF (N n t : Nat) (A : Nat → Int32) (p still v : Nat) : Nat := v + odV N n t A p still
theorem st_odds : St4 Inv p_X11_odds p_X12_odds := by
  intro a n t y σ hI
  obtain ⟨N, s, hL, hA, h3, hA3, hs⟩ := getI hI
  have h8 := hL.le8
  have h := hL.2.1
  cases hn : inV n 0 7
  · refine st_read hI (r := (1000000001 : Int64)) ?_ ?_
    · unfold p_X11_odds
      simp only [x_within, bndE, b2z, hn]
      rfl
    · unfold p_X12_odds
      simp only [m_isMan h.1 h8, bndE, b2z, m_isIn, hn]
      cases manV N a <;> rfl
  cases ht : inV t 2 20
  · refine st_read hI (r := (1000000001 : Int64)) ?_ ?_
    · unfold p_X11_odds
      simp only [x_within, bndE, b2z, hn, if_true, ht]
      rfl
    · unfold p_X12_odds
      simp only [m_isMan h.1 h8, bndE, b2z, m_isIn, hn, if_true, ht]
      cases manV N a <;> rfl
  cases hy : inV y 0 1
  · refine st_read hI (r := (1000000001 : Int64)) ?_ ?_
    · unfold p_X11_odds
      simp only [x_within, bndE, b2z, hn, if_true, ht, x_isPart, hy]
      rfl
    · unfold p_X12_odds
      simp only [m_isMan h.1 h8, bndE, b2z, m_isIn, hn, if_true, ht, hy]
      cases manV N a <;> rfl
  cases hpm : manV N a
  · refine st_read hI (r := (1000000001 : Int64)) ?_ ?_
    · unfold p_X11_odds p_X11_odds_B33
      simp only [x_within, bndE, b2z, hn, if_true, ht, x_isPart, hy]
      rw [if_neg (by decide), x_has hL.1, bndE, b2z, hpm]
      rfl
    · unfold p_X12_odds
      simp only [m_isMan h.1 h8, bndE, b2z, hpm]
      rfl
  obtain ⟨p, hp, rfl⟩ := man_n2 h8 hpm
  have hpp := hpm
  obtain ⟨n, -, hn7, rfl⟩ := in_n2 (lo := 0) (hi := 7) (by decide) (by decide) hn
  obtain ⟨t, ht2, ht20, rfl⟩ := in_n2 (lo := 2) (hi := 20) (by decide) (by decide) ht
  have hy1 := part_is hy
  have hpow : 2 ^ n ≤ 128 := Nat.pow_le_pow_right (i := n) (j := 7) (by omega) hn7
  have hbl := bl_lt hn7 ht20
  have hod : ∀ st, odV N n t (mnd σ) p st ≤ 893871739 := fun st => odV_le hA.2.1 hA3 ht20 (by omega) hn7
  have hab : ∀ j, j ≤ 128 → fo (abF N n t (mnd σ) p) j 0 0 ≤ 893871739 * j := fun j hj => fo_inv (f := abF N n t (mnd σ) p) (N := j) (fun i v => v ≤ 893871739 * i) (fun i v _ hv => by
    have := hod i
    unfold abF
    omega) j 0 0 (by omega) (by omega)
  have hsh := n2_shl9 n (by omega)
  generalize hw : fo (abF N n t (mnd σ) p) (2 ^ n) 0 0 = w
  have hwlt : w < 9223372036854775808 := by
    have := hab (2 ^ n) hpow
    omega
  refine st_scr hI (r := frV w (blV n t) y) ?_ (fun u hX => ?_)
  · unfold p_X11_odds p_X11_odds_B33
    simp only [x_within, bndE, b2z, hn, if_true, ht, x_isPart, hy]
    rw [if_neg (by decide), x_has hL.1, bndE, b2z, hpp, if_pos rfl, x_below hn7 ht20]
    refine lpT (L := fun g st (v : Nat) τ => p_X11_odds_L86 (fun (x6 : Int64) (x8 : Int64) (m8 : Mem) => (bnd (p_X11_inLeastTerms x6 x8 y m8) fun v9 s10 => some (v9, s10))) (n2 p) (n2 n) (n2 t) y g (n6 v) (n6 (blV n t)) (n2 st) τ) (N := 2 ^ n) (fun st v τ => FrC 3 σ τ ∧ fo (abF N n t (mnd σ) p) (2 ^ n - st) st v = w) (fun g st v τ hst hI hK => ?_) (fun g v τ hI => ?_) (2 ^ n) 0 0 σ 1000 (by omega) (by omega) ⟨FrC.rf 3 σ, hw⟩
    · obtain ⟨hf, he⟩ := hI
      rw [fo_step hst] at he
      show Tm (p_X11_odds_B86 (p_X11_odds_L86 _ (n2 p) (n2 n) (n2 t) y g) _ (n2 p) (n2 n) (n2 t) y (n6 v) (n6 (blV n t)) (n2 st) τ) _
      unfold p_X11_odds_B86
      rw [hsh, ile_f ⟨by omega, by omega⟩]
      refine (x_chances hA hA3 hs hf hp hn7 ht2 ht20 (show st < 128 by omega)).bd (fun c u2 q => ?_)
      rw [q.1, n6_add, n2_succ]
      exact hK (abF N n t (mnd σ) p st v) u2 ⟨q.2, he⟩
    · obtain ⟨hf, he⟩ := hI
      show Tm (p_X11_odds_B86 (p_X11_odds_L86 _ (n2 p) (n2 n) (n2 t) y g) _ (n2 p) (n2 n) (n2 t) y (n6 v) (n6 (blV n t)) (n2 (2 ^ n)) τ) _
      unfold p_X11_odds_B86
      rw [hsh, ile_t ⟨by omega, by omega⟩]
      rw [fo_end] at he
      have he : v = w := he
      rw [he]
      show Tm (bnd (p_X11_inLeastTerms (n6 w) (n6 (blV n t)) y τ) _) _
      rw [x_frac hwlt hbl, bndE]
      exact Tm.ret ⟨rfl, hf.X⟩
  · have e0 : u 66 0 = n2 N := by rw [hX 66 (by decide)]; exact h.1
    unfold p_X12_odds
    simp only [m_isMan e0 h8, bndE, b2z, hpp, if_true, m_isIn, hn, ht, hy]
    rw [m_below hn7 ht20]
    refine Tm.eq (congrArg (fun m => p_X12_odds_L73 (fun (x5 : Int64) (x7 : Int64) (m31 : Mem) => (bnd (p_X12_partOf x5 x7 y m31) fun v32 s33 => some (v32, s33))) (n2 p) (n2 n) (n2 t) y 1000 0 (n6 (blV n t)) 0 m) (ms_self u 67).symm) ?_
    refine lpT (L := fun g st (v : Nat × (Nat → Int32)) τ => p_X12_odds_L73 (fun (x5 : Int64) (x7 : Int64) (m31 : Mem) => (bnd (p_X12_partOf x5 x7 y m31) fun v32 s33 => some (v32, s33))) (n2 p) (n2 n) (n2 t) y g (n6 v.1) (n6 (blV n t)) (n2 st) τ) (N := 2 ^ n) (fun st v τ => τ = ms u 67 v.2 ∧ (∀ k, 100 ≤ k → v.2 k = mnd σ k) ∧ fo (abF N n t (mnd σ) p) (2 ^ n - st) st v.1 = w) (fun g st v τ hst hI hK => ?_) (fun g v τ hI => ?_) (2 ^ n) 0 (0, u 67) _ 1000 (by omega) (by omega) ⟨rfl, fun k hk => by rw [hX 67 (by decide)]; exact (cpr_ge hk).symm, hw⟩
    · obtain ⟨v, B⟩ := v
      obtain ⟨rfl, hB, he⟩ := hI
      rw [fo_step hst] at he
      show Tm (p_X12_odds_B73 (p_X12_odds_L73 _ (n2 p) (n2 n) (n2 t) y g) _ (n2 p) (n2 n) (n2 t) y (n6 v) (n6 (blV n t)) (n2 st) (ms u 67 B)) _
      unfold p_X12_odds_B73 p_X12_odds_B168
      rw [hsh, ile_f ⟨by omega, by omega⟩, m_mind2 hX hB, bndE, m_weight hA.2.1 hA3 hs hn7 ht2 ht20 (show st < 128 by omega)]
      have hW := odW_ok (n := n) (still := st) hA.2.1 hA3 ht20 (show s + n < 2000 by omega)
      simp (disch := omega) only [m_of3, bndE, n2_nat, iin, ltE, ms_at, n2_succ]
      have hk := hK (abF N n t (mnd σ) p st v, (odW N n t (mnd σ) st).2) _ ⟨rfl, hW.2.2.1, he⟩
      unfold abF odV at hk
      rcases (hW.1.2.2.1 p hp).2.2.2 with hl | hl
      · rw [if_neg (show ¬ lo (odW N n t (mnd σ) st).2 p = 1 by rw [hl]; decide)] at hk
        rw [if_pos (show (odW N n t (mnd σ) st).2 (4 + 4 * p + 3) = 0 from hl), n6_add]
        exact hk
      · rw [if_pos hl.1] at hk
        rw [if_neg (show ¬ (odW N n t (mnd σ) st).2 (4 + 4 * p + 3) = 0 from fun e => by
          have h1 : lo (odW N n t (mnd σ) st).2 p = 0 := e
          rw [hl.1] at h1
          exact absurd h1 (by decide)), show n6 v + 0 = n6 (v + 0) from n6_add v 0]
        exact hk
    · obtain ⟨v, B⟩ := v
      obtain ⟨rfl, hB, he⟩ := hI
      show Tm (p_X12_odds_B73 (p_X12_odds_L73 _ (n2 p) (n2 n) (n2 t) y g) _ (n2 p) (n2 n) (n2 t) y (n6 v) (n6 (blV n t)) (n2 (2 ^ n)) (ms u 67 B)) _
      unfold p_X12_odds_B73
      rw [hsh, ile_t ⟨by omega, by omega⟩]
      rw [fo_end] at he
      have he : v = w := he
      rw [he]
      show Tm (bnd (p_X12_partOf (n6 w) (n6 (blV n t)) y (ms u 67 B)) _) _
      rw [m_frac hwlt hbl hy1, bndE]
      exact Tm.ret ⟨rfl, (FrM.rf u).r rfl⟩
