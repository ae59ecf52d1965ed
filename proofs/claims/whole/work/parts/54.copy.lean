/-! copy -/
theorem iin2 {α : Type} {p n : Nat} {A : Option α} (h : p < n ∧ n < 2147483648) : (if n2 p < 0 ∨ n ≤ (n2 p).toNatClampNeg then none else A) = A := by
  rw [n2_nat (by omega)]
  exact iin h
theorem bz_t {α β : Type} {b : Bool} {σ : Mem} {A : α → Mem → Option β} {o : Option (Int32 × Mem)} {B C : Mem → Option β} (ho : o = some (b2 b, σ)) (hb : b = true) : bnd o (fun v s => if v = 0 then B s else C s) = C σ := by
  rw [ho, hb]
  rfl
theorem m_places {m1 m2 : Nat} (h1 : m1 ≤ 100) (h2 : m2 ≤ 100) {i j n : Int32} (p1 : ¬ n < 0) (p2 : ¬ i < 0) (p3 : ¬ j < 0) (p4 : ¬ n2 m1 - i < n) (p5 : n ≤ n2 m2 - j) : ∃ a b c, a + c ≤ m1 ∧ b + c ≤ m2 ∧ i = n2 a ∧ j = n2 b ∧ n = n2 c := by
  rw [Int32.lt_iff_toInt_lt, show (0 : Int32).toInt = 0 from rfl] at p1 p2 p3
  rw [Int32.lt_iff_toInt_lt, sub_int h1 (by omega)] at p4
  rw [Int32.le_iff_toInt_le, sub_int h2 (by omega)] at p5
  refine ⟨i.toInt.toNat, j.toInt.toNat, n.toInt.toNat, by omega, by omega, ?_, ?_, ?_⟩
  · apply Int32.toInt_inj.mp
    rw [n2_int (by omega)]
    omega
  · apply Int32.toInt_inj.mp
    rw [n2_int (by omega)]
    omega
  · apply Int32.toInt_inj.mp
    rw [n2_int (by omega)]
    omega
theorem m_copyL {d e a b c : Nat} (hd : d < 8) (he : e < 8) (ha : a + c ≤ 100) (hb : b + c ≤ 100) (σ : Mem) : ∃ B, p_X12_copy_L122 (n2 d) (n2 a) (n2 e) (n2 b) (n2 c) 1000 0 σ = some (n2 c, ms σ 78 B) ∧ ∀ x, B x = if 100 * e + b ≤ x ∧ x < 100 * e + b + c then σ 78 (100 * d + a + (x - (100 * e + b))) else σ 78 x := by
  by_cases hab : a ≤ b
  · have k := lp (L := fun g p A => p_X12_copy_L122 (n2 d) (n2 a) (n2 e) (n2 b) (n2 c) g (n2 p) (ms σ 78 A)) (f := fun k B => upd B (100 * e + b + (c - 1 - k)) (B (100 * d + a + (c - 1 - k)))) (fin := fun B => some (n2 c, ms σ 78 B)) (N := c) (fun _ _ => True) (fun _ _ _ _ => trivial) (fun g p A hp _ => ?_) (fun g A _ => ?_) c 0 (σ 78) 1000 (by omega) (by omega) trivial
    · rw [ms_self] at k
      have hI := fo_inv (f := fun k B => upd B (100 * e + b + (c - 1 - k)) (B (100 * d + a + (c - 1 - k)))) (N := c) (fun k B => ∀ x, B x = if 100 * e + b + (c - k) ≤ x ∧ x < 100 * e + b + c then σ 78 (100 * d + a + (x - (100 * e + b))) else σ 78 x) (fun k B hk hI x => by
        by_cases h1 : x = 100 * e + b + (c - 1 - k)
        · rw [h1, upd_at, if_pos (by omega), hI, if_neg (by omega)]
          congr 1
          omega
        · rw [upd_ne h1, hI]
          by_cases h2 : 100 * e + b + (c - k) ≤ x ∧ x < 100 * e + b + c
          · rw [if_pos h2, if_pos (by omega)]
          · rw [if_neg h2, if_neg (by omega)]) c 0 (σ 78) (by omega) (fun x => by rw [if_neg (by omega)])
      refine ⟨_, k, fun x => ?_⟩
      rw [hI x]
      by_cases h : 100 * e + b + (c - c) ≤ x ∧ x < 100 * e + b + c
      · rw [if_pos h, if_pos (by omega)]
      · rw [if_neg h, if_neg (by omega)]
    · show p_X12_copy_B122 (p_X12_copy_L122 (n2 d) (n2 a) (n2 e) (n2 b) (n2 c) g) (n2 d) (n2 a) (n2 e) (n2 b) (n2 c) (n2 p) (ms σ 78 A) = _
      have e1 : (n2 c - 1) - n2 p = n2 (c - 1 - p) := by
        rw [show n2 c - 1 = n2 (c - 1) from n2_sub (b := 1) (by omega) (by omega), n2_sub (by omega) (by omega)]
      unfold p_X12_copy_B122 p_X12_copy_B147
      rw [ile_f ⟨by omega, by omega⟩, ile_t ⟨hab, by omega⟩, e1, el_n2, el_n2, n2_add, n2_add]
      simp (disch := omega) only [n2_nat, iin, ltE, wrE, ms_at, ms_mu, n2_succ]
    · show p_X12_copy_B122 (p_X12_copy_L122 (n2 d) (n2 a) (n2 e) (n2 b) (n2 c) g) (n2 d) (n2 a) (n2 e) (n2 b) (n2 c) (n2 c) (ms σ 78 A) = _
      unfold p_X12_copy_B122
      rw [ile_t ⟨by omega, by omega⟩]
  · have k := lp (L := fun g p A => p_X12_copy_L122 (n2 d) (n2 a) (n2 e) (n2 b) (n2 c) g (n2 p) (ms σ 78 A)) (f := fun k B => upd B (100 * e + b + k) (B (100 * d + a + k))) (fin := fun B => some (n2 c, ms σ 78 B)) (N := c) (fun _ _ => True) (fun _ _ _ _ => trivial) (fun g p A hp _ => ?_) (fun g A _ => ?_) c 0 (σ 78) 1000 (by omega) (by omega) trivial
    · rw [ms_self] at k
      have hI := fo_inv (f := fun k B => upd B (100 * e + b + k) (B (100 * d + a + k))) (N := c) (fun k B => ∀ x, B x = if 100 * e + b ≤ x ∧ x < 100 * e + b + k then σ 78 (100 * d + a + (x - (100 * e + b))) else σ 78 x) (fun k B hk hI x => by
        by_cases h1 : x = 100 * e + b + k
        · rw [h1, upd_at, if_pos (by omega), hI, if_neg (by omega)]
          congr 1
          omega
        · rw [upd_ne h1, hI]
          by_cases h2 : 100 * e + b ≤ x ∧ x < 100 * e + b + k
          · rw [if_pos h2, if_pos (by omega)]
          · rw [if_neg h2, if_neg (by omega)]) c 0 (σ 78) (by omega) (fun x => by rw [if_neg (by omega)])
      exact ⟨_, k, hI⟩
    · show p_X12_copy_B122 (p_X12_copy_L122 (n2 d) (n2 a) (n2 e) (n2 b) (n2 c) g) (n2 d) (n2 a) (n2 e) (n2 b) (n2 c) (n2 p) (ms σ 78 A) = _
      unfold p_X12_copy_B122 p_X12_copy_B147
      rw [ile_f ⟨by omega, by omega⟩, ile_f ⟨by omega, by omega⟩, el_n2, el_n2, n2_add, n2_add]
      simp (disch := omega) only [n2_nat, iin, ltE, wrE, ms_at, ms_mu, n2_succ]
    · show p_X12_copy_B122 (p_X12_copy_L122 (n2 d) (n2 a) (n2 e) (n2 b) (n2 c) g) (n2 d) (n2 a) (n2 e) (n2 b) (n2 c) (n2 c) (ms σ 78 A) = _
      unfold p_X12_copy_B122
      rw [ile_t ⟨by omega, by omega⟩]
theorem inv_copy {σ : Mem} {d e a b c w m1 m2 : Nat} {B : Nat → Int32} (hI : Inv σ) (hd : d < 8) (he : e < 8) (h1 : m1 ≤ 100) (h2 : m2 ≤ 100) (ha : a + c ≤ m1) (hb : b + c ≤ m2) (d2 : σ (6 + d) 1 = 2) (d4 : σ (6 + d) 4 = n2 w) (e4 : σ (6 + e) 4 = n2 w) (hw : w < 3) (hB : ∀ x, B x = if 100 * e + b ≤ x ∧ x < 100 * e + b + c then σ 78 (100 * d + a + (x - (100 * e + b))) else σ 78 x) : Inv (ms (mcp σ (14 + d) (14 + e) a b c) 78 B) := by
  have hS := hI.2.2
  have hoff : ∀ o, o ≠ 14 + e → o ≠ 78 → ms (mcp σ (14 + d) (14 + e) a b c) 78 B o = σ o := fun o o1 o2 => by rw [ms_ne o2, mcp_off o1]
  refine inv_shelf hI ?_ ?_ (fun o ho => ?_) (fun f hf => ?_)
  · rw [hoff 0 (by omega) (by omega)]
  · rw [hoff 65 (by omega) (by omega)]
  · exact hoff o (by omega) (by omega)
  · by_cases hfe : f = e
    · subst hfe
      have h := hS f hf
      have k14 : ∀ j, ms (mcp σ (14 + d) (14 + f) a b c) 78 B (14 + f) j = if b ≤ j ∧ j < b + c then σ (14 + d) (a + (j - b)) else σ (14 + f) j := fun j => by
        rw [ms_ne (by omega), mcp_row]
        rfl
      unfold ShR at h ⊢
      rw [hoff (6 + f) (by omega) (by omega), hoff 73 (by omega) (by omega), hoff 74 (by omega) (by omega), hoff 75 (by omega) (by omega), hoff 76 (by omega) (by omega), hoff 77 (by omega) (by omega), ms_at]
      refine ⟨h.1, ?_⟩
      have hd' := hS d hd
      unfold ShR at hd'
      rcases hd'.2 with g0 | g0 | ⟨g0, w1, n1, g1, g2, g3, g4, g5, g6, g7, g8, g9⟩
      · rw [d2] at g0
        exact absurd g0 (by decide)
      · rw [d2] at g0
        exact absurd g0.1 (by decide)
      · have ew1 : w1 = w := (n2_inj (by omega) (by omega)).mp (g3.symm.trans d4)
        subst ew1
        rcases h.2 with h | h | ⟨q0, w2, n2', q1, q2, q3, q4, q5, q6, q7, q8, q9⟩
        · exact Or.inl h
        · exact Or.inr (Or.inl h)
        · have ew2 : w2 = w1 := (n2_inj (by omega) (by omega)).mp (q3.symm.trans e4)
          subst ew2
          refine Or.inr (Or.inr ⟨q0, w2, n2', q1, q2, q3, q4, q5, q6, fun j hj => ?_, fun hz j hj => ?_, fun hz j hj => ?_⟩)
          · rw [k14, hB]
            by_cases hj1 : b ≤ j ∧ j < b + c
            · rw [if_pos hj1, if_pos (by omega), g7 _ (by omega)]
              congr 1
              omega
            · rw [if_neg hj1, if_neg (by omega), q7 j hj]
          · rw [k14]
            split
            · exact g8 hz _ (by omega)
            · exact q8 hz j hj
          · rw [k14]
            split
            · exact g9 hz _ (by omega)
            · exact q9 hz j hj
    · refine (hS f hf).frame (hoff _ (by omega) (by omega)) (hoff _ (by omega) (by omega)) ?_ ?_ ?_ ?_ ?_ (fun j hj => ?_)
      · rw [hoff 73 (by omega) (by omega)]
      · rw [hoff 74 (by omega) (by omega)]
      · rw [hoff 75 (by omega) (by omega)]
      · rw [hoff 76 (by omega) (by omega)]
      · rw [hoff 77 (by omega) (by omega)]
      · rw [ms_at, hB, if_neg (by omega)]
theorem st_copy : St5 Inv p_X11_copy p_X12_copy := by
  intro x1 x2 x3 x4 x5 σ hI
  have hS := hI.2.2
  rcases sh_cases x1 with h | ⟨d, hd, rfl, h⟩
  · refine st_read hI (r := (-1 : Int32)) ?_ ?_
    · unfold p_X11_copy
      simp only [x_isShelf, bndE, b2z, h]
      rfl
    · unfold p_X12_copy
      simp only [m_isShelf, bndE, b2z, h]
      rfl
  rcases sh_cases x3 with h' | ⟨e, he, rfl, h'⟩
  · refine st_read hI (r := (-1 : Int32)) ?_ ?_
    · unfold p_X11_copy
      simp only [x_isShelf, bndE, b2z, h, if_true, h']
      rfl
    · unfold p_X12_copy
      simp only [m_isShelf, bndE, b2z, h, if_true, h']
      rfl
  have kd' := (hS d hd).1
  have ke' := (hS e he).1
  by_cases z1 : σ (6 + d) 1 = 0
  · refine st_read hI (r := (-11 : Int32)) ?_ ?_
    · unfold p_X11_copy
      rw [x_isShelf, bndE, b2z, h, if_pos rfl, x_isShelf, bndE, b2z, h', if_pos rfl]
      simp (disch := omega) only [↓iin2, ↓ltE, ↓n2_nat, if_true, ↓if_pos z1, bndE, b2z]
    · unfold p_X12_copy
      rw [m_isShelf, bndE, b2z, h, if_pos rfl, m_isShelf, bndE, b2z, h', if_pos rfl]
      simp (disch := omega) only [↓iin2, ↓ltE, ↓n2_nat, if_true, kd', ↓if_pos z1, bndE, b2z]
  by_cases z2 : σ (6 + e) 1 = 0
  · refine st_read hI (r := (-11 : Int32)) ?_ ?_
    · unfold p_X11_copy
      rw [x_isShelf, bndE, b2z, h, if_pos rfl, x_isShelf, bndE, b2z, h', if_pos rfl]
      simp (disch := omega) only [↓iin2, ↓ltE, ↓n2_nat, if_true, ↓if_neg z1, ↓if_pos z2, bndE, b2z]
    · unfold p_X12_copy
      rw [m_isShelf, bndE, b2z, h, if_pos rfl, m_isShelf, bndE, b2z, h', if_pos rfl]
      simp (disch := omega) only [↓iin2, ↓ltE, ↓n2_nat, if_true, kd', ke', ↓if_neg z1, ↓if_pos z2, bndE, b2z]
  by_cases z3 : σ (6 + d) 1 = 2
  case neg =>
    refine st_read hI (r := (-12 : Int32)) ?_ ?_
    · unfold p_X11_copy
      rw [x_isShelf, bndE, b2z, h, if_pos rfl, x_isShelf, bndE, b2z, h', if_pos rfl]
      simp (disch := omega) only [↓iin2, ↓ltE, ↓n2_nat, if_true, ↓if_neg z1, ↓if_neg z2, ↓if_neg z3, bndE, b2z]
    · unfold p_X12_copy
      rw [m_isShelf, bndE, b2z, h, if_pos rfl, m_isShelf, bndE, b2z, h', if_pos rfl]
      simp (disch := omega) only [↓iin2, ↓ltE, ↓n2_nat, if_true, kd', ke', ↓if_neg z1, ↓if_neg z2, ↓if_neg z3, bndE, b2z]
  by_cases z4 : σ (6 + e) 1 = 2
  case neg =>
    refine st_read hI (r := (-12 : Int32)) ?_ ?_
    · unfold p_X11_copy
      rw [x_isShelf, bndE, b2z, h, if_pos rfl, x_isShelf, bndE, b2z, h', if_pos rfl]
      simp (disch := omega) only [↓iin2, ↓ltE, ↓n2_nat, if_true, ↓if_neg z1, ↓if_neg z2, ↓if_pos z3, ↓if_neg z4, bndE, b2z]
    · unfold p_X12_copy
      rw [m_isShelf, bndE, b2z, h, if_pos rfl, m_isShelf, bndE, b2z, h', if_pos rfl]
      simp (disch := omega) only [↓iin2, ↓ltE, ↓n2_nat, if_true, kd', ke', ↓if_neg z1, ↓if_neg z2, ↓if_pos z3, ↓if_neg z4, bndE, b2z]
  have hrow : ∀ f, f < 8 → σ (6 + f) 1 = 2 → ∃ w n, w < 3 ∧ n ≤ 100 ∧ σ (6 + f) 4 = n2 w ∧ σ 76 f = n2 w ∧ σ (6 + f) 5 = n2 n ∧ σ 77 f = n2 n := fun f hf z => by
    rcases (hS f hf).2 with g0 | g0 | ⟨g0, w1, n1, g1, g2, g3, g4, g5, g6, -⟩
    · rw [z] at g0
      exact absurd g0 (by decide)
    · rw [z] at g0
      exact absurd g0.1 (by decide)
    · exact ⟨w1, n1, g1, g2, g3, g4, g5, g6⟩
  obtain ⟨w1, m1, hw1, hm1, a4, a76, a5, a77⟩ := hrow d hd z3
  obtain ⟨w2, m2, hw2, hm2, b4, b76, b5, b77⟩ := hrow e he z4
  by_cases z5 : w1 = w2
  case neg =>
    refine st_read hI (r := (-12 : Int32)) ?_ ?_
    · unfold p_X11_copy
      rw [x_isShelf, bndE, b2z, h, if_pos rfl, x_isShelf, bndE, b2z, h', if_pos rfl]
      simp (disch := omega) only [↓iin2, ↓ltE, ↓n2_nat, if_true, ↓if_neg z1, ↓if_neg z2, ↓if_pos z3, ↓if_pos z4, a4, b4, ieq, ↓if_neg z5, bndE, b2z]
    · unfold p_X12_copy
      rw [m_isShelf, bndE, b2z, h, if_pos rfl, m_isShelf, bndE, b2z, h', if_pos rfl]
      simp (disch := omega) only [↓iin2, ↓ltE, ↓n2_nat, if_true, kd', ke', ↓if_neg z1, ↓if_neg z2, ↓if_pos z3, ↓if_pos z4, a76, b76, ieq, ↓if_neg z5, bndE, b2z]
  subst z5
  have hpx := x_places a5 hm1 x2 x5
  have hpy := x_places b5 hm2 x4 x5
  have hiff := places_iff hm1 hm2 x2 x4 x5
  generalize (!decide (x5 < 0) && (!decide (n2 m1 < x5) && (!decide (x2 < 0) && !decide (n2 m1 - x5 < x2)))) = P1 at hpx hiff
  generalize (!decide (x5 < 0) && (!decide (n2 m2 < x5) && (!decide (x4 < 0) && !decide (n2 m2 - x5 < x4)))) = P2 at hpy hiff
  have e86 : 8 + (6 + d) = 14 + d := by omega
  have e86' : 8 + (6 + e) = 14 + e := by omega
  by_cases hP : (P1 && P2) = true
  · obtain ⟨a, b, c, g1, g2, rfl, rfl, rfl⟩ := hiff.mp hP
    rw [Bool.and_eq_true] at hP
    obtain ⟨B, hB, hB2⟩ := m_copyL hd he (show a + c ≤ 100 by omega) (show b + c ≤ 100 by omega) (mcp σ (14 + d) (14 + e) a b c)
    have q78 : mcp σ (14 + d) (14 + e) a b c 78 = σ 78 := mcp_off (by omega)
    have q73 : mcp σ (14 + d) (14 + e) a b c 73 = σ 73 := mcp_off (by omega)
    have q76 : mcp σ (14 + d) (14 + e) a b c 76 = σ 76 := mcp_off (by omega)
    have q77 : mcp σ (14 + d) (14 + e) a b c 77 = σ 77 := mcp_off (by omega)
    rw [q78] at hB2
    refine ⟨n2 c, mcp σ (14 + d) (14 + e) a b c, ms (mcp σ (14 + d) (14 + e) a b c) 78 B, ?_, ?_, inv_copy hI hd he hm1 hm2 g1 g2 z3 a4 b4 hw1 hB2⟩
    · have hin : ¬ (n2 a < 0 ∨ n2 b < 0 ∨ n2 c < 0 ∨ 100 < a + c ∨ 100 < b + c) := by
        have z : ∀ k, k < 200 → ¬ (n2 k < 0) := fun k hk e => by have := (n2_lt (a := k) (b := 0) (by omega) (by omega)).mp e; omega
        rintro (g | g | g | g | g)
        · exact z _ (by omega) g
        · exact z _ (by omega) g
        · exact z _ (by omega) g
        · omega
        · omega
      unfold p_X11_copy
      rw [x_isShelf, bndE, b2z, h, if_pos rfl, x_isShelf, bndE, b2z, h', if_pos rfl]
      simp (disch := omega) only [↓iin2, ↓ltE, ↓n2_nat, if_true, ↓if_neg z1, ↓if_neg z2, ↓if_pos z3, ↓if_pos z4, a4, b4, hpx, hpy, hP.1, hP.2, if_neg hin, e86, e86', bndE, b2z]
    · unfold p_X12_copy
      rw [m_isShelf, bndE, b2z, h, if_pos rfl, m_isShelf, bndE, b2z, h', if_pos rfl]
      simp (disch := omega) only [↓iin2, ↓ltE, ↓n2_nat, if_true, q73, q76, q77, kd', ke', ↓if_neg z1, ↓if_neg z2, ↓if_pos z3, ↓if_pos z4, a76, b76, a77, b77, ilt0, n2_sub, iltq, ileq, bndE, b2z]
      rw [if_neg (by omega), if_pos (by omega)]
      exact hB
  · refine st_read hI (r := (-13 : Int32)) ?_ ?_
    · unfold p_X11_copy
      rw [x_isShelf, bndE, b2z, h, if_pos rfl, x_isShelf, bndE, b2z, h', if_pos rfl]
      simp (disch := omega) only [↓iin2, ↓ltE, ↓n2_nat, if_true, ↓if_neg z1, ↓if_neg z2, ↓if_pos z3, ↓if_pos z4, a4, b4, hpx, hpy, bndE, b2z]
      cases P1
      · rfl
      · cases P2
        · rfl
        · exact absurd rfl hP
    · unfold p_X12_copy
      rw [m_isShelf, bndE, b2z, h, if_pos rfl, m_isShelf, bndE, b2z, h', if_pos rfl]
      simp (disch := omega) only [↓iin2, ↓ltE, ↓n2_nat, if_true, kd', ke', ↓if_neg z1, ↓if_neg z2, ↓if_pos z3, ↓if_pos z4, a76, b76, a77, b77, bndE, b2z]
      by_cases p1 : x5 < 0
      · rw [if_pos p1]
      rw [if_neg p1]
      by_cases p2 : x2 < 0
      · rw [if_pos p2]
      rw [if_neg p2]
      by_cases p3 : x4 < 0
      · rw [if_pos p3]
      rw [if_neg p3]
      by_cases p4 : n2 m1 - x2 < x5
      · rw [if_pos p4]
      rw [if_neg p4]
      by_cases p5 : x5 ≤ n2 m2 - x4
      · exact absurd (hiff.mpr (m_places hm1 hm2 p1 p2 p3 p4 p5)) hP
      · rw [if_neg p5]
