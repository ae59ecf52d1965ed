/-! a row is filled -/
def filR (A : Nat → Int32) (v : Int32) (n : Nat) : Nat → Int32 := fun k => if k < n then v else A k
theorem fo_fil (v : Int32) : ∀ t p (A : Nat → Int32), fo (fun k A => upd A k v) t p A = fun k => if p ≤ k ∧ k < p + t then v else A k := by
  intro t
  induction t with
  | zero =>
    intro p A
    funext k
    rw [if_neg (by omega)]
    rfl
  | succ t ih =>
    intro p A
    rw [fo_succ, ih]
    funext k
    by_cases h : p + 1 ≤ k ∧ k < p + 1 + t
    · rw [if_pos h, if_pos (by omega)]
    · rw [if_neg h]
      by_cases e : k = p
      · rw [e, upd_at, if_pos (by omega)]
      · rw [upd_ne e, if_neg (by omega)]
theorem x_fill {o n : Nat} (v : Int32) (σ : Mem) (ho : alen o = n) (hn : n < 1000) : p_J7_fill_53178 o v σ = some ((), ms σ o (filR (σ o) v n)) := by
  have k := lp (L := fun g p A => p_J7_fill_53178_L5 o v g (n2 p) (n2 n) (ms σ o A)) (f := fun k A => upd A k v) (fin := fun A => some ((), ms σ o A)) (N := n) (fun _ _ => True) (fun _ _ _ _ => trivial) (fun g p A hp _ => ?_) (fun g A _ => ?_) n 0 (σ o) 1000 (by omega) (by omega) trivial
  · rw [ms_self, fo_fil] at k
    unfold p_J7_fill_53178
    rw [ho]
    refine Eq.trans k ?_
    have e : (fun k => if 0 ≤ k ∧ k < 0 + n then v else σ o k) = filR (σ o) v n := by
      funext k
      unfold filR
      by_cases h : k < n
      · rw [if_pos h, if_pos (by omega)]
      · rw [if_neg h, if_neg (by omega)]
    rw [e]
  · show p_J7_fill_53178_B5 (p_J7_fill_53178_L5 o v g) o v (n2 p) (n2 n) (ms σ o A) = _
    unfold p_J7_fill_53178_B5
    rw [ho, ile_f ⟨by omega, by omega⟩]
    simp (disch := omega) only [n2_nat, iin, wrE, ms_mu, n2_succ]
  · show p_J7_fill_53178_B5 (p_J7_fill_53178_L5 o v g) o v (n2 n) (n2 n) (ms σ o A) = _
    unfold p_J7_fill_53178_B5
    rw [ile_t ⟨by omega, by omega⟩]
theorem zero_low (w : Nat) : (w = 0 → -128 ≤ (0 : Int32).toInt ∧ (0 : Int32).toInt ≤ 127) ∧ (w = 1 → -32768 ≤ (0 : Int32).toInt ∧ (0 : Int32).toInt ≤ 32767) := ⟨fun _ => by decide, fun _ => by decide⟩
theorem n2_of_nn {x : Int32} {m : Nat} (h0 : 0 ≤ x) (h1 : x ≤ n2 m) (hm : m < 2147483648) : ∃ n, n ≤ m ∧ x = n2 n := by
  rw [Int32.le_iff_toInt_le, show (0 : Int32).toInt = 0 from rfl] at h0
  rw [Int32.le_iff_toInt_le, n2_int hm] at h1
  refine ⟨x.toInt.toNat, by omega, ?_⟩
  apply Int32.toInt_inj.mp
  rw [n2_int (by omega)]
  omega
theorem m_rowL {d : Nat} (hd : d < 8) (x2 x3 : Int32) (σ : Mem) : ∃ A, p_X12_row_L55 (n2 d) x2 x3 1000 0 σ = some (0, ms σ 78 A) ∧ (∀ k, k < 100 → A (100 * d + k) = 0) ∧ ∀ k, k < 100 * d ∨ 100 * d + 100 ≤ k → A k = σ 78 k := by
  have k := lp (L := fun g p A => p_X12_row_L55 (n2 d) x2 x3 g (n2 p) (ms σ 78 A)) (f := fun k A => upd A (100 * d + k) 0) (fin := fun A => some ((0 : Int32), ms σ 78 A)) (N := 100) (fun _ _ => True) (fun _ _ _ _ => trivial) (fun g p A hp _ => ?_) (fun g A _ => ?_) 100 0 (σ 78) 1000 (by omega) (by omega) trivial
  · rw [ms_self] at k
    have hI := fo_inv (f := fun k A => upd A (100 * d + k) (0 : Int32)) (N := 100) (fun p A => (∀ k, k < p → A (100 * d + k) = 0) ∧ ∀ k, k < 100 * d ∨ 100 * d + 100 ≤ k → A k = σ 78 k) (fun p A hp hI => ⟨fun k hk => by
      by_cases e : k = p
      · rw [e]
        exact upd_at _ _ _
      · rw [upd_ne (by omega)]
        exact hI.1 k (by omega), fun k hk => by
        rw [upd_ne (by omega)]
        exact hI.2 k hk⟩) 100 0 (σ 78) (by omega) ⟨fun k hk => by omega, fun _ _ => rfl⟩
    exact ⟨_, k, hI.1, hI.2⟩
  · show p_X12_row_B55 (p_X12_row_L55 (n2 d) x2 x3 g) (n2 d) x2 x3 (n2 p) (ms σ 78 A) = _
    unfold p_X12_row_B55
    rw [show (if (100 : Int32) ≤ n2 p then _ else _) = _ from ile_f (a := 100) (b := p) ⟨by omega, by omega⟩]
    simp (disch := omega) only [el_n2, n2_nat, iin, wrE, ms_mu, n2_succ]
  · show p_X12_row_B55 (p_X12_row_L55 (n2 d) x2 x3 g) (n2 d) x2 x3 (n2 100) (ms σ 78 A) = _
    unfold p_X12_row_B55
    rw [show (if (100 : Int32) ≤ n2 100 then _ else _) = _ from ile_t (a := 100) (b := 100) ⟨by omega, by omega⟩]
theorem st_row : St3 Inv p_X11_row p_X12_row := by
  intro a y x σ hI
  have hS := hI.2.2
  rcases sh_cases a with h | ⟨d, hd, rfl, h⟩
  · refine st_read hI (r := (-1 : Int32)) ?_ ?_
    · unfold p_X11_row
      simp only [x_isShelf, bndE, b2z, h]
      rfl
    · unfold p_X12_row
      simp only [m_isShelf, bndE, b2z, h]
      rfl
  cases hy : inV y 0 2
  · refine st_read hI (r := (-1 : Int32)) ?_ ?_
    · unfold p_X11_row
      simp only [x_isShelf, bndE, b2z, h, if_true, x_within, hy]
      rfl
    · unfold p_X12_row
      simp only [m_isShelf, bndE, b2z, h, if_true, m_isIn, hy]
      rfl
  obtain ⟨w, -, hw, rfl⟩ := in_n2 (lo := 0) (hi := 2) (by decide) (by decide) hy
  by_cases h1 : x ≤ 100
  · by_cases h0 : 0 ≤ x
    · obtain ⟨n, hn, rfl⟩ := n2_of_nn h0 (m := 100) h1 (by decide)
      have ha : alen (14 + d) = 100 := by
        unfold alen
        rw [if_pos (by omega)]
      obtain ⟨A, hA, hA0, hA1⟩ := m_rowL hd (n2 w) (n2 n) (mu (mu (mu (ms (mu (mu (mu σ (6 + d) 1 2) (6 + d) 4 (n2 w)) (6 + d) 5 (n2 n)) (14 + d) (filR (σ (14 + d)) 0 100)) 73 d 2) 76 d (n2 w)) 77 d (n2 n))
      generalize hF : ms (mu (mu (mu (ms (mu (mu (mu σ (6 + d) 1 2) (6 + d) 4 (n2 w)) (6 + d) 5 (n2 n)) (14 + d) (filR (σ (14 + d)) 0 100)) 73 d 2) 76 d (n2 w)) 77 d (n2 n)) 78 A = F at hA
      have hoff : ∀ o, o ≠ 6 + d → o ≠ 14 + d → o ≠ 73 → o ≠ 76 → o ≠ 77 → o ≠ 78 → F o = σ o := fun o o1 o2 o3 o4 o5 o6 => by
        rw [← hF, ms_ne o6, mu_off o5, mu_off o4, mu_off o3, ms_ne o2, mu_off o1, mu_off o1, mu_off o1]
      have h78 : mu (mu (mu (ms (mu (mu (mu σ (6 + d) 1 2) (6 + d) 4 (n2 w)) (6 + d) 5 (n2 n)) (14 + d) (filR (σ (14 + d)) 0 100)) 73 d 2) 76 d (n2 w)) 77 d (n2 n) 78 = σ 78 := by
        rw [mu_off (by omega), mu_off (by omega), mu_off (by omega), ms_ne (by omega), mu_off (by omega), mu_off (by omega), mu_off (by omega)]
      rw [h78] at hA1
      refine ⟨0, ms (mu (mu (mu σ (6 + d) 1 2) (6 + d) 4 (n2 w)) (6 + d) 5 (n2 n)) (14 + d) (filR (σ (14 + d)) 0 100), F, ?_, ?_, inv_shelf hI ?_ ?_ (fun o ho => ?_) (fun d2 hd2 => ?_)⟩
      · unfold p_X11_row p_X8_getsRow
        simp (disch := omega) only [x_isShelf, bndE, b2z, h, if_true, x_within, hy, if_pos h1, if_pos h0, n2_nat, iin, wrE]
        rw [show 8 + (6 + d) = 14 + d by omega, x_fill 0 _ ha (by omega), bndE, bndE, mu_off (by omega), mu_off (by omega), mu_off (by omega)]
      · unfold p_X12_row
        simp (disch := omega) only [m_isShelf, bndE, b2z, h, if_true, m_isIn, hy, if_pos h1, if_pos h0, n2_nat, iin, wrE]
        exact hA
      · rw [hoff 0 (by omega) (by omega) (by omega) (by omega) (by omega) (by omega)]
      · rw [hoff 65 (by omega) (by omega) (by omega) (by omega) (by omega) (by omega)]
      · exact hoff o (by omega) (by omega) (by omega) (by omega) (by omega) (by omega)
      · have k78 : F 78 = A := by rw [← hF, ms_at]
        by_cases e : d2 = d
        · subst e
          have k6 : F (6 + d2) = upd (upd (upd (σ (6 + d2)) 1 2) 4 (n2 w)) 5 (n2 n) := by
            rw [← hF, ms_ne (by omega), mu_off (by omega), mu_off (by omega), mu_off (by omega), ms_ne (by omega), mu_row, mu_row, mu_row]
          have k14 : F (14 + d2) = filR (σ (14 + d2)) 0 100 := by
            rw [← hF, ms_ne (by omega), mu_off (by omega), mu_off (by omega), mu_off (by omega), ms_at]
          have k73 : F 73 d2 = 2 := by rw [← hF, ms_ne (by omega), mu_off (by omega), mu_off (by omega), mu_at]
          have k76 : F 76 d2 = n2 w := by rw [← hF, ms_ne (by omega), mu_off (by omega), mu_at]
          have k77 : F 77 d2 = n2 n := by rw [← hF, ms_ne (by omega), mu_at]
          have c14 : ∀ j, j < 100 → F (14 + d2) j = 0 := fun j hj => by
            rw [k14]
            exact if_pos hj
          refine ⟨?_, Or.inr (Or.inr ⟨?_, w, n, by omega, hn, ?_, k76, ?_, k77, fun j hj => ?_, fun hz j hj => ?_, fun hz j hj => ?_⟩)⟩
          · rw [k73, k6, upd_ne (by decide), upd_ne (by decide), upd_at]
          · rw [k6, upd_ne (by decide), upd_ne (by decide), upd_at]
          · rw [k6, upd_ne (by decide), upd_at]
          · rw [k6, upd_at]
          · rw [c14 j hj, k78, hA0 j hj]
          · rw [c14 j hj]
            exact (zero_low w).1 hz
          · rw [c14 j hj]
            exact (zero_low w).2 hz
        · refine (hS d2 hd2).frame (hoff _ (by omega) (by omega) (by omega) (by omega) (by omega) (by omega)) (hoff _ (by omega) (by omega) (by omega) (by omega) (by omega) (by omega)) ?_ ?_ ?_ ?_ ?_ (fun j hj => ?_)
          · rw [← hF, ms_ne (by omega), mu_off (by omega), mu_off (by omega), mu_ne (by omega), ms_ne (by omega), mu_off (by omega), mu_off (by omega), mu_off (by omega)]
          · rw [hoff 74 (by omega) (by omega) (by omega) (by omega) (by omega) (by omega)]
          · rw [hoff 75 (by omega) (by omega) (by omega) (by omega) (by omega) (by omega)]
          · rw [← hF, ms_ne (by omega), mu_off (by omega), mu_ne (by omega), mu_off (by omega), ms_ne (by omega), mu_off (by omega), mu_off (by omega), mu_off (by omega)]
          · rw [← hF, ms_ne (by omega), mu_ne (by omega), mu_off (by omega), mu_off (by omega), ms_ne (by omega), mu_off (by omega), mu_off (by omega), mu_off (by omega)]
          · rw [k78, hA1 _ (by omega)]
    · refine st_read hI (r := (-14 : Int32)) ?_ ?_
      · unfold p_X11_row
        simp only [x_isShelf, bndE, b2z, h, if_true, x_within, hy, if_pos h1, if_neg h0]
      · unfold p_X12_row
        simp only [m_isShelf, bndE, b2z, h, if_true, m_isIn, hy, if_pos h1, if_neg h0]
  · refine st_read hI (r := (-1 : Int32)) ?_ ?_
    · unfold p_X11_row
      simp only [x_isShelf, bndE, b2z, h, if_true, x_within, hy, if_neg h1]
    · unfold p_X12_row
      simp only [m_isShelf, bndE, b2z, h, if_true, m_isIn, hy, if_neg h1]
/-! elements of a row come to another one -/
theorem x_places {o m : Nat} {σ : Mem} (h5 : σ o 5 = n2 m) (hm : m ≤ 100) (i n : Int32) : p_X8_hasPlaces o i n σ = some (b2 (!decide (n < 0) && (!decide (n2 m < n) && (!decide (i < 0) && !decide (n2 m - n < i)))), σ) := by
  unfold p_X8_hasPlaces
  simp only [ltE, h5]
  by_cases h1 : n < 0
  · rw [if_pos h1, decide_eq_true h1]
    rfl
  rw [if_neg h1, decide_eq_false h1]
  by_cases h2 : n2 m < n
  · rw [if_pos h2, decide_eq_true h2]
    rfl
  rw [if_neg h2, decide_eq_false h2]
  by_cases h3 : i < 0
  · rw [if_pos h3, decide_eq_true h3]
    rfl
  rw [if_neg h3, decide_eq_false h3]
  by_cases h4 : n2 m - n < i
  · rw [if_pos h4, decide_eq_true h4]
    rfl
  · rw [if_neg h4, decide_eq_false h4]
    rfl
theorem sub_int {m : Nat} (hm : m ≤ 100) {x : Int32} (h0 : 0 ≤ x.toInt) : (n2 m - x).toInt = (m : Int) - x.toInt := by
  have hx := Int32.toInt_lt x
  rw [Int32.toInt_sub, n2_int (by omega)]
  unfold Int.bmod
  simp only
  split <;> omega
/-- what both sides ask of the places -/
theorem places_iff {m1 m2 : Nat} (h1 : m1 ≤ 100) (h2 : m2 ≤ 100) (i j n : Int32) : ((!decide (n < 0) && (!decide (n2 m1 < n) && (!decide (i < 0) && !decide (n2 m1 - n < i)))) && (!decide (n < 0) && (!decide (n2 m2 < n) && (!decide (j < 0) && !decide (n2 m2 - n < j))))) = true ↔ ∃ a b c, a + c ≤ m1 ∧ b + c ≤ m2 ∧ i = n2 a ∧ j = n2 b ∧ n = n2 c := by
  simp only [Bool.and_eq_true, Bool.not_eq_true', decide_eq_false_iff_not]
  constructor
  · rintro ⟨⟨p1, p2, p3, p4⟩, -, q2, q3, q4⟩
    rw [Int32.lt_iff_toInt_lt, show (0 : Int32).toInt = 0 from rfl] at p1 p3 q3
    rw [Int32.lt_iff_toInt_lt, n2_int (by omega)] at p2 q2
    rw [Int32.lt_iff_toInt_lt, sub_int h1 (by omega)] at p4
    rw [Int32.lt_iff_toInt_lt, sub_int h2 (by omega)] at q4
    refine ⟨i.toInt.toNat, j.toInt.toNat, n.toInt.toNat, by omega, by omega, ?_, ?_, ?_⟩
    · apply Int32.toInt_inj.mp
      rw [n2_int (by omega)]
      omega
    · apply Int32.toInt_inj.mp
      rw [n2_int (by omega)]
      omega
    · apply Int32.toInt_inj.mp
      rw [n2_int (by omega)]
      omega
  · rintro ⟨a, b, c, e1, e2, rfl, rfl, rfl⟩
    have z : ∀ k, k < 200 → ¬ (n2 k < 0) := fun k hk e => by have := (n2_lt (a := k) (b := 0) (by omega) (by omega)).mp e; omega
    have g : ∀ k l, k < 200 → l < 200 → l ≤ k → ¬ (n2 k < n2 l) := fun k l hk hl h e => by have := (n2_lt (by omega) (by omega)).mp e; omega
    rw [n2_sub (by omega) (by omega), n2_sub (by omega) (by omega)]
    exact ⟨⟨z _ (by omega), g _ _ (by omega) (by omega) (by omega), z _ (by omega), g _ _ (by omega) (by omega) (by omega)⟩, z _ (by omega), g _ _ (by omega) (by omega) (by omega), z _ (by omega), g _ _ (by omega) (by omega) (by omega)⟩
