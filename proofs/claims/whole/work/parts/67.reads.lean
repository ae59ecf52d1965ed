/-! the model reads a statement -/
def TxM (τ : Mem) (d n : Nat) (E : Nat → Int32) (j : Nat) : Prop := τ 65 5 = n2 j ∧ τ 65 6 = n2 (100 * d) ∧ τ 65 7 = n2 n ∧ ∀ i, i < 100 → τ 78 (100 * d + i) = E i
def FrR (τ s : Mem) : Prop := (∀ o, o ≠ 65 → o ≠ 70 → s o = τ o) ∧ ∀ k, k ≠ 5 → s 65 k = τ 65 k
theorem FrR.rf (τ : Mem) : FrR τ τ := ⟨fun _ _ _ => rfl, fun _ _ => rfl⟩
theorem FrR.tr {a b c : Mem} (h1 : FrR a b) (h2 : FrR b c) : FrR a c := ⟨fun o x y => (h2.1 o x y).trans (h1.1 o x y), fun k hk => (h2.2 k hk).trans (h1.2 k hk)⟩
theorem FrR.nu {a b : Mem} (h : FrR a b) {k : Nat} {v : Int32} : FrR a (mu b 70 k v) := ⟨fun o x y => (mu_off y).trans (h.1 o x y), fun k hk => by rw [mu_off (by decide)]; exact h.2 k hk⟩
theorem FrR.pl {a b : Mem} (h : FrR a b) {v : Int32} : FrR a (mu b 65 5 v) := ⟨fun o x y => (mu_off x).trans (h.1 o x y), fun k hk => by rw [mu_ne (by omega)]; exact h.2 k hk⟩
theorem FrR.M {a b : Mem} (h : FrR a b) : FrM a b := ⟨fun o h1 h2 => h.1 o h1 (fun e => by rw [e] at h2; exact absurd h2 (by decide)), h.2 4 (by decide)⟩
theorem TxM.to {τ s : Mem} {d n j i : Nat} {E : Nat → Int32} (h : TxM τ d n E j) (hf : FrR τ s) (h5 : s 65 5 = n2 i) : TxM s d n E i := ⟨h5, (hf.2 6 (by decide)).trans h.2.1, (hf.2 7 (by decide)).trans h.2.2.1, fun k hk => by rw [hf.1 78 (by decide) (by decide)]; exact h.2.2.2 k hk⟩
theorem in_dig : ∀ b < 256, inV (n2 b) 48 57 = (decide (48 ≤ b) && decide (b ≤ 57)) := by decide +kernel
section READS
variable {d n : Nat} {E : Nat → Int32}
theorem m_here {τ : Mem} {j : Nat} (hd : d < 8) (hn : n ≤ 100) (hE : ∀ j, j < 100 → By (E j) (bcd (E j))) (h : TxM τ d n E j) (hj : j < 1000) : p_X12_here τ = some (if j < n then n2 (bcd (E j)) else -1, τ) := by
  unfold p_X12_here
  simp (disch := omega) only [ltE, h.1, h.2.1, h.2.2.1, ileq, n2_add]
  by_cases hjn : n ≤ j
  · rw [if_pos hjn, if_neg (by omega)]
  · rw [if_neg hjn]
    simp (disch := omega) only [n2_nat, iin]
    rw [if_pos (show j < n by omega), h.2.2.2 j (by omega), (hE j (by omega)).2.1]
theorem here_in {j : Nat} (hn : n ≤ 100) (hE : ∀ j, j < 100 → By (E j) (bcd (E j))) : inV (if j < n then n2 (bcd (E j)) else -1) 48 57 = isD E n j := by
  unfold isD
  by_cases h : j < n
  · rw [if_pos h, decide_eq_true h, in_dig _ (hE j (by omega)).1]
    rfl
  · rw [if_neg h, decide_eq_false h]
    rfl
theorem here_is {j v : Nat} (hn : n ≤ 100) (hE : ∀ j, j < 100 → By (E j) (bcd (E j))) (hv : v < 256) : ((if j < n then n2 (bcd (E j)) else -1) = n2 v) ↔ (j < n ∧ bcd (E j) = v) := by
  by_cases h : j < n
  · rw [if_pos h, n2_inj (by have := (hE j (by omega)).1; omega) (by omega)]
    exact ⟨fun e => ⟨h, e⟩, fun e => e.2⟩
  · rw [if_neg h]
    constructor
    · intro e
      have e2 : (-1 : Int32).toInt = (n2 v).toInt := by rw [e]
      rw [n2_int (by omega), show (-1 : Int32).toInt = -1 from rfl] at e2
      omega
    · intro e
      exact absurd e.1 h
theorem ten_add {v b : Nat} (hv : v < 10) (hb : 48 ≤ b) (hb2 : b < 256) : ((10 : Int32) * n2 v + n2 b) - 48 = n2 (10 * v + (b - 48)) := by
  rw [n2_ten', show n2 (10 * v + b) - 48 = n2 (10 * v + b - 48) from n2_sub (b := 48) (by omega) (by omega)]
  congr 1
  omega
theorem m_dig {τ : Mem} {j k i m v : Nat} (hd : d < 8) (hn : n ≤ 100) (hE : ∀ j, j < 100 → By (E j) (bcd (E j))) (h : TxM τ d n E j) (hj : j < 1000) (hk : k < 3) (hv : v < 10) (h70 : τ 70 k = n2 v) (him : i < m) (hm : m < 5) (k9 : Int32 → Mem → Option (Int32 × Mem)) : p_X12_readsNumber_B9 k9 (n2 k) (n2 m) (n2 i) τ = if isD E n j = true then k9 (n2 (i + 1)) (mu (mu τ 70 k (n2 (10 * v + dg E j))) 65 5 (n2 (j + 1))) else some (0, τ) := by
  have hh := m_here hd hn hE h hj
  unfold p_X12_readsNumber_B9
  rw [ile_f ⟨by omega, by omega⟩, hh, bndE, m_isIn, bndE, here_in hn hE, b2z]
  by_cases e : isD E n j = true
  · obtain ⟨e1, e2, e3⟩ := isD_iff.mp e
    rw [if_pos e, if_pos e]
    simp (disch := omega) only [n2_nat, iin, ltE, h70, hh, bndE, if_pos e1, wrE]
    rw [ten_add hv e2 (by omega), mu_off (by decide), h.1, n2_succ, n2_succ]
    rfl
  · rw [if_neg e, if_neg e]
theorem m_num1 {τ : Mem} {j k : Nat} (hd : d < 8) (hn : n ≤ 100) (hE : ∀ j, j < 100 → By (E j) (bcd (E j))) (h : TxM τ d n E j) (hj : j < 1000) (hk : k < 3) : ∃ s, p_X12_readsNumber (n2 k) 1 τ = some (b2 (isD E n j), s) ∧ FrR τ s ∧ s 65 5 = n2 (if isD E n j = true then j + 1 else j) ∧ (∀ i, i ≠ k → s 70 i = τ 70 i) ∧ (isD E n j = true → s 70 k = n2 (dg E j)) := by
  have h1 : TxM (mu τ 70 k 0) d n E j := h.to ((FrR.rf τ).nu) (by rw [mu_off (by decide)]; exact h.1)
  have hm := fun k9 => m_dig (i := 0) (m := 1) (v := 0) hd hn hE h1 hj hk (by omega) (mu_at _ _ _ _) (by omega) (by omega) k9
  have hp : p_X12_readsNumber (n2 k) 1 τ = if isD E n j = true then some (1, mu (mu (mu τ 70 k 0) 70 k (n2 (10 * 0 + dg E j))) 65 5 (n2 (j + 1))) else some (0, mu τ 70 k 0) := by
    unfold p_X12_readsNumber
    simp (disch := omega) only [n2_nat, iin, wrE]
    exact hm _
  by_cases e : isD E n j = true
  · rw [if_pos e] at hp
    refine ⟨_, by rw [e]; exact hp, (((FrR.rf τ).nu).nu).pl, ?_, fun i hi => ?_, fun _ => ?_⟩
    · rw [if_pos e, mu_at]
    · rw [mu_off (by decide), mu_ne (by omega), mu_ne (by omega)]
    · rw [mu_off (by decide), mu_at, show 10 * 0 + dg E j = dg E j by omega]
  · rw [if_neg e] at hp
    refine ⟨_, by rw [Bool.not_eq_true] at e; rw [e]; exact hp, (FrR.rf τ).nu, ?_, fun i hi => ?_, fun h => absurd h e⟩
    · rw [if_neg e, mu_off (by decide)]
      exact h.1
    · rw [mu_ne (by omega)]
theorem m_num2 {τ : Mem} {j : Nat} (hd : d < 8) (hn : n ≤ 100) (hE : ∀ j, j < 100 → By (E j) (bcd (E j))) (h : TxM τ d n E j) (hj : j < 900) : ∃ s, p_X12_readsNumber 0 2 τ = some (b2 (isD E n j && isD E n (j + 1)), s) ∧ FrR τ s ∧ s 65 5 = n2 (if isD E n j = true then (if isD E n (j + 1) = true then j + 2 else j + 1) else j) ∧ (isD E n j = true → isD E n (j + 1) = true → s 70 0 = n2 (10 * dg E j + dg E (j + 1))) := by
  have h1 : TxM (mu τ 70 0 0) d n E j := h.to ((FrR.rf τ).nu) (by rw [mu_off (by decide)]; exact h.1)
  have hm := fun k9 => m_dig (i := 0) (m := 2) (k := 0) (v := 0) hd hn hE h1 (by omega) (by omega) (by omega) (mu_at _ _ _ _) (by omega) (by omega) k9
  have hp : p_X12_readsNumber 0 2 τ = if isD E n j = true then p_X12_readsNumber_B9 (p_X12_readsNumber_L9 0 2 998) 0 2 (n2 (0 + 1)) (mu (mu (mu τ 70 0 0) 70 0 (n2 (10 * 0 + dg E j))) 65 5 (n2 (j + 1))) else some (0, mu τ 70 0 0) := by
    unfold p_X12_readsNumber
    simp (disch := omega) only [ii0, c0, wrE]
    exact hm _
  by_cases e : isD E n j = true
  · rw [if_pos e] at hp
    have hf2 : FrR τ (mu (mu (mu τ 70 0 0) 70 0 (n2 (10 * 0 + dg E j))) 65 5 (n2 (j + 1))) := (((FrR.rf τ).nu).nu).pl
    have h2 : TxM (mu (mu (mu τ 70 0 0) 70 0 (n2 (10 * 0 + dg E j))) 65 5 (n2 (j + 1))) d n E (j + 1) := h.to hf2 (mu_at _ _ _ _)
    have hm2 := m_dig (i := 0 + 1) (m := 2) (k := 0) (v := dg E j) hd hn hE h2 (by omega) (by omega) (dg_le e) (by rw [mu_off (by decide), mu_at, show 10 * 0 + dg E j = dg E j by omega]) (by omega) (by omega) (p_X12_readsNumber_L9 0 2 998)
    have hp := hp.trans hm2
    by_cases e2 : isD E n (j + 1) = true
    · rw [if_pos e2] at hp
      refine ⟨_, by rw [e, e2]; exact hp, (hf2.nu).pl, ?_, fun _ _ => ?_⟩
      · rw [if_pos e, if_pos e2, mu_at]
      · rw [mu_off (by decide), mu_at]
    · rw [if_neg e2] at hp
      have e2' : isD E n (j + 1) = false := Bool.not_eq_true _ ▸ e2
      refine ⟨_, by rw [e, e2']; exact hp, hf2, ?_, fun _ h => absurd h e2⟩
      rw [if_pos e, if_neg e2, mu_at]
  · rw [if_neg e] at hp
    have e' : isD E n j = false := Bool.not_eq_true _ ▸ e
    refine ⟨_, by rw [e']; exact hp, (FrR.rf τ).nu, ?_, fun h => absurd h e⟩
    rw [if_neg e, mu_off (by decide)]
    exact h.1
def numS (E : Nat → Int32) (a : Nat) (s : Mem) : Prop :=
  ((bcd (E a) = 98 ∨ bcd (E a) = 112 ∨ bcd (E a) = 115) → s 70 0 = n2 (dg E (a + 1)) ∧ s 70 1 = n2 (dg E (a + 2))) ∧ (bcd (E a) = 115 → s 70 2 = n2 (dg E (a + 3))) ∧ ((bcd (E a) = 108 ∨ bcd (E a) = 119) → s 70 0 = n2 (dg E (a + 1))) ∧ (bcd (E a) = 110 → s 70 0 = n2 (10 * dg E (a + 1) + dg E (a + 2)))
def PoR (E : Nat → Int32) (n a : Nat) (τ : Mem) : Option Nat → Int32 → Mem → Prop
  | some f, r, s => r = 0 ∧ FrR τ s ∧ s 65 5 = n2 f
  | none, r, s => r = 1 ∧ FrR τ s ∧ s 65 5 = n2 (a + ndA E n a + 2) ∧ numS E a s
theorem m_end {τ s : Mem} {a : Nat} (hd : d < 8) (hn : n ≤ 100) (hE : ∀ j, j < 100 → By (E j) (bcd (E j))) (hf : FrR τ s) (h : TxM s d n E (a + ndA E n a + 1)) (ha : a < 200) (hnum : numS E a s) : Tm (p_X12_readsStatement_B171 1 s) (PoR E n a τ (flE E n (a + ndA E n a + 1))) := by
  have h3 := ndA_le E n a
  unfold p_X12_readsStatement_B171 flE
  rw [if_neg (by decide), m_here hd hn hE h (by omega), bndE]
  have hi := here_is (j := a + ndA E n a + 1) (v := 59) hn hE (by omega)
  by_cases e : a + ndA E n a + 1 < n ∧ bcd (E (a + ndA E n a + 1)) = 59
  · rw [if_pos (show (if a + ndA E n a + 1 < n then n2 (bcd (E (a + ndA E n a + 1))) else -1) = 59 from hi.mpr e), if_pos e, ltE, h.1, wrE, n2_succ]
    refine Tm.ret ⟨rfl, hf.pl, mu_at _ _ _ _, ?_⟩
    unfold numS at hnum ⊢
    rw [mu_off (by decide)]
    exact hnum
  · rw [if_neg (show ¬ (if a + ndA E n a + 1 < n then n2 (bcd (E (a + ndA E n a + 1))) else -1) = 59 from fun q => e (hi.mp q)), if_neg e]
    exact Tm.ret ⟨rfl, hf, h.1⟩
theorem m_reads {τ : Mem} {a : Nat} (hd : d < 8) (hn : n ≤ 100) (hE : ∀ j, j < 100 → By (E j) (bcd (E j))) (h : TxM τ d n E a) (ha : a < 200) : Tm (p_X12_readsStatement τ) (PoR E n a τ (flt E n a)) := by
  have hi := fun v (hv : v < 256) => here_is (E := E) (n := n) (j := a) (v := v) hn hE hv
  unfold p_X12_readsStatement
  rw [m_here hd hn hE h (by omega), bndE, ltE, h.1, wrE, n2_succ]
  have hf1 : FrR τ (mu τ 65 5 (n2 (a + 1))) := (FrR.rf τ).pl
  have h1 : TxM (mu τ 65 5 (n2 (a + 1))) d n E (a + 1) := h.to hf1 (mu_at _ _ _ _)
  have two : (bcd (E a) = 98 ∨ bcd (E a) = 112) → a < n → Tm (bnd (p_X12_readsNumber 0 1 (mu τ 65 5 (n2 (a + 1)))) fun v12 s13 => (if v12 = 0 then p_X12_readsStatement_B98 s13 else bnd (p_X12_readsNumber 1 1 s13) fun v15 s16 => (if v15 = 0 then p_X12_readsStatement_B98 s16 else p_X12_readsStatement_B99 1 s16))) (PoR E n a τ (flt E n a)) := fun hb han => by
    have hnd : ndA E n a = 2 := by
      unfold ndA ndB
      rw [if_pos han]
      rcases hb with hb | hb <;> rw [hb] <;> rfl
    have hfl : flt E n a = if isD E n (a + 1) = true then (if isD E n (a + 2) = true then flE E n (a + ndA E n a + 1) else some (a + 2)) else some (a + 1) := by
      unfold flt
      rw [if_neg (by omega), hnd]
      simp only [fdg]
      by_cases e1 : isD E n (a + 1) = true
      · rw [if_pos e1, if_pos e1]
        by_cases e2 : isD E n (a + 2) = true
        · rw [if_pos e2, if_pos e2]
        · rw [if_neg e2, if_neg e2]
      · rw [if_neg e1, if_neg e1]
    rw [hfl]
    unfold p_X12_readsStatement_B98 p_X12_readsStatement_B99
    obtain ⟨s1, g1, g2, g3, g4, g5⟩ := m_num1 (k := 0) hd hn hE h1 (by omega) (by omega)
    rw [show p_X12_readsNumber 0 1 (mu τ 65 5 (n2 (a + 1))) = _ from g1, bndE, b2z]
    by_cases e1 : isD E n (a + 1) = true
    · rw [if_pos e1, if_pos e1]
      rw [if_pos e1] at g3
      have h2 := h1.to g2 g3
      obtain ⟨s2, k1, k2, k3, k4, k5⟩ := m_num1 (k := 1) hd hn hE h2 (by omega) (by omega)
      rw [show p_X12_readsNumber 1 1 s1 = _ from k1, bndE, b2z]
      by_cases e2 : isD E n (a + 2) = true
      · rw [if_pos (show isD E n (a + 1 + 1) = true from e2), if_pos e2]
        rw [if_pos (show isD E n (a + 1 + 1) = true from e2)] at k3
        refine m_end hd hn hE ((hf1.tr g2).tr k2) (h2.to k2 (by rw [k3, hnd])) ha ⟨fun _ => ⟨?_, k5 e2⟩, fun e => ?_, fun e => ?_, fun e => ?_⟩
        · rw [k4 0 (by omega), g5 e1]
        · rcases hb with hb | hb <;> omega
        · rcases hb with hb | hb <;> omega
        · rcases hb with hb | hb <;> omega
      · rw [if_neg (show ¬ isD E n (a + 1 + 1) = true from e2), if_neg e2]
        rw [if_neg (show ¬ isD E n (a + 1 + 1) = true from e2)] at k3
        exact Tm.ret ⟨rfl, (hf1.tr g2).tr k2, k3⟩
    · rw [if_neg e1, if_neg e1]
      rw [if_neg e1] at g3
      exact Tm.ret ⟨rfl, hf1.tr g2, g3⟩
  have one : (bcd (E a) = 108 ∨ bcd (E a) = 119) → a < n → Tm (bnd (p_X12_readsNumber 0 1 (mu τ 65 5 (n2 (a + 1)))) fun v19 s20 => p_X12_readsStatement_B171 v19 s20) (PoR E n a τ (flt E n a)) := fun hb han => by
    have hnd : ndA E n a = 1 := by
      unfold ndA ndB
      rw [if_pos han]
      rcases hb with hb | hb <;> rw [hb] <;> rfl
    have hfl : flt E n a = if isD E n (a + 1) = true then flE E n (a + ndA E n a + 1) else some (a + 1) := by
      unfold flt
      rw [if_neg (by omega), hnd]
      simp only [fdg]
      by_cases e1 : isD E n (a + 1) = true
      · rw [if_pos e1, if_pos e1]
      · rw [if_neg e1, if_neg e1]
    rw [hfl]
    obtain ⟨s1, g1, g2, g3, g4, g5⟩ := m_num1 (k := 0) hd hn hE h1 (by omega) (by omega)
    rw [show p_X12_readsNumber 0 1 (mu τ 65 5 (n2 (a + 1))) = _ from g1, bndE]
    by_cases e1 : isD E n (a + 1) = true
    · rw [if_pos e1] at g3 ⊢
      rw [e1]
      refine m_end hd hn hE (hf1.tr g2) (h1.to g2 (by rw [g3, hnd])) ha ⟨fun e => ?_, fun e => ?_, fun _ => g5 e1, fun e => ?_⟩
      · rcases hb with hb | hb <;> rcases e with e | e | e <;> omega
      · rcases hb with hb | hb <;> omega
      · rcases hb with hb | hb <;> omega
    · rw [if_neg e1] at g3 ⊢
      rw [Bool.not_eq_true] at e1
      rw [e1]
      exact Tm.ret ⟨rfl, hf1.tr g2, g3⟩
  by_cases q : a < n ∧ bcd (E a) = 98
  · rw [if_pos (show (if a < n then n2 (bcd (E a)) else -1) = 98 from (hi 98 (by omega)).mpr q)]
    exact two (Or.inl q.2) q.1
  rw [if_neg (show ¬ (if a < n then n2 (bcd (E a)) else -1) = 98 from fun e => q ((hi 98 (by omega)).mp e))]
  by_cases q1 : a < n ∧ bcd (E a) = 108
  · rw [if_pos (show (if a < n then n2 (bcd (E a)) else -1) = 108 from (hi 108 (by omega)).mpr q1)]
    exact one (Or.inl q1.2) q1.1
  rw [if_neg (show ¬ (if a < n then n2 (bcd (E a)) else -1) = 108 from fun e => q1 ((hi 108 (by omega)).mp e))]
  by_cases q2 : a < n ∧ bcd (E a) = 110
  · rw [if_pos (show (if a < n then n2 (bcd (E a)) else -1) = 110 from (hi 110 (by omega)).mpr q2)]
    have hnd : ndA E n a = 2 := by
      unfold ndA ndB
      rw [if_pos q2.1, q2.2]
      rfl
    have hfl : flt E n a = if isD E n (a + 1) = true then (if isD E n (a + 2) = true then flE E n (a + ndA E n a + 1) else some (a + 2)) else some (a + 1) := by
      unfold flt
      rw [if_neg (by omega), hnd]
      simp only [fdg]
      by_cases e1 : isD E n (a + 1) = true
      · rw [if_pos e1, if_pos e1]
        by_cases e2 : isD E n (a + 2) = true
        · rw [if_pos e2, if_pos e2]
        · rw [if_neg e2, if_neg e2]
      · rw [if_neg e1, if_neg e1]
    rw [hfl]
    obtain ⟨s1, g1, g2, g3, g5⟩ := m_num2 hd hn hE h1 (by omega)
    rw [g1, bndE]
    by_cases e1 : isD E n (a + 1) = true
    · rw [if_pos e1] at g3 ⊢
      by_cases e2 : isD E n (a + 2) = true
      · rw [if_pos (show isD E n (a + 1 + 1) = true from e2)] at g3
        rw [if_pos e2, e1, show isD E n (a + 1 + 1) = true from e2]
        refine m_end hd hn hE (hf1.tr g2) (h1.to g2 (by rw [g3, hnd])) ha ⟨fun e => ?_, fun e => ?_, fun e => ?_, fun _ => g5 e1 e2⟩
        · rcases e with e | e | e <;> omega
        · omega
        · rcases e with e | e <;> omega
      · rw [if_neg (show ¬ isD E n (a + 1 + 1) = true from e2)] at g3
        rw [if_neg e2]
        have e2' : isD E n (a + 1 + 1) = false := Bool.not_eq_true _ ▸ e2
        rw [e1, e2']
        exact Tm.ret ⟨rfl, hf1.tr g2, g3⟩
    · rw [if_neg e1] at g3 ⊢
      rw [Bool.not_eq_true] at e1
      rw [e1]
      exact Tm.ret ⟨rfl, hf1.tr g2, g3⟩
  rw [if_neg (show ¬ (if a < n then n2 (bcd (E a)) else -1) = 110 from fun e => q2 ((hi 110 (by omega)).mp e))]
  by_cases q3 : a < n ∧ bcd (E a) = 112
  · rw [if_pos (show (if a < n then n2 (bcd (E a)) else -1) = 112 from (hi 112 (by omega)).mpr q3)]
    exact two (Or.inr q3.2) q3.1
  rw [if_neg (show ¬ (if a < n then n2 (bcd (E a)) else -1) = 112 from fun e => q3 ((hi 112 (by omega)).mp e))]
  by_cases q4 : a < n ∧ bcd (E a) = 115
  · rw [if_pos (show (if a < n then n2 (bcd (E a)) else -1) = 115 from (hi 115 (by omega)).mpr q4)]
    have hnd : ndA E n a = 3 := by
      unfold ndA ndB
      rw [if_pos q4.1, q4.2]
      rfl
    have hfl : flt E n a = if isD E n (a + 1) = true then (if isD E n (a + 2) = true then (if isD E n (a + 3) = true then flE E n (a + ndA E n a + 1) else some (a + 3)) else some (a + 2)) else some (a + 1) := by
      unfold flt
      rw [if_neg (by omega), hnd]
      simp only [fdg]
      by_cases e1 : isD E n (a + 1) = true
      · rw [if_pos e1, if_pos e1]
        by_cases e2 : isD E n (a + 2) = true
        · rw [if_pos e2, if_pos e2]
          by_cases e3 : isD E n (a + 3) = true
          · rw [if_pos e3, if_pos e3]
          · rw [if_neg e3, if_neg e3]
        · rw [if_neg e2, if_neg e2]
      · rw [if_neg e1, if_neg e1]
    rw [hfl]
    unfold p_X12_readsStatement_B134 p_X12_readsStatement_B135
    obtain ⟨s1, g1, g2, g3, g4, g5⟩ := m_num1 (k := 0) hd hn hE h1 (by omega) (by omega)
    rw [show p_X12_readsNumber 0 1 (mu τ 65 5 (n2 (a + 1))) = _ from g1, bndE, b2z]
    by_cases e1 : isD E n (a + 1) = true
    · rw [if_pos e1, if_pos e1]
      rw [if_pos e1] at g3
      have h2 := h1.to g2 g3
      obtain ⟨s2, k1, k2, k3, k4, k5⟩ := m_num1 (k := 1) hd hn hE h2 (by omega) (by omega)
      rw [show p_X12_readsNumber 1 1 s1 = _ from k1, bndE, b2z]
      by_cases e2 : isD E n (a + 2) = true
      · rw [if_pos (show isD E n (a + 1 + 1) = true from e2), if_pos e2]
        rw [if_pos (show isD E n (a + 1 + 1) = true from e2)] at k3
        have h3 := h2.to k2 k3
        obtain ⟨s3, l1, l2, l3, l4, l5⟩ := m_num1 (k := 2) hd hn hE h3 (by omega) (by omega)
        rw [show p_X12_readsNumber 2 1 s2 = _ from l1, bndE, b2z]
        by_cases e3 : isD E n (a + 3) = true
        · rw [if_pos (show isD E n (a + 1 + 1 + 1) = true from e3), if_pos e3]
          rw [if_pos (show isD E n (a + 1 + 1 + 1) = true from e3)] at l3
          refine m_end hd hn hE (((hf1.tr g2).tr k2).tr l2) (h3.to l2 (by rw [l3, hnd])) ha ⟨fun _ => ⟨?_, ?_⟩, fun _ => l5 e3, fun e => ?_, fun e => ?_⟩
          · rw [l4 0 (by omega), k4 0 (by omega), g5 e1]
          · rw [l4 1 (by omega), k5 e2]
          · rcases e with e | e <;> omega
          · omega
        · rw [if_neg (show ¬ isD E n (a + 1 + 1 + 1) = true from e3), if_neg e3]
          rw [if_neg (show ¬ isD E n (a + 1 + 1 + 1) = true from e3)] at l3
          exact Tm.ret ⟨rfl, ((hf1.tr g2).tr k2).tr l2, l3⟩
      · rw [if_neg (show ¬ isD E n (a + 1 + 1) = true from e2), if_neg e2]
        rw [if_neg (show ¬ isD E n (a + 1 + 1) = true from e2)] at k3
        exact Tm.ret ⟨rfl, (hf1.tr g2).tr k2, k3⟩
    · rw [if_neg e1, if_neg e1]
      rw [if_neg e1] at g3
      exact Tm.ret ⟨rfl, hf1.tr g2, g3⟩
  rw [if_neg (show ¬ (if a < n then n2 (bcd (E a)) else -1) = 115 from fun e => q4 ((hi 115 (by omega)).mp e))]
  by_cases q5 : a < n ∧ bcd (E a) = 119
  · rw [if_pos (show (if a < n then n2 (bcd (E a)) else -1) = 119 from (hi 119 (by omega)).mpr q5)]
    exact one (Or.inr q5.2) q5.1
  rw [if_neg (show ¬ (if a < n then n2 (bcd (E a)) else -1) = 119 from fun e => q5 ((hi 119 (by omega)).mp e))]
  have hnd : ndA E n a = 0 := by
    unfold ndA ndB
    by_cases han : a < n
    · rw [if_pos han, if_neg (fun e => q ⟨han, e⟩), if_neg (fun e => q1 ⟨han, e⟩), if_neg (fun e => q2 ⟨han, e⟩), if_neg (fun e => q3 ⟨han, e⟩), if_neg (fun e => q4 ⟨han, e⟩), if_neg (fun e => q5 ⟨han, e⟩)]
    · rw [if_neg han]
  have hfl : flt E n a = some a := by
    unfold flt
    rw [if_pos hnd]
  rw [hfl, ltE, mu_at, wrE, show n2 (a + 1) - 1 = n2 a from n2_sub (b := 1) (by omega) (by omega)]
  exact Tm.ret ⟨rfl, hf1.pl, mu_at _ _ _ _⟩
end READS
