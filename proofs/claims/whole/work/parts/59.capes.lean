/-! capes by seeds -/
theorem n2_div {a b : Nat} (ha : a < 2147483648) (hb : b < 2147483648) : n2 a / n2 b = n2 (a / b) := by
  apply Int32.toInt_inj.mp
  have h1 : a / b ≤ a := Nat.div_le_self a b
  rw [Int32.toInt_div, n2_int ha, n2_int hb, n2_int (by omega), ← Int.ofNat_tdiv]
  generalize a / b = c at h1 ⊢
  unfold Int.bmod
  simp only
  split <;> omega
theorem n2_nn (x : Int32) : ∃ Y, Y < 2147483648 ∧ x &&& 2147483647 = n2 Y := by
  refine ⟨(x &&& 2147483647).toBitVec.toNat, ?_, ?_⟩
  · rw [Int32.toBitVec_and, BitVec.toNat_and]
    have h : (x.toBitVec.toNat &&& (2147483647 : Int32).toBitVec.toNat) ≤ (2147483647 : Int32).toBitVec.toNat := Nat.and_le_right
    have h2 : (2147483647 : Int32).toBitVec.toNat = 2147483647 := rfl
    omega
  · apply Int32.toBitVec_inj.mp
    apply BitVec.eq_of_toNat_eq
    simp [n2]
theorem n2_mod {a b : Nat} (ha : a < 2147483648) (hb : b < 2147483648) : n2 a - n2 a / n2 b * n2 b = n2 (a % b) := by
  have h1 := Nat.div_add_mod a b
  rw [n2_div ha hb, show n2 (a / b) * n2 b = n2 (a / b * b) from (Int32.ofNat_mul (a / b) b).symm, Nat.mul_comm (a / b) b]
  generalize b * (a / b) = c at h1 ⊢
  rw [n2_sub (by omega) ha]
  congr 1
  omega
theorem mod4 (f : Nat) (h : f < 32768) : n2 f - n2 f / 4 * 4 = n2 (f % 4) := n2_mod (b := 4) (by omega) (by omega)
/-- a draw below four -/
def drw (z : Int32) : Int32 := ((z &&& 2147483647) / 65536) - ((z &&& 2147483647) / 65536) / 4 * 4
theorem drw_in (z : Int32) : ∃ v, v < 4 ∧ drw z = n2 v := by
  obtain ⟨Y, hY, e⟩ := n2_nn z
  have h1 : n2 Y / 65536 = n2 (Y / 65536) := n2_div (b := 65536) hY (by omega)
  refine ⟨Y / 65536 % 4, by omega, ?_⟩
  unfold drw
  rw [e, h1]
  exact mod4 _ (by omega)
def nxt (z : Int32) : Int32 := z * 1103515245 + 12345
def wheN (z : Int32) : Int32 := if drw z = 3 then 9 else drw z
theorem whe_in (z : Int32) : wheN z = 0 ∨ wheN z = 1 ∨ wheN z = 2 ∨ wheN z = 9 := by
  obtain ⟨v, hv, e⟩ := drw_in z
  unfold wheN
  rw [e]
  match v, hv with
  | 0, _ => exact Or.inl (by decide)
  | 1, _ => exact Or.inr (Or.inl (by decide))
  | 2, _ => exact Or.inr (Or.inr (Or.inl (by decide)))
  | 3, _ => exact Or.inr (Or.inr (Or.inr (by decide)))
theorem whe_if {α : Type} {z : Int32} {K : Int32 → α} : (if (3 : Int32) ≤ drw z then K 9 else K (drw z)) = K (wheN z) := by
  obtain ⟨v, hv, e⟩ := drw_in z
  unfold wheN
  rw [e]
  match v, hv with
  | 0, _ => rfl
  | 1, _ => rfl
  | 2, _ => rfl
  | 3, _ => rfl
def scF (R : Nat → Int32) (p : Nat) (a : Int32 × (Nat → Int32)) : Int32 × (Nat → Int32) := if lo R p = 1 then a else (nxt a.1, upd a.2 (4 + 4 * p + 2) (wheN (nxt a.1)))
def sct (R : Nat → Int32) (N : Nat) (z : Int32) : Int32 × (Nat → Int32) := fo (scF R) N 0 (z, R)
def scI (R : Nat → Int32) (N : Nat) (A : Nat → Int32) : Prop := OkR A N ∧ (∀ p, p < N → lo A p = lo R p) ∧ A 3 = R 3 ∧ ∀ k, 100 ≤ k → A k = R k
theorem scF_ok {R : Nat → Int32} {N p : Nat} {a : Int32 × (Nat → Int32)} (hp : p < N) (h : scI R N a.2) : scI R N (scF R p a).2 := by
  have h8 := h.1.2.1
  unfold scF
  by_cases hl : lo R p = 1
  · rw [if_pos hl]
    exact h
  · rw [if_neg hl]
    obtain ⟨h1, h2, h3, h4⟩ := h
    refine ⟨h1.boat hp (whe_in _) (Or.inl ?_), fun q hq => ?_, ?_, fun k hk => ?_⟩
    · rcases (h1.2.2.1 p hp).2.2.2 with h5 | h5
      · exact h5
      · rw [h2 p hp] at h5
        exact absurd h5.1 hl
    · rw [← h2 q hq]
      unfold lo
      show upd a.2 (4 + 4 * p + 2) _ (4 + 4 * q + 3) = _
      rw [upd_ne (by omega)]
    · show upd a.2 (4 + 4 * p + 2) _ 3 = _
      rw [upd_ne (by omega)]
      exact h3
    · show upd a.2 (4 + 4 * p + 2) _ k = _
      rw [upd_ne (by omega)]
      exact h4 k hk
theorem sct_ok {R : Nat → Int32} {N : Nat} {z : Int32} (h : OkR R N) : scI R N (sct R N z).2 := fo_inv (f := scF R) (N := N) (fun _ a => scI R N a.2) (fun p a hp h => scF_ok hp h) N 0 (z, R) (by omega) ⟨h, fun _ _ => rfl, rfl, fun _ _ => rfl⟩
theorem x_scat {σ : Mem} {N : Nat} {R : Nat → Int32} {z : Int32} (h : CL3 σ 3 N R) : Tm (p_X3_scatters 3 z σ) (fun v s => v = (sct R N z).1 ∧ CL3 s 3 N (sct R N z).2 ∧ FrC 3 σ s) := by
  have h8 := h.le8
  unfold p_X3_scatters
  show Tm (p_X3_scatters_L4 3 z 1000 z (n2 0) σ) _
  refine lpT (L := fun g p (a : Int32 × (Nat → Int32)) τ => p_X3_scatters_L4 3 z g a.1 (n2 p) τ) (N := N) (fun p a τ => CL3 τ 3 N a.2 ∧ scI R N a.2 ∧ FrC 3 σ τ ∧ fo (scF R) (N - p) p a = sct R N z) (fun g p a τ hp hI hK => ?_) (fun g a τ hI => ?_) N 0 (z, R) σ 1000 (by omega) (by omega) ⟨h, ⟨h.2.1, fun _ _ => rfl, rfl, fun _ _ => rfl⟩, FrC.rf 3 σ, rfl⟩
  · obtain ⟨h1, hs, hf, he⟩ := hI
    rw [fo_step hp] at he
    show Tm (p_X3_scatters_B4 (p_X3_scatters_L4 3 z g) 3 z a.1 (n2 p) τ) _
    unfold p_X3_scatters_B4 p_X3_scatters_B58 p_X3_scatters_B59
    simp (disch := omega) only [ltE, h1.sizeq, ile_f, x_isLost h1 hp, bndE, b2z, decide_eq_true_eq, hs.2.1 p hp, n2_succ]
    by_cases hl : lo R p = 1
    · rw [if_pos hl]
      have e : scF R p a = a := by unfold scF; rw [if_pos hl]
      rw [e] at he
      exact hK a τ ⟨h1, hs, hf, he⟩
    · rw [if_neg hl]
      have hs2 := scF_ok (a := a) hp hs
      have e : scF R p a = (nxt a.1, upd a.2 (4 + 4 * p + 2) (wheN (nxt a.1))) := by unfold scF; rw [if_neg hl]
      rw [e] at he hs2
      have hl0 : lo a.2 p = 0 := by
        rcases (hs.1.2.2.1 p hp).2.2.2 with h5 | h5
        · exact h5
        · rw [hs.2.1 p hp] at h5
          exact absurd h5.1 hl
      have hk := hK (nxt a.1, upd a.2 (4 + 4 * p + 2) (wheN (nxt a.1))) (mu τ (30 + 3) p (wheN (nxt a.1))) ⟨h1.boat isC3 hp (whe_in _) (Or.inl hl0), hs2, hf.w (Or.inr (Or.inr (Or.inr (Or.inl rfl)))), he⟩
      refine Tm.eq (whe_if (z := nxt a.1) (K := fun v => if n2 p < 0 ∨ 8 ≤ (n2 p).toNatClampNeg then none else wr τ (30 + 3) (n2 p).toNatClampNeg v fun s1 => p_X3_scatters_L4 3 z g (nxt a.1) (n2 (p + 1)) s1)) ?_
      simp (disch := omega) only [n2_nat, iin, wrE]
      exact hk
  · obtain ⟨h1, hs, hf, he⟩ := hI
    show Tm (p_X3_scatters_B4 (p_X3_scatters_L4 3 z g) 3 z a.1 (n2 N) τ) _
    unfold p_X3_scatters_B4
    simp (disch := omega) only [ltE, h1.sizeq, ile_t]
    rw [fo_end] at he
    have he : a = sct R N z := he
    exact Tm.ret ⟨by rw [he], by rw [← he]; exact h1, hf⟩
theorem m_scat {σ s τ : Mem} {N : Nat} {z : Int32} (hX : FrX σ s) (h : OkR (σ 66) N) (hA : OkR (mnd σ) N) (hf : FrM s τ) (e67 : τ 67 = mnd σ) (e11 : τ 65 11 = z) (x1 x2 x3 x4 x5 : Int32) {k : Int32 → Int32 → Mem → Option (Int32 × Mem)} {Q : Int32 → Mem → Prop} (hk : ∀ τ', FrM s τ' → τ' 67 = (sct (mnd σ) N z).2 → τ' 65 11 = (sct (mnd σ) N z).1 → Tm (k x4 x5 τ') Q) : Tm (p_X12_capes_L52 k x1 x2 x3 1000 x4 x5 0 τ) Q := by
  have h8 := h.2.1
  refine lpT (L := fun g p (_ : Int32 × (Nat → Int32)) τ => p_X12_capes_L52 k x1 x2 x3 g x4 x5 (n2 p) τ) (N := N) (fun p a τ => FrM s τ ∧ τ 67 = a.2 ∧ τ 65 11 = a.1 ∧ fo (scF (mnd σ)) (N - p) p a = sct (mnd σ) N z) (fun g p a τ hp hI hK => ?_) (fun g a τ hI => ?_) N 0 (z, mnd σ) τ 1000 (by omega) (by omega) ⟨hf, e67, e11, rfl⟩
  · obtain ⟨hf, e67, e11, he⟩ := hI
    rw [fo_step hp] at he
    have e66 : τ 66 = σ 66 := (hf.1 66 (by decide) (by decide)).trans (hX 66 (by decide))
    show Tm (p_X12_capes_B52 (p_X12_capes_L52 k x1 x2 x3 g) k x1 x2 x3 x4 x5 (n2 p) τ) _
    unfold p_X12_capes_B52 p_X12_capes_B111 p_X12_capes_B112
    simp (disch := omega) only [ii0, c0, ltE, e66, h.1, ile_f, m_of3, bndE, n2_nat, iin, n2_succ]
    rw [show σ 66 (4 + 4 * p + 3) = lo (mnd σ) p from (mnd_lo (by omega)).symm]
    by_cases hl : lo (mnd σ) p = 1
    · rw [if_pos hl]
      have e : scF (mnd σ) p a = a := by unfold scF; rw [if_pos hl]
      rw [e] at he
      exact hK a τ ⟨hf, e67, e11, he⟩
    · rw [if_neg hl]
      have e : scF (mnd σ) p a = (nxt a.1, upd a.2 (4 + 4 * p + 2) (wheN (nxt a.1))) := by unfold scF; rw [if_neg hl]
      rw [e] at he
      have hd : p_X12_drawn 4 τ = some (drw (nxt a.1), mu τ 65 11 (nxt a.1)) := by
        unfold p_X12_drawn
        simp only [ltE, wrE, mu_at, e11]
        rw [if_neg (by decide)]
        rfl
      have hw : ∀ v, v = wheN (nxt a.1) → Tm (p_X12_capes_L52 k x1 x2 x3 g x4 x5 (n2 (p + 1)) (mu (mu τ 65 11 (nxt a.1)) 67 (4 + 4 * p + 2) v)) Q := fun v hv => by
        refine hK (nxt a.1, upd a.2 (4 + 4 * p + 2) (wheN (nxt a.1))) _ ⟨(hf.sl (by decide)).w rfl, ?_, ?_, he⟩
        · rw [mu_row, mu_off (by decide), e67, hv]
        · rw [mu_off (by decide), mu_at]
      simp (disch := omega) only [hd, bndE, m_of2, n2_nat, iin, wrE]
      unfold wheN at hw
      by_cases h3 : drw (nxt a.1) = 3
      · rw [if_pos h3]
        exact hw 9 (if_pos h3).symm
      · rw [if_neg h3]
        exact hw (drw (nxt a.1)) (if_neg h3).symm
  · obtain ⟨hf, e67, e11, he⟩ := hI
    have e66 : τ 66 = σ 66 := (hf.1 66 (by decide) (by decide)).trans (hX 66 (by decide))
    show Tm (p_X12_capes_B52 (p_X12_capes_L52 k x1 x2 x3 g) k x1 x2 x3 x4 x5 (n2 N) τ) _
    unfold p_X12_capes_B52
    simp (disch := omega) only [ii0, c0, ltE, e66, h.1, ile_t]
    rw [fo_end] at he
    have he : a = sct (mnd σ) N z := he
    exact hk τ hf (by rw [e67, he]) (by rw [e11, he])
def cpB (A : Nat → Int32) (N : Nat) (z : Int32) : Nat → Int32 := seR N 5 (sct A N z).2
def cpF (A : Nat → Int32) (N : Nat) (_ : Nat) (a : Int32 × Int32 × Int32) : Int32 × Int32 × Int32 :=
  ((sct A N a.1).1, a.2.1 + (n2 (pop (lostV (cpB A N a.1) N)) - n2 (pop (lostV A N))), a.2.2 + n2 (pop (abdV (cpB A N a.1) N)))
theorem abd_mnd {σ : Mem} {N : Nat} (h : N ≤ 8) : abdV (mnd σ) N = abdV (σ 66) N := by
  unfold abdV
  rw [mnd_crew h, mnd_crew h, mnd_crew h]
theorem st_capes : St3 Inv p_X11_capes p_X12_capes := by
  intro x z y σ hI
  obtain ⟨N, t, hL, hA, h3, hA3, ht⟩ := getI hI
  have h8 := hL.le8
  have h := hL.2.1
  cases hx : inV x 1 20
  · refine st_read hI (r := (-1 : Int32)) ?_ ?_
    · unfold p_X11_capes
      simp only [x_within, bndE, b2z, hx]
      rfl
    · unfold p_X12_capes
      simp only [m_isIn, bndE, b2z, hx]
      rfl
  cases hy : inV y 0 1
  · refine st_read hI (r := (-1 : Int32)) ?_ ?_
    · unfold p_X11_capes
      simp only [x_within, bndE, b2z, hx, if_true, x_isPart, hy]
      rfl
    · unfold p_X12_capes
      simp only [m_isIn, bndE, b2z, hx, if_true, hy]
      rfl
  obtain ⟨n, -, hn, rfl⟩ := in_n2 (lo := 1) (hi := 20) (by decide) (by decide) hx
  generalize hw : fo (cpF (mnd σ) N) n 0 (z, 0, 0) = w
  refine st_scr hI (r := if y = 0 then w.2.1 else w.2.2) ?_ (fun s hX => ?_)
  · unfold p_X11_capes
    simp only [x_within, bndE, b2z, hx, if_true, x_isPart, hy]
    refine lpT (L := fun g i (a : Int32 × Int32 × Int32) τ => p_X11_capes_L31 (fun (x5 : Int32) (x6 : Int32) (m28 : Mem) => (if y = 0 then some (x5, m28) else some (x6, m28))) (n2 n) z y g a.1 a.2.1 a.2.2 (n2 i) τ) (N := n) (fun i a τ => FrC 3 σ τ ∧ fo (cpF (mnd σ) N) (n - i) i a = w) (fun g i a τ hi hI hK => ?_) (fun g a τ hI => ?_) n 0 (z, 0, 0) σ 1000 (by omega) (by omega) ⟨FrC.rf 3 σ, hw⟩
    · obtain ⟨hf, he⟩ := hI
      rw [fo_step hi] at he
      show Tm (p_X11_capes_B31 (p_X11_capes_L31 _ (n2 n) z y g) _ (n2 n) z y a.1 a.2.1 a.2.2 (n2 i) τ) _
      unfold p_X11_capes_B31
      rw [ile_f ⟨by omega, by omega⟩]
      refine (x_mind hA hf).bd (fun _ s1 h1 => ?_)
      refine (x_scat (z := a.1) h1.1).bd (fun v s2 h2 => ?_)
      obtain ⟨rfl, h2, hf2⟩ := h2
      have hsc := sct_ok (z := a.1) hA.2.1
      refine (x_sails isC3 h2 (s := t) (n := 5) (hsc.2.2.1.trans hA3) (by omega) (by omega)).bd (fun _ s3 h3 => ?_)
      have hf3 := (h1.2.tr hf2).tr h3.2
      have l1 := abd_lt (R := seR N 5 (sct (mnd σ) N a.1).2) h8
      rw [h3.1.lostOnesq, bndE, (hA.off isC3 isC1 (by decide) hf3).lostOnesq, bndE, x_aboard h3.1, bndE, x_pop l1, bndE, n2_succ]
      exact hK (cpF (mnd σ) N i a) s3 ⟨hf3, he⟩
    · obtain ⟨hf, he⟩ := hI
      show Tm (p_X11_capes_B31 (p_X11_capes_L31 _ (n2 n) z y g) _ (n2 n) z y a.1 a.2.1 a.2.2 (n2 n) τ) _
      unfold p_X11_capes_B31
      rw [ile_t ⟨by omega, by omega⟩]
      rw [fo_end] at he
      rw [← he]
      split
      · exact Tm.ret ⟨rfl, hf.X⟩
      · exact Tm.ret ⟨rfl, hf.X⟩
  · unfold p_X12_capes
    simp only [m_isIn, bndE, b2z, hx, if_true, hy, wrE]
    have e0 : (0 : Int32) = if y = 0 then (0 : Int32) else 0 := by split <;> rfl
    refine Tm.eq (congrArg (fun v => p_X12_capes_L32 (n2 n) z y 1000 v 0 (mu s 65 11 z)) e0) ?_
    refine lpT (L := fun g i (a : Int32 × Int32 × Int32) τ => p_X12_capes_L32 (n2 n) z y g (if y = 0 then a.2.1 else a.2.2) (n2 i) τ) (N := n) (fun i a τ => FrM s τ ∧ (∀ k, 100 ≤ k → τ 67 k = mnd σ k) ∧ τ 65 11 = a.1 ∧ fo (cpF (mnd σ) N) (n - i) i a = w) (fun g i a τ hi hI hK => ?_) (fun g a τ hI => ?_) n 0 (z, 0, 0) (mu s 65 11 z) 1000 (by omega) (by omega) ⟨(FrM.rf s).sl (by decide), fun k hk => by rw [mu_off (by decide), hX 67 (by decide)]; exact (cpr_ge hk).symm, mu_at _ _ _ _, hw⟩
    · obtain ⟨hf, hB, e11, he⟩ := hI
      rw [fo_step hi] at he
      have e66 : τ 66 = σ 66 := (hf.1 66 (by decide) (by decide)).trans (hX 66 (by decide))
      show Tm (p_X12_capes_B32 (p_X12_capes_L32 (n2 n) z y g) (n2 n) z y (if y = 0 then a.2.1 else a.2.2) (n2 i) τ) _
      unfold p_X12_capes_B32
      have ec : cpr (τ 66) (τ 67) = mnd σ := by
        rw [e66, cpr_of (B := σ 67) (fun k hk => (hB k hk).trans (cpr_ge hk))]
        rfl
      rw [ile_f ⟨by omega, by omega⟩, m_copy (by decide), bndE, ec]
      have hsc := sct_ok (z := a.1) hA.2.1
      refine m_scat (z := a.1) hX h hA.2.1 (hf.r rfl) (ms_at _ _ _) (by rw [ms_ne (by decide)]; exact e11) (n2 n) z y _ (n2 i) (fun τ' hf' e67' e11' => ?_)
      have eτ : τ' = ms τ' 67 (sct (mnd σ) N a.1).2 := by rw [← e67', ms_self]
      have hlb := m_lostBehind (s := τ') (n := 5) hsc.1 (hsc.2.2.1.trans hA3) (show t + 5 < 2000 by omega) (by omega)
      rw [← eτ] at hlb
      have hlb : p_X12_lostBehind 5 τ' = some (n2 (pop (lostV (cpB (mnd σ) N a.1) N)), ms τ' 67 (cpB (mnd σ) N a.1)) := hlb
      have hcp := (seR_ok (n := 5) hsc.1 (hsc.2.2.1.trans hA3) (by omega))
      have hfn : FrM s (ms τ' 67 (cpB (mnd σ) N a.1)) := hf'.r rfl
      have hBn : ∀ k, 100 ≤ k → ms τ' 67 (cpB (mnd σ) N a.1) 67 k = mnd σ k := fun k hk => by
        rw [ms_at]
        exact (hcp.2.2 k hk).trans (hsc.2.2.2 k hk)
      have e11n : ms τ' 67 (cpB (mnd σ) N a.1) 65 11 = (sct (mnd σ) N a.1).1 := by
        rw [ms_ne (by decide)]
        exact e11'
      have hk := hK (cpF (mnd σ) N i a) (ms τ' 67 (cpB (mnd σ) N a.1)) ⟨hfn, hBn, e11n, he⟩
      rw [hlb, bndE]
      unfold p_X12_capes_B157
      by_cases hy0 : y = 0
      · simp only [if_pos hy0] at hk ⊢
        have e66n : ms τ' 67 (cpB (mnd σ) N a.1) 66 = σ 66 := by
          rw [ms_ne (by decide)]
          exact (hf'.1 66 (by decide) (by decide)).trans (hX 66 (by decide))
        have hls := m_lostSet (r := 66) (N := N) (σ := ms τ' 67 (cpB (mnd σ) N a.1)) (by rw [e66n]; exact h)
        rw [e66n, ← mnd_lost h8] at hls
        rw [hls, bndE, m_pop (lost_lt h8), bndE, n2_succ]
        exact hk
      · simp only [if_neg hy0] at hk ⊢
        have haf := m_afloat (r := 67) (N := N) (σ := ms τ' 67 (cpB (mnd σ) N a.1)) (by rw [ms_at]; exact hcp.1)
        rw [ms_at] at haf
        rw [haf, bndE, m_pop (abd_lt h8), bndE, n2_succ]
        exact hk
    · obtain ⟨hf, hB, e11, he⟩ := hI
      show Tm (p_X12_capes_B32 (p_X12_capes_L32 (n2 n) z y g) (n2 n) z y (if y = 0 then a.2.1 else a.2.2) (n2 n) τ) _
      unfold p_X12_capes_B32
      rw [ile_t ⟨by omega, by omega⟩]
      rw [fo_end] at he
      rw [← he]
      exact Tm.ret ⟨rfl, hf⟩
