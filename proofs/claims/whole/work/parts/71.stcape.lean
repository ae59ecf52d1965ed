/-! a row of statements: both sides agree -/
theorem brk_cases {E : Nat → Int32} {n : Nat} (hn : n ≤ 100) : (∃ f, f < 300 ∧ brkV E n = n2 f ∧ ((n = 0 ∧ f = 0) ∨ (n ≠ 0 ∧ ∃ c, prs E n 100 0 0 = (some f, c)))) ∨ (n ≠ 0 ∧ brkV E n = -1 ∧ ∃ c, prs E n 100 0 0 = (none, c)) := by
  have pl : ∀ t a c f c', prs E n t a c = (some f, c') → f ≤ 105 := by
    intro t
    induction t with
    | zero => intro a c f c' h; cases h
    | succ t ih =>
      intro a c f c' h
      unfold prs at h
      by_cases hna : n ≤ a
      · rw [if_pos hna] at h
        cases h
      · rw [if_neg hna] at h
        cases hf : flt E n a with
        | some f' =>
          rw [hf] at h
          cases h
          have := flt_le hf
          omega
        | none =>
          rw [hf] at h
          exact ih _ _ _ _ h
  unfold brkV
  by_cases h0 : n = 0
  · exact Or.inl ⟨0, by omega, by rw [if_pos h0]; rfl, Or.inl ⟨h0, rfl⟩⟩
  · rw [if_neg h0]
    rcases hp : prs E n 100 0 0 with ⟨_ | f, c⟩
    · exact Or.inr ⟨h0, rfl, c, rfl⟩
    · exact Or.inl ⟨f, by have := pl _ _ _ _ _ hp; omega, rfl, Or.inr ⟨h0, c, rfl⟩⟩
theorem flt_nil {E : Nat → Int32} : flt E 0 0 = some 0 := by
  have h : ndA E 0 0 = 0 := if_neg (by decide)
  unfold flt
  rw [if_pos h]
section MCAPE
variable {τ : Mem} {d n N : Nat} {E : Nat → Int32}
def capS (d n : Nat) (τ : Mem) : Mem := mu (mu (mu τ 65 6 (n2 (100 * d))) 65 7 (n2 n)) 65 5 0
theorem cap_M : FrM τ (capS d n τ) := by
  unfold capS
  exact (((FrM.rf τ).sl (by decide)).sl (by decide)).sl (by decide)
theorem cap_T (h78 : ∀ j, j < 100 → τ 78 (100 * d + j) = E j) : TxM (capS d n τ) d n E 0 := by
  unfold capS
  refine ⟨mu_at _ _ _ _, ?_, ?_, fun i hi => ?_⟩
  · rw [mu_ne (by omega), mu_ne (by omega), mu_at]
  · rw [mu_ne (by omega), mu_at]
  · rw [mu_off (by decide), mu_off (by decide), mu_off (by decide)]
    exact h78 i hi
theorem m_start (hd : d < 8) (hw : p_X12_wrongRow (n2 d) 0 τ = some (0, τ)) (h77 : τ 77 d = n2 n) : p_X12_cape (n2 d) τ = p_X12_cape_L41 (p_X12_cape_B77 (n2 d)) (n2 d) 1000 0 0 (capS d n τ) := by
  unfold p_X12_cape capS
  rw [hw, bndE, if_pos rfl, wrE, show (100 : Int32) * n2 d = n2 (100 * d) from (Int32.ofNat_mul 100 d).symm]
  simp (disch := omega) only [n2_nat, iin]
  rw [ltE, wrE, wrE, mu_off (by decide), h77]
theorem m_stop {x v : Int32} (f : Nat) (hf : f < 300) (s : Mem) : Tm (p_X12_cape_B77 x v (-1000 - n2 f) s) (fun r s' => r = -1000 - n2 f ∧ FrM s s') := by
  unfold p_X12_cape_B77
  rw [m_copy (by decide), bndE, wrE]
  show Tm (p_X12_cape_B93 (p_X12_cape_L93 (p_X12_cape_B161 x) x 999) (p_X12_cape_B161 x) x v (-1000 - n2 f) _) _
  unfold p_X12_cape_B93 p_X12_cape_B161
  rw [if_neg (fl_1 f hf), if_neg (fl_1 f hf)]
  exact Tm.ret ⟨rfl, ((FrM.rf s).r (by decide)).sl (by decide)⟩
theorem m_capeA (hd : d < 8) (hn : n ≤ 100) (hE : ∀ j, j < 100 → By (E j) (bcd (E j))) (hw : p_X12_wrongRow (n2 d) 0 τ = some (0, τ)) (h77 : τ 77 d = n2 n) (h78 : ∀ j, j < 100 → τ 78 (100 * d + j) = E j) {f : Nat} (hf : f < 300) (hb : (n = 0 ∧ f = 0) ∨ (n ≠ 0 ∧ ∃ c, prs E n 100 0 0 = (some f, c))) : Tm (p_X12_cape (n2 d) τ) (fun r s => r = -1000 - n2 f ∧ FrM τ s) := by
  rw [m_start hd hw h77]
  have hT := cap_T (n := n) h78
  have go : ∀ v s', FrR (capS d n τ) s' → Tm (p_X12_cape_B77 (n2 d) v (-1000 - n2 f) s') (fun r s => r = -1000 - n2 f ∧ FrM τ s) := fun v s' h' => (m_stop f hf s').mono (fun r s hq => ⟨hq.1, (cap_M.tr h'.M).tr hq.2⟩)
  rcases hb with ⟨rfl, rfl⟩ | ⟨hn0, c, hp⟩
  · show Tm (p_X12_cape_B41 (p_X12_cape_L41 (p_X12_cape_B77 (n2 d)) (n2 d) 999) (p_X12_cape_B77 (n2 d)) (n2 d) 0 0 (capS d 0 τ)) _
    unfold p_X12_cape_B41
    refine (m_reads hd hn hE hT (by omega)).bd (fun r s8 hx => ?_)
    rw [flt_nil] at hx
    obtain ⟨rfl, hf', h5⟩ := hx
    unfold p_X12_cape_B58
    rw [if_pos rfl, ltE, h5, if_neg (fl_1 0 (by omega))]
    exact go _ s8 hf'
  · refine m_parse (p_X12_cape_B77 (n2 d)) hd hE hn 100 0 0 1000 (capS d n τ) hT (by omega) (by omega) (by omega) (fun f' c' e v s' h' => ?_) (fun c' e s' h' => ?_)
    · rw [hp] at e
      cases e
      exact go v s' h'
    · rw [hp] at e
      cases e
def PoNc (τ : Mem) (C : Nat) : Option ((Nat → Int32) × Nat) × Nat → Int32 → Mem → Prop
  | (none, a), r, s => r = -2000 - n2 a ∧ FrM τ s
  | (some q, _), r, s => r = n2 C ∧ FrK τ s ∧ s 66 = q.1 ∧ OkS q.1 q.2 (τ 66)
theorem m_capeB (hd : d < 8) (hn : n ≤ 100) (hE : ∀ j, j < 100 → By (E j) (bcd (E j))) (hw : p_X12_wrongRow (n2 d) 0 τ = some (0, τ)) (h77 : τ 77 d = n2 n) (h78 : ∀ j, j < 100 → τ 78 (100 * d + j) = E j) {c : Nat} (hn0 : n ≠ 0) (hp : prs E n 100 0 0 = (none, c)) (hO : OkS (τ 66) N (τ 66)) : Tm (p_X12_cape (n2 d) τ) (PoNc τ c (runC E n 100 0 (τ 66) N)) := by
  rw [m_start hd hw h77]
  have hT := cap_T (n := n) h78
  refine m_parse (p_X12_cape_B77 (n2 d)) hd hE hn 100 0 0 1000 (capS d n τ) hT (by omega) (by omega) (by omega) (fun f' c' e v s' h' => ?_) (fun c' e s' h' => ?_)
  · rw [hp] at e
    cases e
  · rw [hp] at e
    cases e
    unfold p_X12_cape_B77
    rw [m_copy (by decide), bndE, wrE]
    have hM : FrM τ s' := cap_M.tr h'.M
    have e66 : s' 66 = τ 66 := hM.1 66 (by decide) (by decide)
    generalize hs2 : mu (ms s' 69 (cpr (s' 66) (s' 69))) 65 5 0 = s2
    have k2 : FrK s' s2 := by
      rw [← hs2]
      exact (FrK.row (Or.inr rfl)).tr (FrK.sl (by decide))
    have f66 : s2 66 = τ 66 := by
      rw [← hs2, mu_off (by decide), ms_ne (by decide)]
      exact e66
    have f69 : ∀ k, k < 100 → s2 69 k = τ 66 k := by
      intro k hk
      rw [← hs2, mu_off (by decide), ms_at, cpr_lt hk, e66]
    have hT2 : TxM s2 d n E 0 := by
      rw [← hs2]
      refine ⟨mu_at _ _ _ _, ?_, ?_, fun i hi => ?_⟩
      · rw [mu_ne (by omega), ms_ne (by decide), h'.2 6 (by decide)]
        exact hT.2.1
      · rw [mu_ne (by omega), ms_ne (by decide), h'.2 7 (by decide)]
        exact hT.2.2.1
      · rw [mu_off (by decide), ms_ne (by decide), h'.1 78 (by decide) (by decide)]
        exact hT.2.2.2 i hi
    have hK : FrK τ s2 := by
      refine FrK.tr ⟨fun o h1 h2 h3 h4 => ?_, hM.2⟩ k2
      rw [h'.1 o h1 h4]
      unfold capS
      rw [mu_off h1, mu_off h1, mu_off h1]
    refine (m_run hd hE hn (n2 c) 100 0 0 1000 (τ 66) N s2 hT2 f66 f69 hO hp (by omega) (by omega) (by omega)).mono (fun r s hq => ?_)
    rcases hr : runC E n 100 0 (τ 66) N with ⟨_ | q, a⟩
    · rw [hr] at hq
      obtain ⟨h1, h2, h3⟩ := hq
      have hk := hK.tr h2
      refine ⟨h1, fun o h5 hs => ?_, hk.2⟩
      by_cases h6 : o = 66
      · rw [h6, h3]
      · exact hk.1 o h5 h6 (fun e => by rw [e] at hs; exact absurd hs (by decide)) (fun e => by rw [e] at hs; exact absurd hs (by decide))
    · rw [hr] at hq
      exact ⟨hq.1, hK.tr hq.2.1, hq.2.2.1, hq.2.2.2⟩
end MCAPE
theorem m_wrong0 {σ : Mem} {d : Nat} (hd : d < 8) (hs : inV (n2 d) 0 7 = true) : p_X12_wrongRow (n2 d) 0 σ = some ((if σ 73 d = 0 then -11 else if σ 73 d = 2 then (if σ 76 d = 0 then 0 else -12) else -12), σ) := by
  unfold p_X12_wrongRow p_X12_wrongRow_B49
  have hm : ¬ ((0 : Int32) < 0) := by decide
  simp (disch := omega) only [m_isShelf, bndE, b2z, hs, if_true, n2_nat, iin, ltE, some_ite, hm, if_false]
theorem st_cape : St1 Inv p_X11_cape p_X12_cape := by
  intro x σ hI
  have hS := hI.2.2
  have bad : ∀ r : Int32, r ≠ 0 → p_X11_refusal x 2 σ = some (r, σ) → p_X12_wrongRow x 0 σ = some (r, σ) → ∃ r s1 s2, p_X11_cape x σ = some (r, s1) ∧ p_X12_cape x s1 = some (r, s2) ∧ Inv s2 := fun r hr h1 h2 => by
    refine st_read hI (r := r) ?_ ?_
    · unfold p_X11_cape
      rw [h1, bndE, if_neg hr]
    · unfold p_X12_cape
      rw [h2, bndE, if_neg hr]
  rcases sh_cases x with h | ⟨d, hd, rfl, h⟩
  · refine bad (-1) (by decide) ?_ ?_
    · unfold p_X11_refusal
      simp only [x_isShelf, bndE, b2z, h]
      rfl
    · unfold p_X12_wrongRow
      simp only [m_isShelf, bndE, b2z, h]
      rfl
  obtain ⟨e, h1⟩ := hS d hd
  have hx := x_ref2 hd h (σ := σ)
  have hm := m_wrong0 hd h (σ := σ)
  rcases h1 with h1 | ⟨h1, -⟩ | ⟨h1, w, n, hw, hn, e4, e76, e5, e77, hel, hby, -⟩
  · refine bad (-11) (by decide) ?_ ?_
    · rw [hx, h1]
      rfl
    · rw [hm, e, h1]
      rfl
  · refine bad (-12) (by decide) ?_ ?_
    · rw [hx, h1]
      rfl
    · rw [hm, e, h1]
      rfl
  by_cases hw0 : w = 0
  · have x0 : p_X11_refusal (n2 d) 2 σ = some (0, σ) := by
      rw [hx, h1]
      rfl
    obtain ⟨⟨N, hL, t, ht, h3⟩, -⟩ := id hI
    have hO : OkS (σ 66) N (σ 66) := ⟨hL.2.1, by rw [ssN_of h3 (by omega)]; exact ht, fun _ _ => rfl⟩
    have hE : ∀ j, j < 100 → By (σ (14 + d) j) (bcd (σ (14 + d) j)) := fun j hj => by_of (hby hw0 j hj).1 (hby hw0 j hj).2
    have hT : Txt σ d n (σ (14 + d)) := ⟨e5, rfl⟩
    have hwr : ∀ s : Mem, s 73 = σ 73 → s 76 = σ 76 → p_X12_wrongRow (n2 d) 0 s = some (0, s) := fun s a b => by
      rw [m_wrong0 hd h, a, b, e, h1, e76, hw0]
      rfl
    have cx : p_X11_cape (n2 d) σ = if brkV (σ (14 + d)) n < 0 then bnd (p_X3_becomes 3 1 σ) (fun (_ : Unit) s20 => (p_X11_cape_L65 (fun (x6 : Int32) (m22 : Mem) => some ((-2000 - x6), m22)) (p_X11_cape_B118 (n2 d)) (n2 d) 1000) (6 + d) 0 0 s20) else some ((-1000 - brkV (σ (14 + d)) n), σ) := by
      unfold p_X11_cape
      rw [x0, bndE, if_pos rfl]
      simp (disch := omega) only [n2_nat, iin]
      rw [ltE, e4, hw0, if_pos (show n2 0 = 0 from rfl), x_broken hT hE hn, bndE]
    rcases brk_cases (E := σ (14 + d)) hn with ⟨f, hf, eb, hb⟩ | ⟨hn0, eb, c, hp⟩
    · have hc : p_X11_cape (n2 d) σ = some (-1000 - n2 f, σ) := by rw [cx, eb, ilt0 (by omega)]
      obtain ⟨r, s, em, hq, hM⟩ := m_capeA hd hn hE (hwr σ rfl rfl) e77 (fun j hj => (hel j hj).symm) hf hb
      exact ⟨_, σ, s, hc, by rw [em, hq], inv_scr hI (FrX.rf σ) hM⟩
    · rw [eb, if_pos (by decide)] at cx
      obtain ⟨r1, s1, ec, hq⟩ : Tm (p_X11_cape (n2 d) σ) (PoCp σ c (runC (σ (14 + d)) n 100 0 (σ 66) N)) := by
        rw [cx]
        refine (x_becomes isC3 isC1 (by decide) hL).bd (fun _ s h => ?_)
        exact x_capeL hd hE hn hT 100 0 0 1000 (σ 66) N s h.2 hO h.1 hp (by omega) (by omega) (by omega) (by omega)
      have go : (∀ o, 65 ≤ o → s1 o = σ o) → Tm (p_X12_cape (n2 d) s1) (PoNc s1 c (runC (σ (14 + d)) n 100 0 (σ 66) N)) := fun hX => by
        have hB := m_capeB hd hn hE (N := N) (hwr s1 (hX 73 (by omega)) (hX 76 (by omega))) (by rw [hX 77 (by omega)]; exact e77) (fun j hj => by rw [hX 78 (by omega)]; exact (hel j hj).symm) hn0 hp (by rw [hX 66 (by omega)]; exact hO)
        rw [hX 66 (by omega)] at hB
        exact hB
      rcases hr : runC (σ (14 + d)) n 100 0 (σ 66) N with ⟨_ | q, a⟩
      · rw [hr] at hq go
        obtain ⟨h2, hF⟩ := hq
        obtain ⟨r2, s2, em, k1, k2⟩ := go (fun o ho => hF o (by unfold capeO; omega))
        exact ⟨r1, s1, s2, ec, by rw [em, k1, h2], inv_scr hI hF.X k2⟩
      · rw [hr] at hq go
        obtain ⟨h2, hL2, hF⟩ := hq
        have hX : ∀ o, 65 ≤ o → s1 o = σ o := fun o ho => hF o (by unfold capeO; omega) (by unfold capeO; omega)
        obtain ⟨r2, s2, em, k1, k2, k3, k4⟩ := go hX
        refine ⟨r1, s1, s2, ec, by rw [em, k1, h2], inv_now hI ⟨q.2, ?_, ?_⟩ ?_ ?_ (fun o ho => ?_)⟩
        · rw [k3]
          exact hL2.same (k2.1 _ (by omega) (by omega) (by omega) (by omega)) (k2.1 _ (by omega) (by omega) (by omega) (by omega)) (k2.1 _ (by omega) (by omega) (by omega) (by omega)) (k2.1 _ (by omega) (by omega) (by omega) (by omega)) (k2.1 _ (by omega) (by omega) (by omega) (by omega))
        · rw [k3]
          exact ⟨ssN q.1, k4.2.1, (ssN_eq k4.1).1⟩
        · rw [k2.1 0 (by omega) (by omega) (by omega) (by omega), hF 0 (by unfold capeO; omega) (by unfold capeO; omega)]
        · rw [k2.2, hX 65 (by omega)]
        · exact (k2.1 o (by omega) (by omega) (by omega) (by omega)).trans (hF o (by unfold capeO; omega) (by unfold capeO; omega))
  · have nw : ¬ n2 w = 0 := fun q => hw0 ((n2_inj (b := 0) (by omega) (by omega)).mp q)
    have x0 : p_X11_refusal (n2 d) 2 σ = some (0, σ) := by
      rw [hx, h1]
      rfl
    refine st_read hI (r := (-12 : Int32)) ?_ ?_
    · unfold p_X11_cape
      rw [x0, bndE, if_pos rfl]
      simp (disch := omega) only [n2_nat, iin]
      rw [ltE, e4, if_neg nw]
    · unfold p_X12_cape
      rw [hm, e, h1, e76, if_neg (by decide), if_pos rfl, if_neg nw, bndE, if_neg (by decide)]
