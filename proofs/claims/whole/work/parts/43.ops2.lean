/-! calls about seasons on -/
theorem in_n2 {lo hi : Nat} (h1 : lo < 2147483648) (h2 : hi < 2147483648) {x : Int32} (h : inV x (n2 lo) (n2 hi) = true) : ∃ v, lo ≤ v ∧ v ≤ hi ∧ x = n2 v := by
  unfold inV at h
  simp only [Bool.and_eq_true, Bool.not_eq_true', decide_eq_false_iff_not] at h
  rw [Int32.lt_iff_toInt_lt, Int32.lt_iff_toInt_lt, n2_int h1, n2_int h2] at h
  refine ⟨x.toInt.toNat, by omega, by omega, ?_⟩
  apply Int32.toInt_inj.mp
  rw [n2_int (by omega)]
  omega
def mnd (σ : Mem) : Nat → Int32 := cpr (σ 66) (σ 67)
theorem getI {σ : Mem} (hI : Inv σ) : ∃ N s, CL3 σ 1 N (σ 66) ∧ CL3 σ 1 N (mnd σ) ∧ σ 66 3 = n2 s ∧ mnd σ 3 = n2 s ∧ s ≤ 999 := by
  obtain ⟨⟨N, hL, s, hs, h3⟩, -⟩ := hI
  exact ⟨N, s, hL, hL.congr (fun k hk => cpr_lt hk), h3, h3, hs⟩
theorem m_mind {σ s : Mem} (hX : FrX σ s) : p_X12_copies 66 67 s = some ((), ms s 67 (mnd σ)) := by
  rw [m_copy (by decide), hX 66 (by decide), hX 67 (by decide)]
  rfl
theorem m_mind2 {σ s : Mem} {B : Nat → Int32} (hX : FrX σ s) (hB : ∀ k, 100 ≤ k → B k = mnd σ k) : p_X12_copies 66 67 (ms s 67 B) = some ((), ms s 67 (mnd σ)) := by
  rw [m_copy (by decide), ms_ms, ms_at, ms_ne (by decide), hX 66 (by decide)]
  unfold mnd
  rw [cpr_of (B := σ 67) (fun k hk => (hB k hk).trans (cpr_ge hk))]
theorem m_on {s : Mem} {A : Nat → Int32} {N n t : Nat} (h : OkR A N) (h3 : A 3 = n2 t) (ht : t + n < 2000) (hn : n < 1000) : p_X12_seasonsOn 67 (n2 n) (ms s 67 A) = some ((), ms s 67 (seR N n A)) := by
  have h1 := m_seasonsOn (r := 67) (N := N) (n := n) (s := t) (σ := ms s 67 A) (by rw [ms_at]; exact h) (by rw [ms_at]; exact h3) ht hn
  rw [ms_at, ms_ms] at h1
  exact h1
theorem m_lostM {s : Mem} {A : Nat → Int32} {N : Nat} (h : OkR A N) : p_X12_lostSet 67 (ms s 67 A) = some (n2 (lostV A N), ms s 67 A) := by
  have h1 := m_lostSet (r := 67) (N := N) (σ := ms s 67 A) (by rw [ms_at]; exact h)
  rw [ms_at] at h1
  exact h1
theorem m_lostBehind {s : Mem} {A : Nat → Int32} {N n t : Nat} (h : OkR A N) (h3 : A 3 = n2 t) (ht : t + n < 2000) (hn : n < 1000) : p_X12_lostBehind (n2 n) (ms s 67 A) = some (n2 (pop (lostV (seR N n A) N)), ms s 67 (seR N n A)) := by
  have h1 := (seR_ok h h3 ht).1
  unfold p_X12_lostBehind
  simp only [m_on h h3 ht hn, bndE, m_lostM h1, m_pop (lost_lt h1.2.1)]
theorem isC1 : isC 1 := ⟨by decide, by decide⟩
theorem isC2 : isC 2 := ⟨by decide, by decide⟩
theorem isC3 : isC 3 := ⟨by decide, by decide⟩
theorem x_mind {σ τ : Mem} {N : Nat} {A : Nat → Int32} (h : CL3 σ 1 N A) (hf : FrC 3 σ τ) : Tm (p_X3_becomes 3 1 τ) (fun _ s => CL3 s 3 N A ∧ FrC 3 σ s) :=
  (x_becomes isC3 isC1 (by decide) (h.off isC3 isC1 (by decide) hf)).mono (fun _ _ q => ⟨q.1, hf.tr q.2⟩)
theorem n2_60 {x : Int32} (h : inV x 0 60 = true) : ∃ n, n ≤ 60 ∧ x = n2 n := by
  obtain ⟨v, -, h2, h3⟩ := in_n2 (lo := 0) (hi := 60) (by decide) (by decide) h
  exact ⟨v, h2, h3⟩
theorem st_lostIn : St1 Inv p_X11_lostIn p_X12_lostIn := by
  intro x σ hI
  obtain ⟨N, t, hL, hA, h3, hA3, ht⟩ := getI hI
  cases hx : inV x 0 60
  · refine st_read hI (r := (-1 : Int32)) ?_ ?_
    · unfold p_X11_lostIn
      simp only [x_within, bndE, b2z, hx]
      rfl
    · unfold p_X12_lostIn
      simp only [m_isIn, bndE, b2z, hx]
      rfl
  · obtain ⟨n, hn, rfl⟩ := n2_60 hx
    refine st_scr hI (r := n2 (pop (lostV (seR N n (mnd σ)) N))) ?_ (fun s hX => ?_)
    · unfold p_X11_lostIn
      simp only [x_within, bndE, b2z, hx, if_true]
      refine (x_mind hA (FrC.rf 3 σ)).bd (fun _ s1 h1 => ?_)
      refine (x_sails isC3 h1.1 hA3 (by omega) (by omega)).bd (fun _ s2 h2 => ?_)
      rw [h2.1.lostOnesq, bndE]
      exact Tm.ret ⟨rfl, (h1.2.tr h2.2).X⟩
    · unfold p_X12_lostIn
      simp only [m_isIn, bndE, b2z, hx, if_true, m_mind hX, m_lostBehind hA.2.1 hA3 (show t + n < 2000 by omega) (show n < 1000 by omega)]
      exact Tm.ret ⟨rfl, (FrM.rf s).r rfl⟩
theorem st_behind : St2 Inv p_X11_behind p_X12_behind := by
  intro a x σ hI
  obtain ⟨N, t, hL, hA, h3, hA3, ht⟩ := getI hI
  have h8 := hL.le8
  cases ha : manV N a
  · refine st_read hI (r := (-1 : Int32)) ?_ ?_
    · unfold p_X11_behind
      simp only [x_has hL.1, bndE, b2z, ha]
      rfl
    · unfold p_X12_behind
      simp only [m_isMan hL.2.1.1 h8, bndE, b2z, ha]
      rfl
  · cases hx : inV x 0 60
    · refine st_read hI (r := (-1 : Int32)) ?_ ?_
      · unfold p_X11_behind
        simp only [x_has hL.1, bndE, b2z, ha, if_true, x_within, hx]
        rfl
      · unfold p_X12_behind
        simp only [m_isMan hL.2.1.1 h8, bndE, b2z, ha, if_true, m_isIn, hx]
        rfl
    · obtain ⟨n, hn, rfl⟩ := n2_60 hx
      obtain ⟨p, hp, rfl⟩ := man_n2 h8 ha
      refine st_scr hI (r := if lo (seR N n (mnd σ)) p = 1 then -4 else bt (seR N n (mnd σ)) p) ?_ (fun s hX => ?_)
      · unfold p_X11_behind
        simp only [x_has hL.1, bndE, b2z, ha, if_true, x_within, hx]
        refine (x_mind hA (FrC.rf 3 σ)).bd (fun _ s1 h1 => ?_)
        refine (x_sails isC3 h1.1 hA3 (by omega) (by omega)).bd (fun _ s2 h2 => ?_)
        have hb : s2 33 p = bt (seR N n (mnd σ)) p := h2.1.btq hp
        simp (disch := omega) only [x_isLost h2.1 hp, bndE, b2z, decide_eq_true_eq, n2_nat, iin, ltE, hb]
        split
        · exact Tm.ret ⟨rfl, (h1.2.tr h2.2).X⟩
        · exact Tm.ret ⟨rfl, (h1.2.tr h2.2).X⟩
      · have h66 : s 66 0 = n2 N := by rw [hX 66 (by decide)]; exact hL.2.1.1
        unfold p_X12_behind
        simp (disch := omega) only [m_isMan h66 h8, bndE, b2z, ha, if_true, m_isIn, hx, m_mind hX, m_on hA.2.1 hA3 (show t + n < 2000 by omega) (show n < 1000 by omega), m_of3, m_of2, n2_nat, iin, ltE, ms_at]
        show Tm (if lo (seR N n (mnd σ)) p = 1 then _ else _) _
        split
        · exact Tm.ret ⟨rfl, (FrM.rf s).r rfl⟩
        · exact Tm.ret ⟨rfl, (FrM.rf s).r rfl⟩
theorem st_falls : St2 Inv p_X11_falls p_X12_falls := by
  intro x w σ hI
  obtain ⟨N, t, hL, hA, h3, hA3, ht⟩ := getI hI
  have h8 := hL.le8
  cases hx : inV x 0 2
  · refine st_read hI (r := (-1 : Int32)) ?_ ?_
    · unfold p_X11_falls
      simp only [x_isBoat, bndE, b2z, hx]
      rfl
    · unfold p_X12_falls
      simp only [m_isBoat, bndE, b2z, hx]
      rfl
  · cases hw : inV w 0 1
    · refine st_read hI (r := (-1 : Int32)) ?_ ?_
      · unfold p_X11_falls
        simp only [x_isBoat, bndE, b2z, hx, if_true, x_isPart, hw]
        rfl
      · unfold p_X12_falls
        simp only [m_isBoat, bndE, b2z, hx, if_true, m_isIn, hw]
        rfl
    · have e9 : σ 1 9 = n2 t := hL.1.2.2.2.2.2.2.2.trans h3
      have hF : ∀ p, falV (σ 66) N x (t + 1) = some p → p < N ∧ bt (σ 66) p = x ∧ 0 < riskN (σ 66) p (t + 1) := fun p hp => ⟨(falV_ok hp).1, (falV_ok hp).2.1, (falV_ok hp).2.2.1⟩
      refine st_read hI (r := match falV (σ 66) N x (t + 1) with
        | none => -4
        | some p => if w = 0 then n2 p else oe (savV (σ 66) N p (t + 1))) ?_ ?_
      · unfold p_X11_falls
        simp only [x_isBoat, bndE, b2z, hx, if_true, x_isPart, hw, ltE, e9, n2_succ, x_faller x isC1 hL (show t + 1 < 2000 by omega)]
        generalize falV (σ 66) N x (t + 1) = a at hF ⊢
        cases a with
        | none => rfl
        | some p =>
          obtain ⟨hp, hb, hr⟩ := hF p rfl
          simp (disch := omega) only [oe_some, ilt0, x_saver isC1 hL hp (show t + 1 < 2000 by omega) hr, bndE]
          split <;> rfl
      · unfold p_X12_falls p_X12_falls_B43
        simp (disch := omega) only [m_isBoat, bndE, b2z, hx, if_true, m_isIn, hw, ii3, c3, ltE, h3, n2_succ, m_fallsIn x hL.2.1 (show t + 1 < 2000 by omega)]
        generalize falV (σ 66) N x (t + 1) = a at hF ⊢
        cases a with
        | none => rfl
        | some p =>
          obtain ⟨hp, hb, hr⟩ := hF p rfl
          have hsv := m_saverOf hL.2.1 hp (show t + 1 < 2000 by omega)
          rw [hb] at hsv
          simp (disch := omega) only [oe_some, ilt0, hsv, bndE]
          split <;> rfl
theorem st_seasons : St1 Inv p_X11_seasons p_X12_seasons := by
  intro x σ hI
  obtain ⟨N, t, hL, hA, h3, hA3, ht⟩ := getI hI
  have h8 := hL.le8
  cases hx : inV x 1 60
  · refine st_read hI (r := (-1 : Int32)) ?_ ?_
    · unfold p_X11_seasons p_X3_passes
      simp only [x_within, bndE, b2z, hx]
      rfl
    · unfold p_X12_seasons
      simp only [m_isIn, bndE, b2z, hx]
      rfl
  · obtain ⟨n, hn1, hn, rfl⟩ := in_n2 (lo := 1) (hi := 60) (by decide) (by decide) hx
    have e9 : σ 1 9 = n2 t := hL.1.2.2.2.2.2.2.2.trans h3
    have hle : ∀ (α : Type) (A B : α), (if n2 t + n2 n ≤ 999 then A else B) = if t + n ≤ 999 then A else B := fun α A B => by
      rw [n2_add]
      exact ileq (b := 999) ⟨by omega, by omega⟩
    by_cases hk : t + n ≤ 999
    · have hR := seR_ok (n := n) hL.2.1 h3 (by omega)
      have hx1 : Tm (p_X11_seasons (n2 n) σ) (fun v s => v = n2 (pop (lostV (seR N n (σ 66)) N)) ∧ CL3 s 1 N (seR N n (σ 66)) ∧ FrC 1 σ s) := by
        unfold p_X11_seasons p_X3_passes
        simp only [x_within, bndE, b2z, hx, if_true, ltE, e9, hle, if_pos hk]
        obtain ⟨v, s, e, h1⟩ := x_sails isC1 hL h3 (show t + n < 2000 by omega) (show n < 1000 by omega)
        rw [e, bndE, h1.1.lostOnesq]
        exact Tm.ret ⟨rfl, h1⟩
      obtain ⟨v, s, e, rfl, h1, hf⟩ := hx1
      have e66 : s 66 = σ 66 := hf 66 (by unfold capeO; omega)
      refine ⟨_, s, ms s 66 (seR N n (σ 66)), e, ?_, ?_⟩
      · have m1 := m_seasonsOn (r := 66) (N := N) (n := n) (s := t) (σ := s) (by rw [e66]; exact hL.2.1) (by rw [e66]; exact h3) (by omega) (by omega)
        have m2 := m_lostSet (r := 66) (N := N) (σ := ms s 66 (seR N n (σ 66))) (by rw [ms_at]; exact hR.1)
        rw [ms_at] at m2
        rw [e66] at m1
        unfold p_X12_seasons
        simp (disch := omega) only [m_isIn, bndE, b2z, hx, if_true, ii3, c3, ltE, e66, h3, hle, if_pos hk, m1, m2, m_pop (lost_lt h8)]
      · refine inv_now hI ⟨N, ?_, ?_⟩ ?_ ?_ (fun o ho => ?_)
        · rw [ms_at]
          exact CL3.same h1 (ms_ne (by decide)) (ms_ne (by decide)) (ms_ne (by decide)) (ms_ne (by decide)) (ms_ne (by decide))
        · rw [ms_at]
          exact ⟨t + n, hk, hR.2.1⟩
        · rw [ms_ne (by decide), hf 0 (by unfold capeO; omega)]
        · rw [ms_ne (by decide), hf 65 (by unfold capeO; omega)]
        · rw [ms_ne (by omega), hf o (by unfold capeO; omega)]
    · refine st_read hI (r := (-3 : Int32)) ?_ ?_
      · unfold p_X11_seasons p_X3_passes
        simp only [x_within, bndE, b2z, hx, if_true, ltE, e9, hle, if_neg hk]
      · unfold p_X12_seasons
        simp (disch := omega) only [m_isIn, bndE, b2z, hx, if_true, ii3, c3, ltE, h3, hle, if_neg hk]
