/-! the image; one more -/
theorem st_image : St0 Inv p_X11_image p_X12_image := by
  intro σ hI
  obtain ⟨N, t, hL, -, h3, -, ht⟩ := getI hI
  have hA : CL3 σ 1 N (cpr (σ 66) (σ 68)) := hL.congr (fun k hk => cpr_lt hk)
  obtain ⟨v, s, e, h2, hf⟩ := x_becomes isC2 isC1 (by decide) hA
  have e66 : s 66 = σ 66 := hf 66 (by unfold capeO; omega)
  have e68 : s 68 = σ 68 := hf 68 (by unfold capeO; omega)
  have e1 : s 1 = σ 1 := hf 1 (by unfold capeO; omega)
  have e19 : σ 1 9 = n2 t := hL.1.2.2.2.2.2.2.2.trans h3
  have hF : ∀ o, o ≠ 0 → o ≠ 65 → o ≠ 68 → mu (ms (mu s 0 5 1) 68 (cpr (σ 66) (σ 68))) 65 4 1 o = s o := fun o a b c => by rw [mu_off b, ms_ne c, mu_off a]
  have hG : ∀ o, o ≠ 0 → o ≠ 65 → o ≠ 68 → ¬ capeO 2 o → mu (ms (mu s 0 5 1) 68 (cpr (σ 66) (σ 68))) 65 4 1 o = σ o := fun o a b c d => (hF o a b c).trans (hf o d)
  refine ⟨n2 t, mu s 0 5 1, mu (ms (mu s 0 5 1) 68 (cpr (σ 66) (σ 68))) 65 4 1, ?_, ?_, ⟨N, ?_, ?_⟩, Or.inr ⟨?_, ?_, N, ?_, ?_⟩, fun d hd => ?_⟩
  · unfold p_X11_image
    rw [e, bndE]
    simp only [wrE, ltE]
    rw [mu_off (by decide), e1, e19]
  · unfold p_X12_image
    rw [m_copy (by decide), bndE, mu_off (by decide), mu_off (by decide), e66, e68]
    simp (disch := omega) only [wrE, ii3, c3, ltE, mu_off, ms_ne, e66, h3]
  · rw [hG 66 (by decide) (by decide) (by decide) (by unfold capeO; omega)]
    refine hL.same ?_ ?_ ?_ ?_ ?_ <;> exact hG _ (by decide) (by decide) (by decide) (by unfold capeO; omega)
  · rw [hG 66 (by decide) (by decide) (by decide) (by unfold capeO; omega)]
    exact ⟨t, ht, h3⟩
  · rw [mu_off (by decide), ms_ne (by decide), mu_at]
  · rw [mu_at]
  · rw [mu_off (by decide), ms_at]
    refine h2.same ?_ ?_ ?_ ?_ ?_ <;> exact hF _ (by decide) (by decide) (by decide)
  · rw [mu_off (by decide), ms_at]
    exact ⟨t, ht, (cpr_lt (by omega)).trans h3⟩
  · have g : ∀ o, o ≠ 0 → o ≠ 65 → o ≠ 68 → (o < 26 ∨ 36 ≤ o) → o ≠ 2 → mu (ms (mu s 0 5 1) 68 (cpr (σ 66) (σ 68))) 65 4 1 o = σ o := fun o a b c d d2 => hG o a b c (by unfold capeO; omega)
    refine (hI.2.2 d hd).frame (g _ (by omega) (by omega) (by omega) (by omega) (by omega)) (g _ (by omega) (by omega) (by omega) (by omega) (by omega)) ?_ ?_ ?_ ?_ ?_ (fun j hj => ?_)
    · rw [g 73 (by omega) (by omega) (by omega) (by omega) (by omega)]
    · rw [g 74 (by omega) (by omega) (by omega) (by omega) (by omega)]
    · rw [g 75 (by omega) (by omega) (by omega) (by omega) (by omega)]
    · rw [g 76 (by omega) (by omega) (by omega) (by omega) (by omega)]
    · rw [g 77 (by omega) (by omega) (by omega) (by omega) (by omega)]
    · rw [g 78 (by omega) (by omega) (by omega) (by omega) (by omega)]
theorem st_restore : St0 Inv p_X11_restore p_X12_restore := by
  intro σ hI
  rcases id hI.2.1 with ⟨a, b⟩ | ⟨a, b, N, hL, t, ht, h3⟩
  · refine st_read hI (r := (-3 : Int32)) ?_ ?_
    · unfold p_X11_restore
      simp only [ltE, a]
      rfl
    · unfold p_X12_restore
      simp only [ltE, b]
      rfl
  · have hA : CL3 σ 2 N (cpr (σ 68) (σ 66)) := hL.congr (fun k hk => cpr_lt hk)
    obtain ⟨v, s, e, h2, hf⟩ := x_becomes isC1 isC2 (by decide) hA
    have e66 : s 66 = σ 66 := hf 66 (by unfold capeO; omega)
    have e68 : s 68 = σ 68 := hf 68 (by unfold capeO; omega)
    have e65 : s 65 = σ 65 := hf 65 (by unfold capeO; omega)
    have k3 : cpr (σ 68) (σ 66) 3 = n2 t := (cpr_lt (by omega)).trans h3
    refine ⟨n2 t, s, ms s 66 (cpr (σ 68) (σ 66)), ?_, ?_, inv_now hI ⟨N, ?_, ?_⟩ ?_ ?_ (fun o ho => ?_)⟩
    · have h19 : s 1 9 = n2 t := h2.1.2.2.2.2.2.2.2.trans k3
      unfold p_X11_restore
      simp only [ltE, a]
      rw [if_neg (by decide), e, bndE, h19]
    · unfold p_X12_restore
      simp only [ltE, e65, b]
      rw [if_neg (by decide), m_copy (by decide), bndE, e66, e68]
      simp (disch := omega) only [ii3, c3, ltE, ms_at, k3]
    · rw [ms_at]
      exact h2.same (ms_ne (by decide)) (ms_ne (by decide)) (ms_ne (by decide)) (ms_ne (by decide)) (ms_ne (by decide))
    · rw [ms_at]
      exact ⟨t, ht, k3⟩
    · rw [ms_ne (by decide), hf 0 (by unfold capeO; omega)]
    · rw [ms_ne (by decide), e65]
    · rw [ms_ne (by omega), hf o (by unfold capeO; omega)]
def addR (R : Nat → Int32) (N k f : Nat) (b : Int32) : Nat → Int32 := upd (upd (upd (upd (upd R (4 + 4 * N + 0) (n2 k)) (4 + 4 * N + 1) (n2 f)) (4 + 4 * N + 2) b) (4 + 4 * N + 3) 0) 0 (n2 (N + 1))
theorem add_0 (R : Nat → Int32) (N k f : Nat) (b : Int32) : addR R N k f b 0 = n2 (N + 1) := upd_at _ _ _
theorem add_ne {R : Nat → Int32} {N k f i : Nat} {b : Int32} (h0 : i ≠ 0) (h : i < 4 + 4 * N ∨ 4 + 4 * N + 4 ≤ i) : addR R N k f b i = R i := by
  unfold addR
  rw [upd_ne (by omega), upd_ne (by omega), upd_ne (by omega), upd_ne (by omega), upd_ne (by omega)]
theorem add_kd {R : Nat → Int32} {N k f : Nat} {b : Int32} : kd (addR R N k f b) N = n2 k := by
  unfold kd addR
  rw [upd_ne (by omega), upd_ne (by omega), upd_ne (by omega), upd_ne (by omega), upd_at]
theorem add_fg {R : Nat → Int32} {N k f : Nat} {b : Int32} : fg (addR R N k f b) N = n2 f := by
  unfold fg addR
  rw [upd_ne (by omega), upd_ne (by omega), upd_ne (by omega), upd_at]
theorem add_bt {R : Nat → Int32} {N k f : Nat} {b : Int32} : bt (addR R N k f b) N = b := by
  unfold bt addR
  rw [upd_ne (by omega), upd_ne (by omega), upd_at]
theorem add_lo {R : Nat → Int32} {N k f : Nat} {b : Int32} : lo (addR R N k f b) N = 0 := by
  unfold lo addR
  rw [upd_ne (by omega), upd_at]
theorem OkR.add {R : Nat → Int32} {N k f : Nat} {b : Int32} (h : OkR R N) (hN : N < 8) (hk : k < 8) (hf : f < 10) (hb : b = 0 ∨ b = 1 ∨ b = 2 ∨ b = 9) : OkR (addR R N k f b) (N + 1) := by
  obtain ⟨a1, a2, a3, a4, a5, a6, a7⟩ := h
  refine ⟨add_0 _ _ _ _ _, by omega, fun q hq => ?_, fun q hq => ?_, by rw [add_ne (by omega) (by omega)]; exact a5, by rw [add_ne (by omega) (by omega)]; exact a6, by rw [add_ne (by omega) (by omega)]; exact a7⟩
  · by_cases e : q = N
    · subst e
      rw [add_kd, add_fg, add_bt, add_lo]
      exact ⟨⟨k, hk, rfl⟩, ⟨f, hf, rfl⟩, hb, Or.inl rfl⟩
    · have h1 := a3 q (by omega)
      unfold kd fg bt lo at h1 ⊢
      rw [add_ne (by omega) (by omega), add_ne (by omega) (by omega), add_ne (by omega) (by omega), add_ne (by omega) (by omega)]
      exact h1
  · rw [add_ne (by omega) (by omega)]
    exact a4 q hq
theorem add_lost {R : Nat → Int32} {N k f : Nat} {b : Int32} : lostV (addR R N k f b) (N + 1) = lostV R N := by
  refine set_ext (fun q => ?_)
  unfold lostV
  rw [set_bit, set_bit]
  by_cases e : q = N
  · subst e
    rw [add_lo]
    simp
  · by_cases h : q < N
    · have : lo (addR R N k f b) q = lo R q := by
        unfold lo
        rw [add_ne (by omega) (by omega)]
      rw [this, decide_eq_true h, decide_eq_true (show q < N + 1 by omega)]
    · rw [decide_eq_false h, decide_eq_false (show ¬ q < N + 1 by omega)]
      rfl
def addM (c : Nat) (σ : Mem) (N k f : Nat) : Mem := mu (mu (mu (mu σ (24 + c) N (n2 k)) (27 + c) N (n2 f)) (30 + c) N 9) c 5 (n2 (N + 1))
theorem CL3.add {σ : Mem} {c N k f : Nat} {R : Nat → Int32} (hc : isC c) (h : CL3 σ c N R) (hN : N < 8) (hk : k < 8) (hf : f < 10) : CL3 (addM c σ N k f) c (N + 1) (addR R N k f 9) ∧ FrC c σ (addM c σ N k f) := by
  have hR := h.2.1.add hN hk hf (b := 9) (Or.inr (Or.inr (Or.inr rfl)))
  obtain ⟨hc1, hc3⟩ := hc
  obtain ⟨⟨a1, a2, a3, a4, a5, a6, a7, a8⟩, -, hl⟩ := h
  have oc : ∀ j, j ≠ 5 → addM c σ N k f c j = σ c j := fun j hj => by
    unfold addM
    rw [mu_ne (by omega), mu_off (by omega), mu_off (by omega), mu_off (by omega)]
  refine ⟨⟨⟨hR.1, by omega, ?_, fun q hq => ?_, fun q hq => ?_, ?_, ?_, ?_⟩, hR, ?_⟩, fun o ho => ?_⟩
  · unfold addM
    rw [mu_at]
  · have e1 : addM c σ N k f (24 + c) = upd (σ (24 + c)) N (n2 k) := by
      unfold addM
      rw [mu_off (by omega), mu_off (by omega), mu_off (by omega), mu_row]
    have e2 : addM c σ N k f (27 + c) = upd (σ (27 + c)) N (n2 f) := by
      unfold addM
      rw [mu_off (by omega), mu_off (by omega), mu_row, mu_off (by omega)]
    have e3 : addM c σ N k f (30 + c) = upd (σ (30 + c)) N 9 := by
      unfold addM
      rw [mu_off (by omega), mu_row, mu_off (by omega), mu_off (by omega)]
    rw [e1, e2, e3]
    by_cases e : q = N
    · subst e
      rw [upd_at, upd_at, upd_at, add_kd, add_fg, add_bt]
      exact ⟨rfl, rfl, rfl⟩
    · rw [upd_ne e, upd_ne e, upd_ne e]
      have h1 := a4 q (by omega)
      unfold kd fg bt at h1 ⊢
      rw [add_ne (by omega) (by omega), add_ne (by omega) (by omega), add_ne (by omega) (by omega)]
      exact h1
  · have e1 : addM c σ N k f (33 + c) = σ (33 + c) := by
      unfold addM
      rw [mu_off (by omega), mu_off (by omega), mu_off (by omega), mu_off (by omega)]
    rw [e1, add_ne (by omega) (by omega)]
    exact a5 q hq
  · rw [oc 7 (by decide), add_ne (by omega) (by omega)]
    exact a6
  · rw [oc 8 (by decide), add_ne (by omega) (by omega)]
    exact a7
  · rw [oc 9 (by decide), add_ne (by omega) (by omega)]
    exact a8
  · rw [oc 6 (by decide), hl, add_lost]
  · unfold capeO at ho
    unfold addM
    rw [mu_off (by omega), mu_off (by omega), mu_off (by omega), mu_off (by omega)]
theorem kind_in : ∀ k < 8, inV (n2 k) 0 7 = true := by decide +kernel
theorem fig_in : ∀ k < 10, inV (n2 k) 0 9 = true := by decide +kernel
theorem ilt8 {α : Type} {a : Nat} {A B : α} (h : a < 2147483648) : (if n2 a < 8 then A else B) = if a < 8 then A else B := iltq (b := 8) ⟨h, by omega⟩
theorem x_adds {σ : Mem} {c N k f : Nat} {R : Nat → Int32} (hc : isC c) (h : CL3 σ c N R) (hk : k < 8) (hf : f < 10) : p_X3_adds c (n2 k) (n2 f) σ = if N < 8 then some (n2 N, addM c σ N k f) else some (-2, σ) := by
  have h8 := h.le8
  obtain ⟨hc1, hc3⟩ := hc
  unfold p_X3_adds
  simp (disch := omega) only [x_isKind, bndE, b2z, kind_in k hk, if_true, x_within, fig_in f hf, ltE, h.sizeq, ilt8]
  by_cases hN : N < 8
  · have e : n2 (N + 1) - 1 = n2 N := n2_sub (a := N + 1) (b := 1) (by omega) (by omega)
    have o1 : mu σ (24 + c) N (n2 k) c 5 = n2 N := by rw [mu_off (by omega)]; exact h.sizeq
    have o2 : mu (mu σ (24 + c) N (n2 k)) (27 + c) N (n2 f) c 5 = n2 N := by rw [mu_off (by omega)]; exact o1
    have o3 : mu (mu (mu σ (24 + c) N (n2 k)) (27 + c) N (n2 f)) (30 + c) N 9 c 5 = n2 N := by rw [mu_off (by omega)]; exact o2
    simp (disch := omega) only [if_pos hN, n2_nat, iin, wrE, o1, o2, o3, n2_succ, mu_at, e]
    rfl
  · rw [if_neg hN, if_neg hN]
theorem m_adds {σ : Mem} {r N k f : Nat} (b : Int32) (h : σ r 0 = n2 N) (hN : N < 8) : p_X12_adds r (n2 k) (n2 f) b σ = some ((), ms σ r (addR (σ r) N k f b)) := by
  unfold p_X12_adds
  simp (disch := omega) only [ii0, ltE, c0, h, m_of0, m_of1, m_of2, m_of3, bndE, n2_nat, iin, wrE, mu_ms, ms_at, ms_ms, upd_ne, n2_succ]
  rfl
theorem st_comes : St1 Inv p_X11_comes p_X12_comes := by
  intro a σ hI
  have hS := hI.2.2
  obtain ⟨N, t, hL, -, h3, -, ht⟩ := getI hI
  have h8 := hL.le8
  by_cases h0 : refS σ a = 0
  · obtain ⟨d, hd, rfl, k, f, hk, hf, e1, e2, e3, e4⟩ := refS_0 hS h0
    by_cases hN : N < 8
    · have hA := hL.add isC1 hN hk hf
      have hf1 := hA.2
      have e66 : addM 1 σ N k f 66 = σ 66 := hf1 66 (by unfold capeO; omega)
      have e74 : addM 1 σ N k f 74 = σ 74 := hf1 74 (by unfold capeO; omega)
      have e75 : addM 1 σ N k f 75 = σ 75 := hf1 75 (by unfold capeO; omega)
      have e73 : refS (addM 1 σ N k f) (n2 d) = 0 := by
        unfold refS at h0 ⊢
        rw [hf1 73 (by unfold capeO; omega)]
        exact h0
      have e0 : addM 1 σ N k f 66 0 = n2 N := by rw [e66]; exact hL.2.1.1
      refine ⟨n2 N, addM 1 σ N k f, ms (addM 1 σ N k f) 66 (addR (σ 66) N k f 9), ?_, ?_, inv_now hI ⟨N + 1, ?_, ?_⟩ ?_ ?_ (fun o ho => ?_)⟩
      · unfold p_X11_comes
        simp (disch := omega) only [x_refS hS, bndE, h0, if_true, n2_nat, iin, ltE, e1, e3, x_adds isC1 hL hk hf, if_pos hN]
      · have e8 : ¬ n2 N = 8 := fun e => by have := (n2_inj (a := N) (b := 8) (by omega) (by omega)).mp e; omega
        have em : n2 (N + 1) - 1 = n2 N := n2_sub (a := N + 1) (b := 1) (by omega) (by omega)
        have hm := m_adds (k := k) (f := f) (b := 9) e0 hN
        rw [e66] at hm
        unfold p_X12_comes
        simp (disch := omega) only [m_refS, bndE, e73, if_true, ii0, c0, n2_nat, iin, ltE, e0, if_neg e8, e74, e75, e2, e4, hm, ms_at, add_0, em]
      · rw [ms_at]
        exact hA.1.same (ms_ne (by decide)) (ms_ne (by decide)) (ms_ne (by decide)) (ms_ne (by decide)) (ms_ne (by decide))
      · rw [ms_at]
        exact ⟨t, ht, (add_ne (by omega) (by omega)).trans h3⟩
      · rw [ms_ne (by decide), hf1 0 (by unfold capeO; omega)]
      · rw [ms_ne (by decide), hf1 65 (by unfold capeO; omega)]
      · rw [ms_ne (by omega), hf1 o (by unfold capeO; omega)]
    · refine st_read hI (r := (-2 : Int32)) ?_ ?_
      · unfold p_X11_comes
        simp (disch := omega) only [x_refS hS, bndE, h0, if_true, n2_nat, iin, ltE, e1, e3, x_adds isC1 hL hk hf, if_neg hN]
      · have e0 : σ 66 0 = 8 := by rw [hL.2.1.1, show N = 8 by omega]; rfl
        unfold p_X12_comes
        simp (disch := omega) only [m_refS, bndE, h0, if_true, ii0, c0, ltE, e0]
  · refine st_read hI (r := refS σ a) ?_ ?_
    · unfold p_X11_comes
      simp only [x_refS hS, bndE, h0, if_false]
    · unfold p_X12_comes
      simp only [m_refS, bndE, h0, if_false]
