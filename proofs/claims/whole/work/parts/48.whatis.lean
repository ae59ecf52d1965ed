/-! what he is -/
theorem OkR.kf {R : Nat → Int32} {N p w v : Nat} (h : OkR R N) (hp : p < N) (hw : w < 2) (hv : v < 10) (hv0 : w = 0 → v < 8) : OkR (upd R (4 + 4 * p + w) (n2 v)) N := by
  obtain ⟨a1, a2, a3, a4, a5, a6, a7⟩ := h
  refine ⟨by rw [upd_ne (by omega)]; exact a1, a2, fun q hq => ?_, fun q hq => ?_, by rw [upd_ne (by omega)]; exact a5, by rw [upd_ne (by omega)]; exact a6, by rw [upd_ne (by omega)]; exact a7⟩
  · obtain ⟨b1, b2', b3, b4⟩ := a3 q hq
    refine ⟨?_, ?_, ?_, ?_⟩
    · unfold kd at b1 ⊢
      by_cases e : 4 + 4 * q + 0 = 4 + 4 * p + w
      · rw [e, upd_at]
        exact ⟨v, hv0 (by omega), rfl⟩
      · rw [upd_ne e]
        exact b1
    · unfold fg at b2' ⊢
      by_cases e : 4 + 4 * q + 1 = 4 + 4 * p + w
      · rw [e, upd_at]
        exact ⟨v, hv, rfl⟩
      · rw [upd_ne e]
        exact b2'
    · unfold bt at b3 ⊢
      rw [upd_ne (by omega)]
      exact b3
    · unfold lo bt at b4 ⊢
      rw [upd_ne (by omega), upd_ne (by omega)]
      exact b4
  · rw [upd_ne (by omega)]
    exact a4 q hq
theorem CL3.kf {σ : Mem} {c N p w v : Nat} {R : Nat → Int32} (hc : isC c) (h : CL3 σ c N R) (hp : p < N) (hw : w < 2) (hv : v < 10) (hv0 : w = 0 → v < 8) : CL3 (mu σ (24 + 3 * w + c) p (n2 v)) c N (upd R (4 + 4 * p + w) (n2 v)) := by
  obtain ⟨hc1, hc3⟩ := hc
  have hR := h.2.1.kf hp hw hv hv0
  obtain ⟨⟨a1, a2, a3, a4, a5, a6, a7, a8⟩, -, hl⟩ := h
  have oc : mu σ (24 + 3 * w + c) p (n2 v) c = σ c := mu_off (by omega)
  refine ⟨⟨hR.1, a2, by rw [oc]; exact a3, fun q hq => ⟨?_, ?_, ?_⟩, fun q hq => ?_, ?_, ?_, ?_⟩, hR, ?_⟩
  · unfold kd
    by_cases e : w = 0 ∧ q = p
    · obtain ⟨rfl, rfl⟩ := e
      rw [mu_at, upd_at]
    · rw [mu_ne (by omega), upd_ne (by omega)]
      exact (a4 q hq).1
  · unfold fg
    by_cases e : w = 1 ∧ q = p
    · obtain ⟨rfl, rfl⟩ := e
      rw [upd_at]
      exact mu_at σ (24 + 3 * 1 + c) q (n2 v)
    · rw [mu_ne (by omega), upd_ne (by omega)]
      exact (a4 q hq).2.1
  · unfold bt
    rw [mu_ne (by omega), upd_ne (by omega)]
    exact (a4 q hq).2.2
  · rw [mu_ne (by omega), upd_ne (by omega)]
    exact a5 q hq
  · rw [oc, upd_ne (by omega)]
    exact a6
  · rw [oc, upd_ne (by omega)]
    exact a7
  · rw [oc, upd_ne (by omega)]
    exact a8
  · rw [oc, hl, lost_congr (fun q hq => ?_)]
    unfold lo
    rw [upd_ne (by omega)]
def whr (B : Nat → Int32) (p : Nat) : Int32 := if lo B p = 1 then 8 else bt B p
def tldC (N w : Nat) (A : Nat → Int32) (E : Nat → Int32) (p i : Nat) : Bool := decide (E i = lst w) || decide (E i = whr (seR N i A) p)
section TOLD
variable {N t d w n p : Nat} {A E : Nat → Int32}
theorem x_told {τ : Mem} (hC : CL3 τ 3 N A) (h3 : A 3 = n2 t) (ht : t ≤ 999) (hd : d < 8) (hw : w < 3) (hn : n ≤ 100) (e4 : τ (6 + d) 4 = n2 w) (e5 : τ (6 + d) 5 = n2 n) (eE : τ (14 + d) = E) (hp : p < N) : Tm (p_X11_isWhereTold (6 + d) (n2 p) τ) (fun r s => r = b2 (al (tldC N w A E p) n 0) ∧ FrC 3 τ s) := by
  have h8 := hC.le8
  unfold p_X11_isWhereTold
  show Tm (p_X11_isWhereTold_L2 (6 + d) (n2 p) 1000 (n2 0) τ) _
  have hse : ∀ i, i ≤ 100 → OkR (seR N i A) N ∧ seR N i A 3 = n2 (t + i) ∧ ∀ k, 100 ≤ k → seR N i A k = A k := fun i hi => seR_ok hC.2.1 h3 (by omega)
  refine lpT (L := fun g i (_ : Unit) s => p_X11_isWhereTold_L2 (6 + d) (n2 p) g (n2 i) s) (N := n) (fun i _ s => CL3 s 3 N (seR N i A) ∧ FrC 3 τ s ∧ al (tldC N w A E p) (n - i) i = al (tldC N w A E p) n 0) (fun g i _ s hi hI hK => ?_) (fun g _ s hI => ?_) n 0 () τ 1000 (by omega) (by omega) ⟨hC, FrC.rf 3 τ, rfl⟩
  · obtain ⟨h1, hf, he⟩ := hI
    rw [al_step hi] at he
    show Tm (p_X11_isWhereTold_B2 (p_X11_isWhereTold_L2 (6 + d) (n2 p) g) (6 + d) (n2 p) (n2 i) s) _
    have e6 : s (6 + d) = τ (6 + d) := hf _ (by unfold capeO; omega)
    have e14 : s (14 + d) = E := (hf _ (by unfold capeO; omega)).trans eE
    have e86 : 8 + (6 + d) = 14 + d := by omega
    have hsk := x_skip (σ := s) (o := 6 + d) hw (by rw [e6]; exact e4) (show i < 100 by omega)
    rw [e86, e14] at hsk
    have hb : s 33 p = bt (seR N i A) p := h1.btq hp
    have hgo : Tm (p_X11_isWhereTold_B35 (p_X11_isWhereTold_L2 (6 + d) (n2 p) g) (6 + d) (n2 p) (n2 i) (whr (seR N i A) p) s) (fun r s => r = b2 (al (tldC N w A E p) n 0) ∧ FrC 3 τ s) := by
      unfold p_X11_isWhereTold_B35 p_X11_isWhereTold_B58
      have hgo : tldC N w A E p i = true → Tm (bnd (p_X3_sails 3 1 s) fun (v1 : Unit) s2 => p_X11_isWhereTold_L2 (6 + d) (n2 p) g (n2 (i + 1)) s2) (fun r s => r = b2 (al (tldC N w A E p) n 0) ∧ FrC 3 τ s) := fun hj => by
        rw [hj] at he
        refine (x_sails isC3 h1 (hse i (by omega)).2.1 (n := 1) (by omega) (by omega)).bd (fun _ s2 q => ?_)
        exact hK () s2 ⟨by rw [seR_snoc]; exact q.1, hf.tr q.2, he⟩
      simp (disch := omega) only [hsk, bndE, b2z, decide_eq_true_eq, n2_nat, iin, e86, e14, ltE, n2_succ]
      by_cases q1 : E i = lst w
      · rw [if_pos q1]
        exact hgo (by unfold tldC; rw [decide_eq_true q1]; rfl)
      · rw [if_neg q1]
        by_cases q2 : E i = whr (seR N i A) p
        · rw [if_pos q2]
          exact hgo (by unfold tldC; rw [decide_eq_true q2, Bool.or_true])
        · rw [if_neg q2]
          have e : tldC N w A E p i = false := by unfold tldC; rw [decide_eq_false q1, decide_eq_false q2]; rfl
          rw [e] at he
          exact Tm.ret ⟨by rw [← he]; rfl, hf⟩
    unfold p_X11_isWhereTold_B2
    simp (disch := omega) only [ltE, e6, e5, ile_f, x_isLost h1 hp, bndE, b2z, decide_eq_true_eq, n2_nat, iin, hb]
    unfold whr at hgo
    split
    · rename_i hl
      rw [if_pos hl] at hgo
      exact hgo
    · rename_i hl
      rw [if_neg hl] at hgo
      exact hgo
  · obtain ⟨h1, hf, he⟩ := hI
    show Tm (p_X11_isWhereTold_B2 (p_X11_isWhereTold_L2 (6 + d) (n2 p) g) (6 + d) (n2 p) (n2 n) s) _
    have e6 : s (6 + d) = τ (6 + d) := hf _ (by unfold capeO; omega)
    unfold p_X11_isWhereTold_B2
    simp (disch := omega) only [ltE, e6, e5, ile_t]
    rw [al_end] at he
    exact Tm.ret ⟨by rw [← he]; rfl, hf⟩
theorem m_told {s : Mem} (hA : OkR A N) (h3 : A 3 = n2 t) (ht : t ≤ 999) (hd : d < 8) (hw : w < 3) (hn : n ≤ 100) (e76 : s 76 d = n2 w) (e77 : s 77 d = n2 n) (eE : ∀ j, j < 100 → s 78 (100 * d + j) = E j) (hp : p < N) : Tm (p_X12_isTold (n2 d) (n2 p) (ms s 67 A)) (fun r s' => r = b2 (al (tldC N w A E p) n 0) ∧ ∃ B, s' = ms s 67 B ∧ ∀ k, 100 ≤ k → B k = A k) := by
  have h8 := hA.2.1
  unfold p_X12_isTold
  have hse : ∀ i, i ≤ 100 → OkR (seR N i A) N ∧ seR N i A 3 = n2 (t + i) ∧ ∀ k, 100 ≤ k → seR N i A k = A k := fun i hi => seR_ok hA h3 (by omega)
  show Tm (p_X12_isTold_L2 (n2 d) (n2 p) 1000 (n2 0) (ms s 67 (seR N 0 A))) _
  refine lpT (L := fun g i (_ : Unit) s => p_X12_isTold_L2 (n2 d) (n2 p) g (n2 i) s) (N := n) (fun i _ τ => τ = ms s 67 (seR N i A) ∧ al (tldC N w A E p) (n - i) i = al (tldC N w A E p) n 0) (fun g i _ τ hi hI hK => ?_) (fun g _ τ hI => ?_) n 0 () _ 1000 (by omega) (by omega) ⟨rfl, rfl⟩
  · obtain ⟨rfl, he⟩ := hI
    rw [al_step hi] at he
    have hs := hse i (by omega)
    show Tm (p_X12_isTold_B2 (p_X12_isTold_L2 (n2 d) (n2 p) g) (n2 d) (n2 p) (n2 i) (ms s 67 (seR N i A))) _
    have k76 : ms s 67 (seR N i A) 76 = s 76 := ms_ne (by decide)
    have k77 : ms s 67 (seR N i A) 77 = s 77 := ms_ne (by decide)
    have k78 : ms s 67 (seR N i A) 78 = s 78 := ms_ne (by decide)
    have hgo : Tm (p_X12_isTold_B54 (p_X12_isTold_L2 (n2 d) (n2 p) g) (n2 d) (n2 p) (n2 i) (E i) (whr (seR N i A) p) (ms s 67 (seR N i A))) (fun r s' => r = b2 (al (tldC N w A E p) n 0) ∧ ∃ B, s' = ms s 67 B ∧ ∀ k, 100 ≤ k → B k = A k) := by
      unfold p_X12_isTold_B54 p_X12_isTold_B79
      have hgo : tldC N w A E p i = true → Tm (bnd (p_X12_season 67 0 (ms s 67 (seR N i A))) fun (v1 : Unit) s2 => p_X12_isTold_L2 (n2 d) (n2 p) g (n2 (i + 1)) s2) (fun r s' => r = b2 (al (tldC N w A E p) n 0) ∧ ∃ B, s' = ms s 67 B ∧ ∀ k, 100 ≤ k → B k = A k) := fun hj => by
        rw [hj] at he
        have e67 : ms s 67 (seR N i A) 67 = seR N i A := ms_at _ _ _
        have hm := m_season (r := 67) (N := N) (σ := ms s 67 (seR N i A)) (by rw [e67]; exact hs.1) (by rw [e67]; exact hs.2.1) (by omega)
        rw [e67, ms_ms, ← seR_snoc] at hm
        rw [hm, bndE]
        exact hK () _ ⟨rfl, he⟩
      simp (disch := omega) only [n2_nat, iin, ltE, k76, e76, m_least hw, bndE, n2_succ]
      by_cases q1 : E i = lst w
      · rw [if_pos q1]
        exact hgo (by unfold tldC; rw [decide_eq_true q1]; rfl)
      · rw [if_neg q1]
        by_cases q2 : E i = whr (seR N i A) p
        · rw [if_pos q2]
          exact hgo (by unfold tldC; rw [decide_eq_true q2, Bool.or_true])
        · rw [if_neg q2]
          have e : tldC N w A E p i = false := by unfold tldC; rw [decide_eq_false q1, decide_eq_false q2]; rfl
          rw [e] at he
          exact Tm.ret ⟨by rw [← he]; rfl, _, rfl, hs.2.2⟩
    unfold p_X12_isTold_B2
    simp (disch := omega) only [n2_nat, iin, ltE, k77, e77, ile_f, el_n2, k78, eE i (by omega), m_of3, m_of2, bndE, ms_at]
    unfold whr lo bt at hgo
    split
    · rename_i hl
      rw [if_pos hl] at hgo
      exact hgo
    · rename_i hl
      rw [if_neg hl] at hgo
      exact hgo
  · obtain ⟨rfl, he⟩ := hI
    show Tm (p_X12_isTold_B2 (p_X12_isTold_L2 (n2 d) (n2 p) g) (n2 d) (n2 p) (n2 n) (ms s 67 (seR N n A))) _
    have k77 : ms s 67 (seR N n A) 77 = s 77 := ms_ne (by decide)
    unfold p_X12_isTold_B2
    simp (disch := omega) only [n2_nat, iin, ltE, k77, e77, ile_t]
    rw [al_end] at he
    exact Tm.ret ⟨by rw [← he]; rfl, _, rfl, (hse n hn).2.2⟩
end TOLD
def wisF (N w : Nat) (A E : Nat → Int32) (n p y k : Nat) (a : Int32) : Int32 := if al (tldC N w (upd A (4 + 4 * p + y) (n2 k)) E p) n 0 = true then a ||| ((1 : Int32) <<< (n2 k &&& 31)) else a
theorem or_0 (x : Int32) : x ||| 0 = x := by simp
theorem st_whatIs : St3 Inv p_X11_whatIs p_X12_whatIs := by
  intro x a y σ hI
  obtain ⟨N, t, hL, hA, h3, hA3, ht⟩ := getI hI
  have h8 := hL.le8
  cases ha : manV N a
  · refine st_read hI (r := (-1 : Int32)) ?_ ?_
    · unfold p_X11_whatIs
      simp only [x_has hL.1, bndE, b2z, ha]
      rfl
    · unfold p_X12_whatIs
      simp only [m_isMan hL.2.1.1 h8, bndE, b2z, ha]
      rfl
  cases hy : inV y 0 1
  · refine st_read hI (r := (-1 : Int32)) ?_ ?_
    · unfold p_X11_whatIs
      simp only [x_has hL.1, bndE, b2z, ha, if_true, x_isPart, hy]
      rfl
    · unfold p_X12_whatIs
      simp only [m_isMan hL.2.1.1 h8, bndE, b2z, ha, if_true, m_isIn, hy]
      rfl
  rcases shf_cases hI.2.2 x with ⟨r, hr, hx, hm⟩ | ⟨d, w, n, hd, rfl, hx, hm, hw, hn, e4, e76, e5, e77, hel⟩
  · refine st_read hI (r := r) ?_ ?_
    · unfold p_X11_whatIs
      simp only [x_has hL.1, bndE, b2z, ha, if_true, x_isPart, hy, hx, if_neg hr]
    · unfold p_X12_whatIs
      simp only [m_isMan hL.2.1.1 h8, bndE, b2z, ha, if_true, m_isIn, hy, hm σ (FrX.rf σ), if_neg hr]
  obtain ⟨p, hp, rfl⟩ := man_n2 h8 ha
  obtain ⟨y, -, hy1, rfl⟩ := in_n2 (lo := 0) (hi := 1) (by decide) (by decide) hy
  generalize hz : (if y = 0 then 8 else 10) = z
  have hz10 : z ≤ 10 := by split at hz <;> omega
  have hz8 : y = 0 → z = 8 := fun e => by rw [if_pos e] at hz; exact hz.symm
  have hz1 : ¬ y = 0 → z = 10 := fun e => by rw [if_neg e] at hz; exact hz.symm
  have hO : ∀ k, k < z → OkR (upd (mnd σ) (4 + 4 * p + y) (n2 k)) N := fun k hk => hA.2.1.kf hp (by omega) (by omega) (fun e => by have := hz8 e; omega)
  have hO3 : ∀ k, upd (mnd σ) (4 + 4 * p + y) (n2 k) 3 = n2 t := fun k => (upd_ne (by omega)).trans hA3
  generalize hv : fo (wisF N w (mnd σ) (σ (14 + d)) n p y) z 0 0 = v
  refine st_scr hI (r := v) ?_ (fun s hX => ?_)
  · unfold p_X11_whatIs
    simp only [x_has hL.1, bndE, b2z, ha, if_true, x_isPart, hy, hx]
    show Tm (p_X11_whatIs_L42 (n2 d) (n2 p) (n2 y) 1000 0 (n2 0) σ) _
    refine lpT (L := fun g k (a : Int32) τ => p_X11_whatIs_L42 (n2 d) (n2 p) (n2 y) g a (n2 k) τ) (N := z) (fun k a τ => FrC 3 σ τ ∧ fo (wisF N w (mnd σ) (σ (14 + d)) n p y) (z - k) k a = v) (fun g k a τ hk hI hK => ?_) (fun g a τ hI => ?_) z 0 0 σ 1000 (by omega) (by omega) ⟨FrC.rf 3 σ, hv⟩
    · obtain ⟨hf, he⟩ := hI
      rw [fo_step hk] at he
      show Tm (p_X11_whatIs_B42 (p_X11_whatIs_L42 (n2 d) (n2 p) (n2 y) g) (n2 d) (n2 p) (n2 y) a (n2 k) τ) _
      have hend : ∀ s1, CL3 s1 3 N (upd (mnd σ) (4 + 4 * p + y) (n2 k)) → FrC 3 σ s1 → Tm (p_X11_whatIs_B98 (p_X11_whatIs_L42 (n2 d) (n2 p) (n2 y) g) (n2 d) (n2 p) (n2 y) a (n2 k) s1) (fun u s => u = v ∧ FrX σ s) := fun s1 h1 hf1 => by
        unfold p_X11_whatIs_B98 p_X11_whatIs_B121
        simp (disch := omega) only [n2_nat, iin]
        have e6 : s1 (6 + d) = σ (6 + d) := hf1 _ (by unfold capeO; omega)
        have e14 : s1 (14 + d) = σ (14 + d) := hf1 _ (by unfold capeO; omega)
        refine (x_told h1 (hO3 k) ht hd hw hn (by rw [e6]; exact e4) (by rw [e6]; exact e5) e14 hp).bd (fun r s2 q => ?_)
        rw [q.1, b2z, n2_succ]
        unfold wisF at he
        cases hc : al (tldC N w (upd (mnd σ) (4 + 4 * p + y) (n2 k)) (σ (14 + d)) p) n 0
        · rw [hc, if_neg (by decide)] at he
          rw [if_neg (by decide)]
          exact hK a s2 ⟨hf1.tr q.2, he⟩
        · rw [hc, if_pos rfl] at he
          rw [if_pos rfl]
          exact hK _ s2 ⟨hf1.tr q.2, he⟩
      unfold p_X11_whatIs_B42 p_X11_whatIs_B55
      rw [ieq0 (by omega)]
      by_cases e0 : y = 0
      · have ez := hz8 e0
        rw [if_pos e0, ile8 (by omega), if_neg (by omega)]
        refine (x_mind hA hf).bd (fun _ s1 h1 => ?_)
        rw [ieq0 (by omega), if_pos e0, wrE]
        simp (disch := omega) only [n2_nat, iin]
        have h2 := h1.1.kf isC3 hp (w := y) (v := k) (by omega) (by omega) (fun _ => by omega)
        rw [show 24 + 3 * y + 3 = 24 + 3 by omega] at h2
        exact hend _ h2 (h1.2.w (Or.inr (Or.inl rfl)))
      · have ez := hz1 e0
        have e1 : y = 1 := by omega
        rw [if_neg e0, ile10 (by omega), if_neg (by omega)]
        refine (x_mind hA hf).bd (fun _ s1 h1 => ?_)
        rw [ieq0 (by omega), if_neg e0, wrE]
        simp (disch := omega) only [n2_nat, iin]
        have h2 := h1.1.kf isC3 hp (w := y) (v := k) (by omega) (by omega) (fun e => absurd e e0)
        rw [show 24 + 3 * y + 3 = 27 + 3 by omega] at h2
        exact hend _ h2 (h1.2.w (Or.inr (Or.inr (Or.inl rfl))))
    · obtain ⟨hf, he⟩ := hI
      show Tm (p_X11_whatIs_B42 (p_X11_whatIs_L42 (n2 d) (n2 p) (n2 y) g) (n2 d) (n2 p) (n2 y) a (n2 z) τ) _
      unfold p_X11_whatIs_B42 p_X11_whatIs_B55
      rw [fo_end] at he
      rw [ieq0 (by omega)]
      by_cases e0 : y = 0
      · have ez := hz8 e0
        rw [if_pos e0, ile8 (by omega), if_pos (by omega)]
        exact Tm.ret ⟨he, hf.X⟩
      · have ez := hz1 e0
        rw [if_neg e0, ile10 (by omega), if_pos (by omega)]
        exact Tm.ret ⟨he, hf.X⟩
  · have e0 : s 66 0 = n2 N := by rw [hX 66 (by decide)]; exact hL.2.1.1
    unfold p_X12_whatIs
    simp only [m_isMan e0 h8, bndE, b2z, ha, if_true, m_isIn, hy, hm s hX]
    refine Tm.eq (congrArg (p_X12_whatIs_L41 (n2 d) (n2 p) (n2 y) 1000 0 (n2 0)) (ms_self s 67).symm) ?_
    refine lpT (L := fun g k (a : Int32 × (Nat → Int32)) τ => p_X12_whatIs_L41 (n2 d) (n2 p) (n2 y) g a.1 (n2 k) τ) (N := z) (fun k a τ => τ = ms s 67 a.2 ∧ (∀ k, 100 ≤ k → a.2 k = mnd σ k) ∧ fo (wisF N w (mnd σ) (σ (14 + d)) n p y) (z - k) k a.1 = v) (fun g k a τ hk hI hK => ?_) (fun g a τ hI => ?_) z 0 (0, s 67) _ 1000 (by omega) (by omega) ⟨rfl, fun k hk => by rw [hX 67 (by decide)]; exact (cpr_ge hk).symm, hv⟩
    · obtain ⟨a, B⟩ := a
      obtain ⟨rfl, hB, he⟩ := hI
      rw [fo_step hk] at he
      show Tm (p_X12_whatIs_B41 (p_X12_whatIs_L41 (n2 d) (n2 p) (n2 y) g) (n2 d) (n2 p) (n2 y) a (n2 k) (ms s 67 B)) _
      have hgo : Tm (bnd (p_X12_copies 66 67 (ms s 67 B)) fun (v1 : Unit) s2 => bnd (p_X12_of (n2 p) (n2 y) s2) fun v4 s5 => (if v4 < 0 ∨ 100 ≤ v4.toNatClampNeg then none else wr s5 67 v4.toNatClampNeg (n2 k) fun s7 => bnd (p_X12_isTold (n2 d) (n2 p) s7) fun v8 s9 => (if v8 = 0 then (p_X12_whatIs_B99 (p_X12_whatIs_L41 (n2 d) (n2 p) (n2 y) g) (n2 d) (n2 p) (n2 y)) (n2 k) a 0 s9 else (p_X12_whatIs_B99 (p_X12_whatIs_L41 (n2 d) (n2 p) (n2 y) g) (n2 d) (n2 p) (n2 y)) (n2 k) a ((1 : Int32) <<< (n2 k &&& 31)) s9))) (fun u s' => u = v ∧ FrM s s') := by
        unfold p_X12_whatIs_B99
        rw [m_mind2 hX hB]
        simp (disch := omega) only [bndE, m_of, n2_nat, iin, wrE, ms_mu, n2_succ, or_0]
        have h76 : s 76 d = n2 w := by rw [hX 76 (by decide)]; exact e76
        have h77 : s 77 d = n2 n := by rw [hX 77 (by decide)]; exact e77
        refine (m_told (hO k hk) (hO3 k) ht hd hw hn h76 h77 (E := σ (14 + d)) (fun j hj => by rw [hX 78 (by decide)]; exact (hel j hj).symm) hp).bd (fun r s2 q => ?_)
        obtain ⟨q1, B2, rfl, q3⟩ := q
        have hB2 : ∀ j, 100 ≤ j → B2 j = mnd σ j := fun j hj => (q3 j hj).trans (upd_ne (by omega))
        rw [q1, b2z]
        unfold wisF at he
        cases hc : al (tldC N w (upd (mnd σ) (4 + 4 * p + y) (n2 k)) (σ (14 + d)) p) n 0
        · rw [hc, if_neg (by decide)] at he
          rw [if_neg (by decide)]
          exact hK (a, B2) _ ⟨rfl, hB2, he⟩
        · rw [hc, if_pos rfl] at he
          rw [if_pos rfl]
          exact hK (_, B2) _ ⟨rfl, hB2, he⟩
      unfold p_X12_whatIs_B41 p_X12_whatIs_B54
      rw [ieq0 (by omega)]
      by_cases e0 : y = 0
      · have ez := hz8 e0
        rw [if_pos e0, ile8 (by omega), if_neg (by omega)]
        exact hgo
      · have ez := hz1 e0
        rw [if_neg e0, ile10 (by omega), if_neg (by omega)]
        exact hgo
    · obtain ⟨a, B⟩ := a
      obtain ⟨rfl, hB, he⟩ := hI
      show Tm (p_X12_whatIs_B41 (p_X12_whatIs_L41 (n2 d) (n2 p) (n2 y) g) (n2 d) (n2 p) (n2 y) a (n2 z) (ms s 67 B)) _
      unfold p_X12_whatIs_B41 p_X12_whatIs_B54
      rw [fo_end] at he
      rw [ieq0 (by omega)]
      by_cases e0 : y = 0
      · have ez := hz8 e0
        rw [if_pos e0, ile8 (by omega), if_pos (by omega)]
        exact Tm.ret ⟨he, (FrM.rf s).r rfl⟩
      · have ez := hz1 e0
        rw [if_neg e0, ile10 (by omega), if_pos (by omega)]
        exact Tm.ret ⟨he, (FrM.rf s).r rfl⟩
