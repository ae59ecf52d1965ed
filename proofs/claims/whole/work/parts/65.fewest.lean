/-! the fewest boats -/
def g9 : Nat → Nat := fun _ => 9
theorem least_of {P : Nat → Prop} (dec : ∀ k, P k ∨ ¬ P k) : ∀ n, (∀ k, k < n → ¬ P k) ∨ ∃ m, m < n ∧ P m ∧ ∀ k, k < m → ¬ P k := by
  intro n
  induction n with
  | zero => exact Or.inl (fun k hk => by omega)
  | succ n ih =>
    rcases ih with ih | ⟨m, h1, h2, h3⟩
    · rcases dec n with h | h
      · exact Or.inr ⟨n, by omega, h, ih⟩
      · refine Or.inl (fun k hk => ?_)
        by_cases e : k = n
        · rw [e]
          exact h
        · exact ih k (by omega)
    · exact Or.inr ⟨m, by omega, h2, h3⟩
theorem few_ex {R : Nat → Int32} {w N : Nat} (h8 : N ≤ 8) : ∃ m h, m ≤ 8 ∧ plS R w m N 0 g9 = some h ∧ ∀ k, k < m → plS R w k N 0 g9 = none := by
  rcases least_of (P := fun m => plS R w m N 0 g9 ≠ none) (fun k => by
    cases h : plS R w k N 0 g9 with
    | none => exact Or.inr (fun e => e rfl)
    | some r => exact Or.inl (fun e => by cases e)) 9 with h | ⟨m, h1, h2, h3⟩
  · exact absurd (plS_eight h8 g9) (h 8 (by omega))
  · cases hr : plS R w m N 0 g9 with
    | none => exact absurd hr h2
    | some r =>
      refine ⟨m, r, by omega, hr, fun k hk => ?_⟩
      cases hk2 : plS R w k N 0 g9 with
      | none => rfl
      | some r' => exact absurd (fun e => by rw [hk2] at e; cases e) (h3 k hk)
theorem pre_0 (m : Nat) (g : Nat → Nat) : PreB m g 0 := fun _ _ _ _ _ => rfl
theorem tkV_0 (g : Nat → Nat) (b : Nat) : tkV g 0 b = 0 := rfl
theorem igt8 {α : Type} {a : Nat} {A B : α} (h : a < 2147483648) : (if (8 : Int32) < n2 a then A else B) = if 8 < a then A else B := iltq (a := 8) ⟨by omega, h⟩
theorem LkC.bk {τ s : Mem} {N w : Nat} {R : Nat → Int32} (h : LkC τ N w R) (e4 : s 4 4 = τ 4 4) (e5 : s 4 5 = τ 4 5) (e37 : s 37 = τ 37) : LkC s N w R := ⟨by rw [e4]; exact h.1, by rw [e5]; exact h.2.1, fun p hp => by rw [e37]; exact h.2.2 p hp⟩
theorem x_fewest {R : Nat → Int32} {N w m : Nat} {h : Nat → Nat} {s : Mem} (h8 : N ≤ 8) (hL : LkC s N w R) (hm : m ≤ 8) (hs : plS R w m N 0 g9 = some h) (hn : ∀ k, k < m → plS R w k N 0 g9 = none) : Tm (p_X4_fewest s) (fun v u => v = n2 m ∧ FrX s u ∧ ∀ q, q < N → u 38 q = n2 (h q)) := by
  unfold p_X4_fewest
  rw [x_fill 8 s (show alen 40 = 8 from rfl) (by omega), bndE, wrE, wrE]
  have a39 : alen 39 = 8 := rfl
  show Tm (p_X4_fewest_L21 1000 (n2 0) _) _
  refine lpT (L := fun g k (_ : Unit) τ => p_X4_fewest_L21 g (n2 k) τ) (N := m + 1) (fun k _ τ => k ≤ m ∧ FrX s τ ∧ LkC τ N w R ∧ τ 4 7 = n2 0 ∧ τ 4 8 = b2 true ∧ ∀ b, b < 8 → τ 40 b = n2 8) (fun g k _ τ hk hI hK => ?_) (fun g _ τ hI => ?_) (m + 1) 0 () _ 1000 (by omega) (by omega) ⟨by omega, ?_, ?_, ?_, ?_, fun b hb => ?_⟩
  · obtain ⟨hkm, hf, hLk, e7, e8, e40⟩ := hI
    show Tm (p_X4_fewest_B21 (p_X4_fewest_L21 g) (n2 k) τ) _
    unfold p_X4_fewest_B21
    rw [igt8 (by omega), if_neg (by omega), wrE, x_fill 0 _ a39 (by omega), bndE]
    have hS : SeC (ms (mu τ 4 6 (n2 k)) 39 (filR (mu τ 4 6 (n2 k) 39) 0 8)) R N w k true 0 g9 (fun _ => 8) 0 := by
      refine ⟨hLk.bk ?_ ?_ ?_, ?_, ?_, ?_, fun q hq => by omega, fun b hb => ?_, fun b hb => ⟨?_, Nat.le_refl _⟩, by omega⟩
      · rw [ms_ne (by decide), mu_ne (by decide)]
      · rw [ms_ne (by decide), mu_ne (by decide)]
      · rw [ms_ne (by decide), mu_off (by decide)]
      · rw [ms_ne (by decide), mu_at]
      · rw [ms_ne (by decide), mu_ne (by decide)]
        exact e7
      · rw [ms_ne (by decide), mu_ne (by decide)]
        exact e8
      · rw [ms_at, tkV_0]
        exact if_pos (by omega)
      · rw [ms_ne (by decide), mu_off (by decide)]
        exact e40 b (by omega)
    have hx := x_seats (m := k) (ak := true) (R := R) (w := w) (by omega) h8 N 0 g9 (fun _ => 8) 0 _ 10 (by omega) (by omega) hS
    rw [cl_pl (by omega) h8 N 0 g9 _ (by omega) (pre_0 k g9) (fun b _ => by omega)] at hx
    have hf1 : FrX s (ms (mu τ 4 6 (n2 k)) 39 (filR (mu τ 4 6 (n2 k) 39) 0 8)) := fun o ho => by
      rw [ms_ne (fun e => by rw [e] at ho; exact absurd ho (by decide)), mu_off (fun e => by rw [e] at ho; exact absurd ho (by decide))]
      exact hf o ho
    refine hx.bd (fun r u q => ?_)
    by_cases e : k = m
    · subst e
      rw [hs] at q
      obtain ⟨rfl, q2, q3⟩ := q
      rw [if_neg (by decide)]
      exact Tm.ret ⟨rfl, hf1.tr q2.X, q3⟩
    · rw [hn k (by omega)] at q
      obtain ⟨rfl, q2⟩ := q
      have hS2 := hS.bk q2
      rw [if_pos rfl, n2_succ]
      exact hK () u ⟨by omega, hf1.tr q2.1.X, hS2.1, hS2.2.2.1, hS2.2.2.2.1, fun b hb => by
        rw [q2.2.2.2.1, ms_ne (by decide), mu_off (by decide)]
        exact e40 b hb⟩
  · exact absurd hI.1 (by omega)
  · exact fun o ho => by
      rw [mu_off (fun e => by rw [e] at ho; exact absurd ho (by decide)), mu_off (fun e => by rw [e] at ho; exact absurd ho (by decide)), ms_ne (fun e => by rw [e] at ho; exact absurd ho (by decide))]
  · refine hL.bk ?_ ?_ ?_
    · rw [mu_ne (by decide), mu_ne (by decide), ms_ne (by decide)]
    · rw [mu_ne (by decide), mu_ne (by decide), ms_ne (by decide)]
    · rw [mu_off (by decide), mu_off (by decide), ms_ne (by decide)]
  · rw [mu_ne (by decide), mu_at]
    rfl
  · rw [mu_at]
    rfl
  · rw [mu_off (by decide), mu_off (by decide), ms_at]
    exact if_pos hb
theorem FrG.M {a b : Mem} (h : FrG a b) : FrM a b := ⟨fun o _ ho => h o (fun e => by rw [e] at ho; exact absurd ho (by decide)), by rw [h 65 (by decide)]⟩
theorem FrN.M {a b : Mem} (h : FrN a b) : FrM a b := ⟨fun o _ ho => h o (fun e => by rw [e] at ho; exact absurd ho (by decide)) (fun e => by rw [e] at ho; exact absurd ho (by decide)), by rw [h 65 (by decide) (by decide)]⟩
theorem m_fewL {R : Nat → Int32} {N m : Nat} {h : Nat → Nat} {s : Mem} (hR : OkR R N) (e66 : s 66 = R) (hm : m ≤ 8) (hs : plS R (lawN R) m N 0 g9 = some h) (hn : ∀ k, k < m → plS R (lawN R) k N 0 g9 = none) (x1 : Int32) {kk : Int32 → Mem → Option (Int32 × Mem)} {Q : Int32 → Mem → Prop} (hQ : ∀ u, FrG s u → (∀ q, q < N → u 71 q = enM (h q)) → Tm (kk (n2 m) u) Q) : Tm (p_X12_fewestBoats_L17 kk x1 1000 0 s) Q := by
  have h8 := hR.2.1
  show Tm (p_X12_fewestBoats_L17 kk x1 1000 (n2 0) s) Q
  refine lpT (L := fun g k (_ : Unit) τ => p_X12_fewestBoats_L17 kk x1 g (n2 k) τ) (N := m + 1) (fun k _ τ => k ≤ m ∧ FrG s τ) (fun g k _ τ hk hI hK => ?_) (fun g _ τ hI => ?_) (m + 1) 0 () s 1000 (by omega) (by omega) ⟨by omega, fun _ _ => rfl⟩
  · obtain ⟨hkm, hf⟩ := hI
    show Tm (p_X12_fewestBoats_B17 (p_X12_fewestBoats_L17 kk x1 g) kk x1 (n2 k) τ) Q
    unfold p_X12_fewestBoats_B17
    refine (m_placed (m := k) hR (by omega) N 0 g9 τ 10 (by omega) (by omega) ⟨(hf 66 (by decide)).trans e66, fun q hq => by omega⟩).bd (fun r u q => ?_)
    by_cases e : k = m
    · subst e
      rw [hs] at q
      obtain ⟨rfl, q2, q3⟩ := q
      rw [if_neg (by decide)]
      exact hQ u (hf.tr q2) q3
    · rw [hn k (by omega)] at q
      obtain ⟨rfl, q2⟩ := q
      rw [if_pos rfl, n2_succ]
      exact hK () u ⟨by omega, hf.tr q2.1⟩
  · exact absurd hI.1 (by omega)
theorem man_m1 {N : Nat} : manV N (-1) = false := by
  unfold manV
  rw [decide_eq_true (show (-1 : Int32) < 0 by decide)]
  rfl
theorem st_fewestBoats : St1 Inv p_X11_fewestBoats p_X12_fewestBoats := by
  intro x σ hI
  obtain ⟨N, t, hL, -, -, -, -⟩ := getI hI
  have h8 := hL.le8
  have h := hL.2.1
  have hw := lawN_eq h
  have e17 : σ 1 7 = n2 (lawN (σ 66)) := hL.lawq
  obtain ⟨m, hh, hm, hs, hn⟩ := few_ex (R := σ 66) (w := lawN (σ 66)) h8
  have hV := (plS_some (N := N) N 0 g9 hh (by omega) hs).2
  by_cases hx : x = -1
  · subst hx
    refine st_scr hI (r := n2 m) ?_ (fun s hX => ?_)
    · unfold p_X11_fewestBoats p_X11_fewestBoats_B18
      rw [if_pos rfl, ltE, e17]
      refine (x_lookAt hL hw.2).bd (fun _ s q => ?_)
      refine (x_fewest h8 q.2 hm hs hn).bd (fun v u q2 => ?_)
      rw [if_pos rfl]
      exact Tm.ret ⟨q2.1, q.1.tr q2.2.1⟩
    · unfold p_X12_fewestBoats p_X12_fewestBoats_B15
      rw [if_pos rfl]
      refine m_fewL h (hX 66 (by decide)) hm hs hn (-1) (fun u hf hu => ?_)
      rw [if_neg (by decide)]
      exact Tm.ret ⟨rfl, hf.M⟩
  · cases hpm : manV N x
    · refine st_read hI (r := (-1 : Int32)) ?_ ?_
      · unfold p_X11_fewestBoats
        rw [if_neg hx, x_has hL.1, bndE, b2z, hpm]
        rfl
      · unfold p_X12_fewestBoats
        rw [if_neg hx, m_isMan h.1 h8, bndE, b2z, hpm]
        rfl
    · have hpp := hpm
      obtain ⟨p, hp, rfl⟩ := man_n2 h8 hpm
      refine st_scr hI (r := enM (hh p)) ?_ (fun s hX => ?_)
      · unfold p_X11_fewestBoats p_X11_fewestBoats_B18
        rw [if_neg hx, x_has hL.1, bndE, b2z, hpp, if_pos rfl, ltE, e17]
        refine (x_lookAt hL hw.2).bd (fun _ s q => ?_)
        refine (x_fewest h8 q.2 hm hs hn).bd (fun v u q2 => ?_)
        obtain ⟨rfl, q3, q4⟩ := q2
        have hf := q.1.tr q3
        rw [if_neg hx, x_isLost (hL.x hf) hp, bndE, b2z]
        rcases hV p (by omega) hp with ⟨g1, g2⟩ | ⟨g1, g2, -⟩
        · rw [if_pos (decide_eq_true g1), g2]
          exact Tm.ret ⟨rfl, hf⟩
        · rw [if_neg (fun e => g1 (decide_eq_true_eq.mp e))]
          simp (disch := omega) only [n2_nat, iin, ltE, q4 p hp]
          refine Tm.ret ⟨?_, hf⟩
          unfold enM
          rw [if_neg (by omega)]
      · have e0 : s 66 0 = n2 N := by rw [hX 66 (by decide)]; exact h.1
        unfold p_X12_fewestBoats p_X12_fewestBoats_B15
        rw [if_neg hx, m_isMan e0 h8, bndE, b2z, hpp, if_pos rfl]
        refine m_fewL h (hX 66 (by decide)) hm hs hn (n2 p) (fun u hf hu => ?_)
        simp (disch := omega) only [ige0, n2_nat, iin, ltE, hu p hp]
        exact Tm.ret ⟨rfl, hf.M⟩
/-! crews for told boats -/
def W3 (a b c : Nat) : Nat → Nat := fun k => if k = 0 then a else if k = 1 then b else c
def alB (R : Nat → Int32) (q : Nat) : Bool := !decide (lo R q = 1)
theorem avl_cnt (R : Nat → Int32) : ∀ t p v, fo (cnF (alB R)) t p v = v + avl R t p := by
  intro t
  induction t with
  | zero => intro p v; rfl
  | succ t ih =>
    intro p v
    rw [fo_succ, ih]
    by_cases e : lo R p = 1
    · have e2 : cnF (alB R) p v = v := by
        unfold cnF
        rw [if_neg (by unfold alB; rw [decide_eq_true e]; decide)]
      rw [e2]
      simp only [avl, if_pos e]
      omega
    · have e2 : cnF (alB R) p v = v + 1 := by
        unfold cnF
        rw [if_pos (by unfold alB; rw [decide_eq_false e]; rfl)]
      rw [e2]
      simp only [avl, if_neg e]
      omega
theorem pop_alive {R : Nat → Int32} {N : Nat} (h8 : N ≤ 8) : pop (aliveV R N) = avl R N 0 := by
  have e : aliveV R N = setV (alB R) N := by
    refine set_ext (fun q => ?_)
    rw [alive_bit h8, set_bit]
    rfl
  rw [e, pop_cnt h8]
  unfold cnt
  rw [avl_cnt]
  omega
theorem neg_4 : ∀ v < 9, ∀ a < 5, ∀ b < 5, ∀ c < 5, v < a + b + c → ((n2 v - n2 a) - n2 b) - n2 c < 0 := by decide +kernel
theorem x_canMan {R : Nat → Int32} {N w a b c : Nat} {s : Mem} (h8 : N ≤ 8) (hL : LkC s N w R) (ha : a ≤ 4) (hb : b ≤ 4) (hc : c ≤ 4) : Tm (p_X4_canMan (n2 a) (n2 b) (n2 c) s) (fun v u => FrX s u ∧ match mnS R w N 0 g9 (W3 a b c) with
    | some h => v = 1 ∧ ∀ q, q < N → u 38 q = n2 (h q)
    | none => v = 0) := by
  have a39 : alen 39 = 8 := rfl
  have hA := alive_lt (R := R) h8
  have hp := pop_le (aliveV R N)
  have hav := pop_alive (R := R) h8
  unfold p_X4_canMan
  rw [x_fill 0 s a39 (by omega), bndE]
  simp (disch := omega) only [ii0, ii1, ii2, c0, c1, c2, wrE, ltE]
  generalize hT : mu (mu (mu (mu (mu (ms s 39 (filR (s 39) 0 8)) 40 0 (n2 a)) 40 1 (n2 b)) 40 2 (n2 c)) 4 6 3) 4 8 0 = τ
  have t4 : ∀ k, k ≠ 6 → k ≠ 8 → τ 4 k = s 4 k := fun k k6 k8 => by rw [← hT, mu_ne (by omega), mu_ne (by omega), mu_off (by decide), mu_off (by decide), mu_off (by decide), ms_ne (by decide)]
  have t46 : τ 4 6 = n2 3 := by rw [← hT, mu_ne (by omega), mu_at]; rfl
  have t48 : τ 4 8 = b2 false := by rw [← hT, mu_at]; rfl
  have t37 : τ 37 = s 37 := by rw [← hT, mu_off (by decide), mu_off (by decide), mu_off (by decide), mu_off (by decide), mu_off (by decide), ms_ne (by decide)]
  have t39 : τ 39 = filR (s 39) 0 8 := by rw [← hT, mu_off (by decide), mu_off (by decide), mu_off (by decide), mu_off (by decide), mu_off (by decide), ms_at]
  have t40 : ∀ k, k < 3 → τ 40 k = n2 (W3 a b c k) := fun k hk => by
    rw [← hT, mu_off (by decide), mu_off (by decide)]
    match k, hk with
    | 0, _ => rw [mu_ne (by omega), mu_ne (by omega), mu_at]; rfl
    | 1, _ => rw [mu_ne (by omega), mu_at]; rfl
    | 2, _ => rw [mu_at]; rfl
  have hf : FrX s τ := fun o ho => by
    have n4 : o ≠ 4 := fun e => by rw [e] at ho; exact absurd ho (by decide)
    have n39 : o ≠ 39 := fun e => by rw [e] at ho; exact absurd ho (by decide)
    have n40 : o ≠ 40 := fun e => by rw [e] at ho; exact absurd ho (by decide)
    rw [← hT, mu_off n4, mu_off n4, mu_off n40, mu_off n40, mu_off n40, ms_ne n39]
  have t45 : τ 4 5 = n2 (aliveV R N) := (t4 5 (by omega) (by omega)).trans hL.2.1
  rw [t45, x_pop hA, bndE, mu_at]
  have hf2 : FrX s (mu τ 4 7 (((n2 (pop (aliveV R N)) - n2 a) - n2 b) - n2 c)) := hf.w rfl
  by_cases hS : a + b + c ≤ pop (aliveV R N)
  · have e1 : ((n2 (pop (aliveV R N)) - n2 a) - n2 b) - n2 c = n2 (pop (aliveV R N) - a - b - c) := by
      rw [n2_sub (by omega) (by omega), n2_sub (by omega) (by omega), n2_sub (by omega) (by omega)]
    rw [e1] at hf2 ⊢
    rw [ilt0 (by omega)]
    have hSe : SeC (mu τ 4 7 (n2 (pop (aliveV R N) - a - b - c))) R N w 3 false 0 g9 (W3 a b c) (pop (aliveV R N) - a - b - c) := by
      refine ⟨hL.bk ?_ ?_ ?_, ?_, mu_at _ _ _ _, ?_, fun q hq => by omega, fun k hk => ?_, fun k hk => ⟨?_, ?_⟩, by omega⟩
      · rw [mu_ne (by omega)]
        exact t4 4 (by omega) (by omega)
      · rw [mu_ne (by omega)]
        exact t4 5 (by omega) (by omega)
      · rw [mu_off (by decide)]
        exact t37
      · rw [mu_ne (by omega)]
        exact t46
      · rw [mu_ne (by omega)]
        exact t48
      · rw [mu_off (by decide), t39, tkV_0]
        exact if_pos (by omega)
      · rw [mu_off (by decide)]
        exact t40 k hk
      · unfold W3
        repeat' split
        all_goals omega
    have hx := x_seats (m := 3) (ak := false) (R := R) (w := w) (by omega) h8 N 0 g9 (W3 a b c) _ _ 10 (by omega) (by omega) hSe
    rw [cl_mn N 0 g9 (W3 a b c) _ (by
      show a + b + c + _ = _
      omega)] at hx
    refine hx.bd (fun r u q => ?_)
    cases ho : mnS R w N 0 g9 (W3 a b c) with
    | some k =>
      rw [ho] at q
      obtain ⟨rfl, q2, q3⟩ := q
      rw [if_neg (by decide)]
      exact Tm.ret ⟨hf2.tr q2.X, rfl, q3⟩
    | none =>
      rw [ho] at q
      obtain ⟨rfl, q2⟩ := q
      rw [if_pos rfl]
      exact Tm.ret ⟨hf2.tr q2.1.X, rfl⟩
  · rw [if_pos (neg_4 _ (by omega) a (by omega) b (by omega) c (by omega) (by omega))]
    rw [mn_none N 0 g9 (W3 a b c) (by
      show _ < a + b + c
      omega)]
    exact Tm.ret ⟨hf2, rfl⟩
theorem st_manned : St4 Inv p_X11_manned p_X12_manned := by
  intro a b c x σ hI
  obtain ⟨N, t, hL, -, -, -, -⟩ := getI hI
  have h8 := hL.le8
  have h := hL.2.1
  have hw := lawN_eq h
  have e17 : σ 1 7 = n2 (lawN (σ 66)) := hL.lawq
  cases ha : inV a 0 4
  · refine st_read hI (r := (-1 : Int32)) ?_ ?_
    · unfold p_X11_manned
      simp only [x_within, bndE, b2z, ha]
      rfl
    · unfold p_X12_manned
      simp only [m_isIn, bndE, b2z, ha]
      rfl
  cases hb : inV b 0 4
  · refine st_read hI (r := (-1 : Int32)) ?_ ?_
    · unfold p_X11_manned
      simp only [x_within, bndE, b2z, ha, if_true, hb]
      rfl
    · unfold p_X12_manned
      simp only [m_isIn, bndE, b2z, ha, if_true, hb]
      rfl
  cases hc : inV c 0 4
  · refine st_read hI (r := (-1 : Int32)) ?_ ?_
    · unfold p_X11_manned
      simp only [x_within, bndE, b2z, ha, if_true, hb, hc]
      rfl
    · unfold p_X12_manned
      simp only [m_isIn, bndE, b2z, ha, if_true, hb, hc]
      rfl
  have hx1 : p_X11_manned a b c x σ = p_X11_manned_B32 a b c x 1 σ := by
    unfold p_X11_manned
    simp only [x_within, bndE, b2z, ha, if_true, hb, hc]
  obtain ⟨a, -, ha4, rfl⟩ := in_n2 (lo := 0) (hi := 4) (by decide) (by decide) ha
  obtain ⟨b, -, hb4, rfl⟩ := in_n2 (lo := 0) (hi := 4) (by decide) (by decide) hb
  obtain ⟨c, -, hc4, rfl⟩ := in_n2 (lo := 0) (hi := 4) (by decide) (by decide) hc
  have hmod : ∀ s, FrX σ s → SeN (mu (mu (mu s 72 0 (n2 a)) 72 1 (n2 b)) 72 2 (n2 c)) (σ 66) 0 g9 (W3 a b c) := fun s hX => by
    refine ⟨?_, fun q hq => by omega, fun k hk => ⟨?_, ?_⟩⟩
    · rw [mu_off (by decide), mu_off (by decide), mu_off (by decide)]
      exact hX 66 (by decide)
    · match k, hk with
      | 0, _ => rw [mu_ne (by omega), mu_ne (by omega), mu_at]; rfl
      | 1, _ => rw [mu_ne (by omega), mu_at]; rfl
      | 2, _ => rw [mu_at]; rfl
    · unfold W3
      repeat' split
      all_goals omega
  have hfr : ∀ s, FrN s (mu (mu (mu s 72 0 (n2 a)) 72 1 (n2 b)) 72 2 (n2 c)) := fun s => (((FrN.rf s).w (Or.inr rfl)).w (Or.inr rfl)).w (Or.inr rfl)
  by_cases hx : x = -1
  · subst hx
    refine st_scr hI (r := match mnS (σ 66) (lawN (σ 66)) N 0 g9 (W3 a b c) with
      | some _ => 1
      | none => 0) ?_ (fun s hX => ?_)
    · rw [hx1]
      unfold p_X11_manned_B32 p_X11_manned_B59
      rw [if_neg (by decide), if_pos rfl, ltE, e17]
      refine (x_lookAt hL hw.2).bd (fun _ s q => ?_)
      refine (x_canMan h8 q.2 ha4 hb4 hc4).bd (fun v u q2 => ?_)
      rw [if_pos rfl]
      obtain ⟨q3, q4⟩ := q2
      cases ho : mnS (σ 66) (lawN (σ 66)) N 0 g9 (W3 a b c) with
      | some k =>
        rw [ho] at q4
        obtain ⟨rfl, -⟩ := q4
        exact Tm.ret ⟨rfl, q.1.tr q3⟩
      | none =>
        rw [ho] at q4
        have q4 : v = 0 := q4
        rw [q4]
        exact Tm.ret ⟨rfl, q.1.tr q3⟩
    · unfold p_X12_manned p_X12_manned_B44
      simp (disch := omega) only [m_isIn, bndE, b2z, ha, if_true, hb, hc, ii0, ii1, ii2, c0, c1, c2, wrE]
      refine (m_manned h N 0 g9 (W3 a b c) _ 10 (by omega) (by omega) (hmod s hX)).bd (fun r u q => ?_)
      rw [if_neg (by decide)]
      cases ho : mnS (σ 66) (lawN (σ 66)) N 0 g9 (W3 a b c) with
      | some k =>
        rw [ho] at q
        obtain ⟨rfl, q2, -⟩ := q
        exact Tm.ret ⟨rfl, ((hfr s).tr q2).M⟩
      | none =>
        rw [ho] at q
        obtain ⟨rfl, q2, -⟩ := q
        exact Tm.ret ⟨rfl, ((hfr s).tr q2).M⟩
  · cases hpm : manV N x
    · refine st_read hI (r := (-1 : Int32)) ?_ ?_
      · rw [hx1]
        unfold p_X11_manned_B32
        rw [if_neg (by decide), if_neg hx, x_has hL.1, bndE, b2z, hpm]
        rfl
      · unfold p_X12_manned
        simp only [m_isIn, bndE, b2z, ha, if_true, hb, hc, if_neg hx, m_isMan h.1 h8, hpm]
        rfl
    · have hpp := hpm
      obtain ⟨p, hp, rfl⟩ := man_n2 h8 hpm
      refine st_scr hI (r := match mnS (σ 66) (lawN (σ 66)) N 0 g9 (W3 a b c) with
        | some k => n2 (k p)
        | none => -4) ?_ (fun s hX => ?_)
      · rw [hx1]
        unfold p_X11_manned_B32 p_X11_manned_B59
        rw [if_neg (by decide), if_neg hx, x_has hL.1, bndE, b2z, hpp, if_pos rfl, ltE, e17]
        refine (x_lookAt hL hw.2).bd (fun _ s q => ?_)
        refine (x_canMan h8 q.2 ha4 hb4 hc4).bd (fun v u q2 => ?_)
        rw [if_neg hx]
        obtain ⟨q3, q4⟩ := q2
        cases ho : mnS (σ 66) (lawN (σ 66)) N 0 g9 (W3 a b c) with
        | some k =>
          rw [ho] at q4
          obtain ⟨rfl, q5⟩ := q4
          rw [if_neg (by decide)]
          simp (disch := omega) only [n2_nat, iin, ltE, q5 p hp]
          exact Tm.ret ⟨rfl, q.1.tr q3⟩
        | none =>
          rw [ho] at q4
          have q4 : v = 0 := q4
          rw [q4, if_pos rfl]
          exact Tm.ret ⟨rfl, q.1.tr q3⟩
      · have e0 : s 66 0 = n2 N := by rw [hX 66 (by decide)]; exact h.1
        unfold p_X12_manned p_X12_manned_B44
        simp (disch := omega) only [m_isIn, bndE, b2z, ha, if_true, hb, hc, if_neg hx, m_isMan e0 h8, hpp, ii0, ii1, ii2, c0, c1, c2, wrE]
        refine (m_manned h N 0 g9 (W3 a b c) _ 10 (by omega) (by omega) (hmod s hX)).bd (fun r u q => ?_)
        rw [ige0 (by omega)]
        cases ho : mnS (σ 66) (lawN (σ 66)) N 0 g9 (W3 a b c) with
        | some k =>
          rw [ho] at q
          obtain ⟨rfl, q2, q3⟩ := q
          rw [if_neg (by decide)]
          simp (disch := omega) only [n2_nat, iin, ltE, q3 p hp]
          exact Tm.ret ⟨rfl, ((hfr s).tr q2).M⟩
        | none =>
          rw [ho] at q
          obtain ⟨rfl, q2, -⟩ := q
          rw [if_pos rfl]
          exact Tm.ret ⟨rfl, ((hfr s).tr q2).M⟩
