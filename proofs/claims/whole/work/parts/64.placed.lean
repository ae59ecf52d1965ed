/-! the model's search in the memory -/
def enM (v : Nat) : Int32 := if v = 9 then -4 else n2 v
theorem enM_eq : ∀ v < 10, ∀ b < 9, (enM v = n2 b) ↔ v = b := by decide +kernel
theorem fd_step {β : Type} {f : Nat → Option β} {m b : Nat} (hb : b < m) : fd f (m - b) b = match f b with
    | some r => some r
    | none => fd f (m - (b + 1)) (b + 1) := by
  rw [show m - b = (m - (b + 1)) + 1 by omega]
  rfl
theorem fo_and (c : Nat → Bool) : ∀ t p0 m, fo (fun q m => m && c q) t p0 m = (m && al c t p0) := by
  intro t
  induction t with
  | zero => intro p0 m; exact (Bool.and_true m).symm
  | succ t ih =>
    intro p0 m
    show fo (fun q m => m && c q) t (p0 + 1) (m && c p0) = _
    rw [ih, Bool.and_assoc]
    rfl
def FrG (τ s : Mem) : Prop := ∀ o, o ≠ 71 → s o = τ o
theorem FrG.tr {a b c : Mem} (h1 : FrG a b) (h2 : FrG b c) : FrG a c := fun o ho => (h2 o ho).trans (h1 o ho)
theorem FrG.w {a b : Mem} (h : FrG a b) {k : Nat} {v : Int32} : FrG a (mu b 71 k v) := fun o ho => (mu_off ho).trans (h o ho)
def BkM (p : Nat) (τ s : Mem) : Prop := FrG τ s ∧ ∀ q, q < p → s 71 q = τ 71 q
def PoM (N p : Nat) (τ : Mem) : Option (Nat → Nat) → Int32 → Mem → Prop
  | some h, r, s => r = 1 ∧ FrG τ s ∧ ∀ q, q < N → s 71 q = enM (h q)
  | none, r, s => r = 0 ∧ BkM p τ s
def SeM (τ : Mem) (R : Nat → Int32) (p : Nat) (g : Nat → Nat) : Prop := τ 66 = R ∧ ∀ q, q < p → τ 71 q = enM (g q) ∧ g q ≤ 9
section PLACED
variable {R : Nat → Int32} {N m : Nat}
theorem SeM.bk {τ s : Mem} {p : Nat} {g : Nat → Nat} (h : SeM τ R p g) (hb : BkM p τ s) : SeM s R p g := ⟨(hb.1 66 (by decide)).trans h.1, fun q hq => by rw [hb.2 q hq]; exact h.2 q hq⟩
theorem SeM.put {τ : Mem} {p b : Nat} {g : Nat → Nat} (h : SeM τ R p g) (hb : b ≤ 9) {v : Int32} (hv : v = enM b) : SeM (mu τ 71 p v) R (p + 1) (sg g p b) := by
  refine ⟨(mu_off (by decide)).trans h.1, fun q hq => ?_⟩
  by_cases e : q = p
  · subst e
    rw [mu_at, sg_at]
    exact ⟨hv, hb⟩
  · rw [mu_ne (by omega), sg_ne e]
    exact h.2 q (by omega)
theorem m_plIn (hR : OkR R N) {τ : Mem} {p b : Nat} {g : Nat → Nat} (hp : p < N) (hb : b < 9) (hS : SeM τ R p g) (rc : Int32 → Int32 → Mem → Option (Int32 × Mem)) (x2 : Int32) (k : Int32 → Int32 → Mem → Option (Int32 × Mem)) : p_X12_isPlaced_L56 k rc (n2 p) x2 1000 (n2 b) 1 0 τ = k (n2 b) (b2 (okG R (lawN R) g p b)) τ := by
  have h8 := hR.2.1
  have hR' : OkR (τ 66) N := by rw [hS.1]; exact hR
  have k1 := lp (L := fun j q a => p_X12_isPlaced_L56 k rc (n2 p) x2 j (n2 b) (b2 a) (n2 q) τ) (f := fun q a => a && (!decide (g q = b) || mayV R p q (n2 (lawN R)))) (fin := fun a => k (n2 b) (b2 a) τ) (N := p) (fun _ _ => True) (fun _ _ _ _ => trivial) (fun j q a hq _ => ?_) (fun j a _ => ?_) p 0 true 1000 (by omega) (by omega) trivial
  · rw [fo_and] at k1
    exact k1
  · show p_X12_isPlaced_B56 (p_X12_isPlaced_L56 k rc (n2 p) x2 j) k rc (n2 p) x2 (n2 b) (b2 a) (n2 q) τ = _
    obtain ⟨e1, e2⟩ := hS.2 q hq
    have hm := m_my hR' hp (show q < N by omega)
    rw [hS.1] at hm
    unfold p_X12_isPlaced_B56 p_X12_isPlaced_B88 p_X12_isPlaced_B93
    simp (disch := omega) only [ile_f, n2_nat, iin, ltE, e1, hm, bndE, b2z, n2_succ, b2_and1, b2_and0]
    by_cases q1 : g q = b
    · rw [if_pos ((enM_eq _ (by omega) _ hb).mpr q1), decide_eq_true q1]
      show (if mayV R p q (n2 (lawN R)) = true then _ else _) = _
      cases mayV R p q (n2 (lawN R)) <;> cases a <;> rfl
    · rw [if_neg (fun e => q1 ((enM_eq _ (by omega) _ hb).mp e)), decide_eq_false q1]
      cases a <;> rfl
  · show p_X12_isPlaced_B56 (p_X12_isPlaced_L56 k rc (n2 p) x2 j) k rc (n2 p) x2 (n2 b) (b2 a) (n2 p) τ = _
    unfold p_X12_isPlaced_B56
    rw [ile_t ⟨by omega, by omega⟩]
theorem m_placed (hR : OkR R N) (hm : m ≤ 8) : ∀ t p g τ d, p + t = N → t < d → SeM τ R p g → Tm (p_X12_isPlaced d (n2 p) (n2 m) τ) (PoM N p τ (plS R (lawN R) m t p g)) := by
  have h8 := hR.2.1
  intro t
  induction t with
  | zero =>
    intro p g τ d hp hd hS
    obtain ⟨d, rfl⟩ : ∃ k, d = k + 1 := ⟨d - 1, by omega⟩
    show Tm (p_X12_isPlaced_E (p_X12_isPlaced d) (n2 p) (n2 m) τ) _
    unfold p_X12_isPlaced_E
    simp (disch := omega) only [ii0, c0, ltE, hS.1, hR.1, ieq]
    rw [if_pos (by omega)]
    exact Tm.ret ⟨rfl, fun o _ => rfl, fun q hq => (hS.2 q (by omega)).1⟩
  | succ t ih =>
    intro p g τ d hp hd hS
    obtain ⟨d, rfl⟩ : ∃ k, d = k + 1 := ⟨d - 1, by omega⟩
    show Tm (p_X12_isPlaced_E (p_X12_isPlaced d) (n2 p) (n2 m) τ) _
    unfold p_X12_isPlaced_E
    simp (disch := omega) only [ii0, c0, ltE, hS.1, hR.1, ieq, m_of3, bndE, n2_nat, iin]
    rw [if_neg (by omega)]
    simp only [plS]
    by_cases hl : lo R p = 1
    · rw [if_pos (show R (4 + 4 * p + 3) = 1 from hl), if_pos hl, wrE, n2_succ]
      refine (ih (p + 1) _ _ d (by omega) (by omega) (hS.put (b := 9) (by omega) rfl)).bd (fun r s q => ?_)
      cases ho : plS R (lawN R) m t (p + 1) (sg g p 9) with
      | some h =>
        rw [ho] at q
        obtain ⟨rfl, q2, q3⟩ := q
        exact Tm.ret ⟨rfl, (FrG.w (fun o _ => rfl)).tr q2, q3⟩
      | none =>
        rw [ho] at q
        obtain ⟨rfl, q2, q3⟩ := q
        exact Tm.ret ⟨rfl, (FrG.w (fun o _ => rfl)).tr q2, fun q hq => (q3 q (by omega)).trans (mu_ne (by omega))⟩
    · rw [if_neg (show ¬ R (4 + 4 * p + 3) = 1 from hl), if_neg hl]
      generalize hF : (fun b => if okG R (lawN R) g p b = true then plS R (lawN R) m t (p + 1) (sg g p b) else none) = F
      generalize hZ : fd F m 0 = Z
      refine lpT (L := fun j b (_ : Unit) s => p_X12_isPlaced_L45 (p_X12_isPlaced d) (n2 p) (n2 m) j (n2 b) s) (N := m) (fun b _ s => BkM p τ s ∧ fd F (m - b) b = Z) (fun j b _ s hb hI hK => ?_) (fun j _ s hI => ?_) m 0 () τ 1000 (by omega) (by omega) ⟨⟨fun o _ => rfl, fun q _ => rfl⟩, hZ⟩
      · obtain ⟨hbk, he⟩ := hI
        rw [fd_step hb] at he
        have hS2 := hS.bk hbk
        have hFb : F b = if okG R (lawN R) g p b = true then plS R (lawN R) m t (p + 1) (sg g p b) else none := by rw [← hF]
        show Tm (p_X12_isPlaced_B45 (p_X12_isPlaced_L45 (p_X12_isPlaced d) (n2 p) (n2 m) j) (p_X12_isPlaced d) (n2 p) (n2 m) (n2 b) s) _
        unfold p_X12_isPlaced_B45 p_X12_isPlaced_B127
        rw [ile_f ⟨by omega, by omega⟩, m_plIn hR (show p < N by omega) (show b < 9 by omega) hS2]
        simp (disch := omega) only [n2_nat, iin, wrE, b2z, n2_succ]
        by_cases q1 : okG R (lawN R) g p b = true
        · rw [if_pos q1] at hFb ⊢
          have hb9 : n2 b = enM b := by unfold enM; rw [if_neg (by omega)]
          refine (ih (p + 1) _ _ d (by omega) (by omega) (hS2.put (b := b) (by omega) hb9)).bd (fun r u q => ?_)
          cases ho : plS R (lawN R) m t (p + 1) (sg g p b) with
          | some h =>
            rw [ho] at q hFb
            rw [hFb] at he
            obtain ⟨rfl, q2, q3⟩ := q
            rw [if_neg (by decide), ← he]
            exact Tm.ret ⟨rfl, (hbk.1.w).tr q2, q3⟩
          | none =>
            rw [ho] at q hFb
            rw [hFb] at he
            obtain ⟨rfl, q2, q3⟩ := q
            rw [if_pos rfl]
            exact hK () u ⟨⟨(hbk.1.w).tr q2, fun q hq => ((q3 q (by omega)).trans (mu_ne (by omega))).trans (hbk.2 q hq)⟩, he⟩
        · rw [if_neg q1] at hFb ⊢
          rw [hFb] at he
          exact hK () _ ⟨⟨hbk.1.w, fun q hq => (mu_ne (by omega)).trans (hbk.2 q hq)⟩, he⟩
      · obtain ⟨hbk, he⟩ := hI
        rw [Nat.sub_self] at he
        have he : none = Z := he
        rw [← he]
        show Tm (p_X12_isPlaced_B45 (p_X12_isPlaced_L45 (p_X12_isPlaced d) (n2 p) (n2 m) j) (p_X12_isPlaced d) (n2 p) (n2 m) (n2 m) s) _
        unfold p_X12_isPlaced_B45
        rw [ile_t ⟨by omega, by omega⟩]
        exact Tm.ret ⟨rfl, hbk⟩
end PLACED
def FrN (τ s : Mem) : Prop := ∀ o, o ≠ 71 → o ≠ 72 → s o = τ o
theorem FrN.rf (τ : Mem) : FrN τ τ := fun _ _ _ => rfl
theorem FrN.tr {a b c : Mem} (h1 : FrN a b) (h2 : FrN b c) : FrN a c := fun o h1' h2' => (h2 o h1' h2').trans (h1 o h1' h2')
theorem FrN.w {a b : Mem} (h : FrN a b) {o k : Nat} {v : Int32} (ho : o = 71 ∨ o = 72) : FrN a (mu b o k v) := fun q h1 h2 => (mu_off (by omega)).trans (h q h1 h2)
def BkN (p : Nat) (τ s : Mem) : Prop := FrN τ s ∧ s 72 = τ 72 ∧ ∀ q, q < p → s 71 q = τ 71 q
def PoN (N p : Nat) (τ : Mem) : Option (Nat → Nat) → Int32 → Mem → Prop
  | some h, r, s => r = 1 ∧ FrN τ s ∧ ∀ q, q < N → s 71 q = n2 (h q)
  | none, r, s => r = 0 ∧ BkN p τ s
theorem PoN.bk {N p : Nat} {τ s : Mem} {o : Option (Nat → Nat)} {r : Int32} {u : Mem} (hb : BkN p τ s) (h : PoN N p s o r u) : PoN N p τ o r u := by
  cases o with
  | none => exact ⟨h.1, hb.1.tr h.2.1, h.2.2.1.trans hb.2.1, fun q hq => (h.2.2.2 q hq).trans (hb.2.2 q hq)⟩
  | some k => exact ⟨h.1, hb.1.tr h.2.1, h.2.2⟩
def SeN (τ : Mem) (R : Nat → Int32) (p : Nat) (g W : Nat → Nat) : Prop := τ 66 = R ∧ (∀ q, q < p → τ 71 q = n2 (g q) ∧ g q ≤ 9) ∧ ∀ b, b < 3 → τ 72 b = n2 (W b) ∧ W b ≤ 8
def zo (a : Option (Nat → Nat)) : Option (Nat → Nat) → Option (Nat → Nat)
  | some r => some r
  | none => a
section MANNED
variable {R : Nat → Int32} {N : Nat}
theorem SeN.bk {τ s : Mem} {p : Nat} {g W : Nat → Nat} (h : SeN τ R p g W) (hb : BkN p τ s) : SeN s R p g W := ⟨(hb.1 66 (by decide) (by decide)).trans h.1, fun q hq => by rw [hb.2.2 q hq]; exact h.2.1 q hq, fun b hb' => by rw [hb.2.1]; exact h.2.2 b hb'⟩
theorem m_mnIn (hR : OkR R N) {τ : Mem} {p b : Nat} {g W : Nat → Nat} (hp : p < N) (hb : b < 9) (hS : SeN τ R p g W) (rc : Int32 → Mem → Option (Int32 × Mem)) (a0 : Bool) (k : Int32 → Int32 → Mem → Option (Int32 × Mem)) : p_X12_isManned_L77 k rc (n2 p) 1000 (n2 b) (b2 a0) 0 τ = k (n2 b) (b2 (a0 && okG R (lawN R) g p b)) τ := by
  have h8 := hR.2.1
  have hR' : OkR (τ 66) N := by rw [hS.1]; exact hR
  have k1 := lp (L := fun j q a => p_X12_isManned_L77 k rc (n2 p) j (n2 b) (b2 a) (n2 q) τ) (f := fun q a => a && (!decide (g q = b) || mayV R p q (n2 (lawN R)))) (fin := fun a => k (n2 b) (b2 a) τ) (N := p) (fun _ _ => True) (fun _ _ _ _ => trivial) (fun j q a hq _ => ?_) (fun j a _ => ?_) p 0 a0 1000 (by omega) (by omega) trivial
  · rw [fo_and] at k1
    exact k1
  · show p_X12_isManned_B77 (p_X12_isManned_L77 k rc (n2 p) j) k rc (n2 p) (n2 b) (b2 a) (n2 q) τ = _
    obtain ⟨e1, e2⟩ := hS.2.1 q hq
    have hm := m_my hR' hp (show q < N by omega)
    rw [hS.1] at hm
    unfold p_X12_isManned_B77 p_X12_isManned_B108 p_X12_isManned_B113
    simp (disch := omega) only [ile_f, n2_nat, iin, ltE, e1, ieq, hm, bndE, b2z, n2_succ, b2_and1, b2_and0]
    by_cases q1 : g q = b
    · rw [if_pos q1, decide_eq_true q1]
      show (if mayV R p q (n2 (lawN R)) = true then _ else _) = _
      cases mayV R p q (n2 (lawN R)) <;> cases a <;> rfl
    · rw [if_neg q1, decide_eq_false q1]
      cases a <;> rfl
  · show p_X12_isManned_B77 (p_X12_isManned_L77 k rc (n2 p) j) k rc (n2 p) (n2 b) (b2 a) (n2 p) τ = _
    unfold p_X12_isManned_B77
    rw [ile_t ⟨by omega, by omega⟩]
theorem SeN.ash {τ : Mem} {p : Nat} {g W : Nat → Nat} (h : SeN τ R p g W) : SeN (mu τ 71 p 9) R (p + 1) (sg g p 9) W := by
  refine ⟨(mu_off (by decide)).trans h.1, fun q hq => ?_, fun b hb => by rw [mu_off (by decide)]; exact h.2.2 b hb⟩
  by_cases e : q = p
  · subst e
    rw [mu_at, sg_at]
    exact ⟨rfl, Nat.le_refl _⟩
  · rw [mu_ne (by omega), sg_ne e]
    exact h.2.1 q (by omega)
theorem SeN.in {τ : Mem} {p b : Nat} {g W : Nat → Nat} (hb : b < 3) (hW : 0 < W b) (h : SeN τ R p g W) : SeN (mu (mu τ 71 p (n2 b)) 72 b (n2 (W b - 1))) R (p + 1) (sg g p b) (dc W b) := by
  refine ⟨((mu_off (by decide)).trans (mu_off (by decide))).trans h.1, fun q hq => ?_, fun c hc => ?_⟩
  · rw [mu_off (by decide)]
    by_cases e : q = p
    · subst e
      rw [mu_at, sg_at]
      exact ⟨rfl, by omega⟩
    · rw [mu_ne (by omega), sg_ne e]
      exact h.2.1 q (by omega)
  · have h1 := h.2.2 c hc
    unfold dc
    by_cases e : c = b
    · subst e
      rw [mu_at, if_pos rfl]
      exact ⟨rfl, by omega⟩
    · rw [mu_ne (by omega), mu_off (by decide), if_neg e]
      exact h1
theorem m_manned (hR : OkR R N) : ∀ t p g W τ d, p + t = N → t < d → SeN τ R p g W → Tm (p_X12_isManned d (n2 p) τ) (PoN N p τ (mnS R (lawN R) t p g W)) := by
  have h8 := hR.2.1
  intro t
  induction t with
  | zero =>
    intro p g W τ d hp hd hS
    obtain ⟨d, rfl⟩ : ∃ k, d = k + 1 := ⟨d - 1, by omega⟩
    show Tm (p_X12_isManned_E (p_X12_isManned d) (n2 p) τ) _
    obtain ⟨w0, v0⟩ := hS.2.2 0 (by omega)
    obtain ⟨w1, v1⟩ := hS.2.2 1 (by omega)
    obtain ⟨w2, v2⟩ := hS.2.2 2 (by omega)
    unfold p_X12_isManned_E
    simp (disch := omega) only [ii0, ii1, ii2, c0, c1, c2, ltE, hS.1, hR.1, ieq, w0, w1, w2, n2_add, ieq0]
    rw [if_pos (by omega)]
    simp only [mnS]
    by_cases q1 : W 0 + W 1 + W 2 = 0
    · rw [if_pos q1, if_pos q1]
      exact Tm.ret ⟨rfl, FrN.rf τ, fun q hq => (hS.2.1 q (by omega)).1⟩
    · rw [if_neg q1, if_neg q1]
      exact Tm.ret ⟨rfl, FrN.rf τ, rfl, fun q hq => rfl⟩
  | succ t ih =>
    intro p g W τ d hp hd hS
    obtain ⟨d, rfl⟩ : ∃ k, d = k + 1 := ⟨d - 1, by omega⟩
    show Tm (p_X12_isManned_E (p_X12_isManned d) (n2 p) τ) _
    have h173 : ∀ s, BkN p τ s → Tm (p_X12_isManned_B173 (p_X12_isManned d) (n2 p) s) (PoN N p τ (mnS R (lawN R) t (p + 1) (sg g p 9) W)) := fun s hb => by
      unfold p_X12_isManned_B173
      simp (disch := omega) only [n2_nat, iin, wrE, n2_succ]
      refine (ih (p + 1) _ W _ d (by omega) (by omega) (hS.bk hb).ash).bd (fun r u q => ?_)
      cases ho : mnS R (lawN R) t (p + 1) (sg g p 9) W with
      | some h =>
        rw [ho] at q
        obtain ⟨rfl, q2, q3⟩ := q
        exact Tm.ret ⟨rfl, (hb.1.w (Or.inl rfl)).tr q2, q3⟩
      | none =>
        rw [ho] at q
        obtain ⟨rfl, q2, q3, q4⟩ := q
        exact Tm.ret ⟨rfl, (hb.1.w (Or.inl rfl)).tr q2, (q3.trans (mu_off (by decide))).trans hb.2.1, fun q hq => ((q4 q (by omega)).trans (mu_ne (by omega))).trans (hb.2.2 q hq)⟩
    unfold p_X12_isManned_E
    simp (disch := omega) only [ii0, c0, ltE, hS.1, hR.1, ieq]
    rw [if_neg (by omega)]
    simp only [mnS]
    have hbk0 : BkN p τ τ := ⟨FrN.rf τ, rfl, fun q _ => rfl⟩
    by_cases hl : lo R p = 1
    · rw [if_pos hl]
      show Tm (p_X12_isManned_B41 (p_X12_isManned_L41 _ (p_X12_isManned d) (n2 p) 999) _ (p_X12_isManned d) (n2 p) 0 τ) _
      unfold p_X12_isManned_B41
      rw [if_neg (by decide)]
      simp (disch := omega) only [m_of3, bndE, n2_nat, iin, ltE, hS.1]
      rw [if_neg (show ¬ R (4 + 4 * p + 3) = 0 from fun e => by
        have h1 : lo R p = 0 := e
        rw [hl] at h1
        exact absurd h1 (by decide))]
      exact h173 τ hbk0
    · rw [if_neg hl]
      have hl0 : R (4 + 4 * p + 3) = 0 := by
        rcases (hR.2.2.1 p (by omega)).2.2.2 with h | h
        · exact h
        · exact absurd h.1 hl
      generalize hF : (fun b => if 0 < W b then (if okG R (lawN R) g p b = true then mnS R (lawN R) t (p + 1) (sg g p b) (dc W b) else none) else none) = F
      generalize hAL : mnS R (lawN R) t (p + 1) (sg g p 9) W = AL at h173 ⊢
      have hgo : ∀ Z, fd F 3 0 = Z → Tm (p_X12_isManned_L41 (p_X12_isManned_B173 (p_X12_isManned d) (n2 p)) (p_X12_isManned d) (n2 p) 1000 (n2 0) τ) (PoN N p τ (zo AL Z)) := by
        intro Z hZ
        refine lpT (L := fun j b (_ : Unit) s => p_X12_isManned_L41 (p_X12_isManned_B173 (p_X12_isManned d) (n2 p)) (p_X12_isManned d) (n2 p) j (n2 b) s) (N := 3) (fun b _ s => BkN p τ s ∧ fd F (3 - b) b = Z) (fun j b _ s hb hI hK => ?_) (fun j _ s hI => ?_) 3 0 () τ 1000 (by omega) (by omega) ⟨hbk0, hZ⟩
        · obtain ⟨hbk, he⟩ := hI
          rw [fd_step hb] at he
          have hS2 := hS.bk hbk
          obtain ⟨w1, w2⟩ := hS2.2.2 b hb
          have hFb : F b = if 0 < W b then (if okG R (lawN R) g p b = true then mnS R (lawN R) t (p + 1) (sg g p b) (dc W b) else none) else none := by rw [← hF]
          show Tm (p_X12_isManned_B41 (p_X12_isManned_L41 (p_X12_isManned_B173 (p_X12_isManned d) (n2 p)) (p_X12_isManned d) (n2 p) j) (p_X12_isManned_B173 (p_X12_isManned d) (n2 p)) (p_X12_isManned d) (n2 p) (n2 b) s) _
          have h73 : ∀ a0 : Bool, a0 = decide (0 < W b) → Tm (p_X12_isManned_B73 (p_X12_isManned_L41 (p_X12_isManned_B173 (p_X12_isManned d) (n2 p)) (p_X12_isManned d) (n2 p) j) (p_X12_isManned d) (n2 p) (n2 b) (b2 a0) s) (PoN N p τ (zo AL Z)) := fun a0 ha0 => by
            unfold p_X12_isManned_B73 p_X12_isManned_B167
            rw [m_mnIn hR (show p < N by omega) (show b < 9 by omega) hS2]
            simp (disch := omega) only [b2z, n2_nat, iin, wrE, ltE, mu_off, w1, n2_succ]
            by_cases q1 : 0 < W b
            · rw [if_pos q1] at hFb
              rw [ha0, decide_eq_true q1, Bool.true_and, n2_dec q1 (by omega)]
              by_cases q2 : okG R (lawN R) g p b = true
              · rw [if_pos q2] at hFb ⊢
                refine (ih (p + 1) _ _ _ d (by omega) (by omega) (hS2.in hb q1)).bd (fun r u q => ?_)
                cases ho : mnS R (lawN R) t (p + 1) (sg g p b) (dc W b) with
                | some h =>
                  rw [ho] at q hFb
                  rw [hFb] at he
                  obtain ⟨rfl, q2, q3⟩ := q
                  rw [if_neg (by decide), ← he]
                  exact Tm.ret ⟨rfl, ((hbk.1.w (Or.inl rfl)).w (Or.inr rfl)).tr q2, q3⟩
                | none =>
                  rw [ho] at q hFb
                  rw [hFb] at he
                  obtain ⟨rfl, g1, g2, g3⟩ := q
                  rw [if_pos rfl, g2, mu_at, n2_succ, show W b - 1 + 1 = W b by omega]
                  refine hK () _ ⟨⟨(((hbk.1.w (Or.inl rfl)).w (Or.inr rfl)).tr g1).w (Or.inr rfl), ?_, fun q hq => ?_⟩, he⟩
                  · rw [mu_row, g2, mu_row, upd_upd, mu_off (by decide), upd_self w1]
                    exact hbk.2.1
                  · rw [mu_off (by decide), g3 q (by omega), mu_off (by decide), mu_ne (by omega)]
                    exact hbk.2.2 q hq
              · rw [if_neg q2] at hFb ⊢
                rw [hFb] at he
                exact hK () s ⟨hbk, he⟩
            · rw [if_neg q1] at hFb
              rw [hFb] at he
              rw [ha0, decide_eq_false q1, Bool.false_and, if_neg (by decide)]
              exact hK () s ⟨hbk, he⟩
          unfold p_X12_isManned_B41
          rw [show (if (3 : Int32) ≤ n2 b then _ else _) = _ from ile_f (a := 3) (b := b) ⟨by omega, by omega⟩]
          simp (disch := omega) only [m_of3, bndE, n2_nat, iin, ltE, hS2.1, hl0, if_true, w1, ile0]
          by_cases q1 : W b = 0
          · rw [if_pos q1]
            exact h73 false (by rw [decide_eq_false (by omega)])
          · rw [if_neg q1]
            exact h73 true (by rw [decide_eq_true (by omega)])
        · obtain ⟨hbk, he⟩ := hI
          have he : none = Z := he
          rw [← he]
          show Tm (p_X12_isManned_B41 (p_X12_isManned_L41 (p_X12_isManned_B173 (p_X12_isManned d) (n2 p)) (p_X12_isManned d) (n2 p) j) (p_X12_isManned_B173 (p_X12_isManned d) (n2 p)) (p_X12_isManned d) (n2 p) (n2 3) s) _
          unfold p_X12_isManned_B41
          rw [show (if (3 : Int32) ≤ n2 3 then _ else _) = _ from ile_t (a := 3) (b := 3) ⟨by omega, by omega⟩]
          exact h173 s hbk
      exact hgo _ rfl
end MANNED
