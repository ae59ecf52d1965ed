/-! seats, found one by one -/
def sg (g : Nat → Nat) (p b : Nat) : Nat → Nat := fun q => if q = p then b else g q
theorem sg_at (g : Nat → Nat) (p b : Nat) : sg g p b p = b := if_pos rfl
theorem sg_ne {g : Nat → Nat} {p b q : Nat} (h : q ≠ p) : sg g p b q = g q := if_neg h
def fd {β : Type} (f : Nat → Option β) : Nat → Nat → Option β
  | 0, _ => none
  | t + 1, b => match f b with
    | some r => some r
    | none => fd f t (b + 1)
def fx {β : Type} (f : Nat → Option β) (s : Nat → Bool) : Nat → Nat → Option (Option β)
  | 0, _ => none
  | t + 1, b => match f b with
    | some r => some (some r)
    | none => if s b = true then some none else fx f s t (b + 1)
def okG (R : Nat → Int32) (w : Nat) (g : Nat → Nat) (p b : Nat) : Bool := al (fun q => !decide (g q = b) || mayV R p q (n2 w)) p 0
def emG (g : Nat → Nat) (p b : Nat) : Bool := al (fun q => !decide (g q = b)) p 0
theorem okG_iff {R : Nat → Int32} {w p b : Nat} {g : Nat → Nat} : okG R w g p b = true ↔ ∀ q, q < p → g q = b → mayV R p q (n2 w) = true := by
  unfold okG
  rw [al_iff]
  constructor
  · intro h q hq e
    have h1 := h q (by omega) (by omega)
    rw [decide_eq_true e] at h1
    exact h1
  · intro h q _ hq
    by_cases e : g q = b
    · rw [h q (by omega) e, Bool.or_true]
    · rw [decide_eq_false e]
      rfl
theorem emG_iff {p b : Nat} {g : Nat → Nat} : emG g p b = true ↔ ∀ q, q < p → g q ≠ b := by
  unfold emG
  rw [al_iff]
  constructor
  · intro h q hq e
    have h1 := h q (by omega) (by omega)
    rw [decide_eq_true e] at h1
    cases h1
  · intro h q _ hq
    rw [decide_eq_false (h q (by omega))]
    rfl
/-- the model's way: so many boats -/
def plS (R : Nat → Int32) (w m : Nat) : Nat → Nat → (Nat → Nat) → Option (Nat → Nat)
  | 0, _, g => some g
  | t + 1, p, g => if lo R p = 1 then plS R w m t (p + 1) (sg g p 9) else fd (fun b => if okG R w g p b = true then plS R w m t (p + 1) (sg g p b) else none) m 0
def dc (W : Nat → Nat) (b : Nat) : Nat → Nat := fun k => if k = b then W b - 1 else W k
/-- the one that looks at rooms too -/
def clG (R : Nat → Int32) (w m : Nat) (ak : Bool) : Nat → Nat → (Nat → Nat) → (Nat → Nat) → Nat → Option (Nat → Nat)
  | 0, _, g, _, _ => some g
  | t + 1, p, g, W, I => if lo R p = 1 then clG R w m ak t (p + 1) (sg g p 9) W I else
      match fx (fun b => if 0 < W b then (if okG R w g p b = true then clG R w m ak t (p + 1) (sg g p b) (dc W b) I else none) else none) (fun b => ak && emG g p b) m 0 with
      | some o => o
      | none => if 0 < I then clG R w m ak t (p + 1) (sg g p 9) W (I - 1) else none
def mnS (R : Nat → Int32) (w : Nat) : Nat → Nat → (Nat → Nat) → (Nat → Nat) → Option (Nat → Nat)
  | 0, _, g, W => if W 0 + W 1 + W 2 = 0 then some g else none
  | t + 1, p, g, W => if lo R p = 1 then mnS R w t (p + 1) (sg g p 9) W else
      match fd (fun b => if 0 < W b then (if okG R w g p b = true then mnS R w t (p + 1) (sg g p b) (dc W b) else none) else none) 3 0 with
      | some r => some r
      | none => mnS R w t (p + 1) (sg g p 9) W
theorem fd_none {β : Type} {f : Nat → Option β} : ∀ t b, fd f t b = none ↔ ∀ k, b ≤ k → k < b + t → f k = none := by
  intro t
  induction t with
  | zero => intro b; exact ⟨fun _ k h1 h2 => by omega, fun _ => rfl⟩
  | succ t ih =>
    intro b
    simp only [fd]
    cases h : f b with
    | none =>
      simp only
      rw [ih]
      constructor
      · intro h1 k hk1 hk2
        by_cases e : k = b
        · rw [e]
          exact h
        · exact h1 k (by omega) (by omega)
      · intro h1 k hk1 hk2
        exact h1 k (by omega) (by omega)
    | some r =>
      simp only
      constructor
      · intro h1
        cases h1
      · intro h1
        rw [h1 b (by omega) (by omega)] at h
        cases h
theorem fd_some {β : Type} {f : Nat → Option β} {r : β} : ∀ t b, fd f t b = some r → ∃ k, b ≤ k ∧ k < b + t ∧ f k = some r := by
  intro t
  induction t with
  | zero => intro b h; cases h
  | succ t ih =>
    intro b h
    simp only [fd] at h
    cases h1 : f b with
    | none =>
      rw [h1] at h
      obtain ⟨k, k1, k2, k3⟩ := ih (b + 1) h
      exact ⟨k, by omega, by omega, k3⟩
    | some r' =>
      rw [h1] at h
      cases h
      exact ⟨b, by omega, by omega, h1⟩
/-! whether it can be -/
section PLACE
variable {R : Nat → Int32} {w m N : Nat}
def VP (R : Nat → Int32) (w m N p : Nat) (h : Nat → Nat) : Prop := ∀ r, p ≤ r → r < N → (lo R r = 1 ∧ h r = 9) ∨ (¬ lo R r = 1 ∧ h r < m ∧ ∀ q, q < r → h q = h r → mayV R r q (n2 w) = true)
theorem plS_some : ∀ t p g h, p + t = N → plS R w m t p g = some h → (∀ q, q < p → h q = g q) ∧ VP R w m N p h := by
  intro t
  induction t with
  | zero =>
    intro p g h hp he
    cases he
    exact ⟨fun q _ => rfl, fun r h1 h2 => by omega⟩
  | succ t ih =>
    intro p g h hp he
    simp only [plS] at he
    by_cases hl : lo R p = 1
    · rw [if_pos hl] at he
      obtain ⟨h1, h2⟩ := ih (p + 1) _ h (by omega) he
      refine ⟨fun q hq => (h1 q (by omega)).trans (sg_ne (by omega)), fun r hr1 hr2 => ?_⟩
      by_cases e : r = p
      · subst e
        exact Or.inl ⟨hl, (h1 r (by omega)).trans (sg_at _ _ _)⟩
      · exact h2 r (by omega) hr2
    · rw [if_neg hl] at he
      obtain ⟨b, -, hb, hf⟩ := fd_some m 0 he
      by_cases hok : okG R w g p b = true
      · rw [if_pos hok] at hf
        obtain ⟨h1, h2⟩ := ih (p + 1) _ h (by omega) hf
        refine ⟨fun q hq => (h1 q (by omega)).trans (sg_ne (by omega)), fun r hr1 hr2 => ?_⟩
        by_cases e : r = p
        · subst e
          have e1 : h r = b := (h1 r (by omega)).trans (sg_at _ _ _)
          refine Or.inr ⟨hl, by omega, fun q hq hqe => ?_⟩
          refine okG_iff.mp hok q hq ?_
          rw [← e1, ← hqe, h1 q (by omega), sg_ne (by omega)]
        · exact h2 r (by omega) hr2
      · rw [if_neg hok] at hf
        cases hf
theorem plS_of : ∀ t p g h, p + t = N → (∀ q, q < p → h q = g q) → VP R w m N p h → plS R w m t p g ≠ none := by
  intro t
  induction t with
  | zero => intro p g h _ _ _ he; cases he
  | succ t ih =>
    intro p g h hp h1 h2 he
    simp only [plS] at he
    rcases h2 p (by omega) (by omega) with ⟨hl, h9⟩ | ⟨hl, hm, hmay⟩
    · rw [if_pos hl] at he
      refine ih (p + 1) _ h (by omega) (fun q hq => ?_) (fun r hr1 hr2 => h2 r (by omega) hr2) he
      by_cases e : q = p
      · subst e
        rw [sg_at]
        exact h9
      · rw [sg_ne e]
        exact h1 q (by omega)
    · rw [if_neg hl, fd_none] at he
      have h3 := he (h p) (by omega) (by omega)
      have hok : okG R w g p (h p) = true := okG_iff.mpr (fun q hq e => hmay q hq (by rw [h1 q hq]; exact e))
      rw [if_pos hok] at h3
      refine ih (p + 1) _ h (by omega) (fun q hq => ?_) (fun r hr1 hr2 => h2 r (by omega) hr2) h3
      by_cases e : q = p
      · subst e
        rw [sg_at]
      · rw [sg_ne e]
        exact h1 q (by omega)
def sw (b c x : Nat) : Nat := if x = b then c else if x = c then b else x
theorem sw_inj {b c x y : Nat} (h : sw b c x = sw b c y) : x = y := by
  unfold sw at h
  repeat' split at h
  all_goals omega
/-- what fails in one empty boat fails in another one -/
theorem plS_swap {t p b c : Nat} {g : Nat → Nat} (hp : p + 1 + t = N) (hm : m ≤ 8) (hb : b < m) (hc : c < m) (eb : emG g p b = true) (ec : emG g p c = true) (h : plS R w m t (p + 1) (sg g p b) = none) : plS R w m t (p + 1) (sg g p c) = none := by
  cases he : plS R w m t (p + 1) (sg g p c) with
  | none => rfl
  | some k =>
    exfalso
    obtain ⟨h1, h2⟩ := plS_some (N := N) t (p + 1) (sg g p c) k hp he
    rw [emG_iff] at eb ec
    refine plS_of (N := N) t (p + 1) (sg g p b) (fun q => sw b c (k q)) hp (fun q hq => ?_) (fun r hr1 hr2 => ?_) h
    · show sw b c (k q) = _
      rw [h1 q hq]
      by_cases e : q = p
      · subst e
        rw [sg_at, sg_at]
        unfold sw
        split
        · omega
        · rw [if_pos rfl]
      · rw [sg_ne e, sg_ne e]
        have := eb q (by omega)
        have := ec q (by omega)
        unfold sw
        rw [if_neg (by assumption), if_neg (by assumption)]
    · rcases h2 r hr1 hr2 with ⟨g1, g2⟩ | ⟨g1, g2, g3⟩
      · refine Or.inl ⟨g1, ?_⟩
        show sw b c (k r) = 9
        rw [g2]
        unfold sw
        rw [if_neg (by omega), if_neg (by omega)]
      · refine Or.inr ⟨g1, ?_, fun q hq e => g3 q hq (sw_inj e)⟩
        show sw b c (k r) < m
        unfold sw
        repeat' split
        all_goals omega
/-- no boat is filled before those ahead of it -/
def PreB (m : Nat) (g : Nat → Nat) (p : Nat) : Prop := ∀ b c, b < c → c < m → emG g p b = true → emG g p c = true
theorem pre_set {g : Nat → Nat} {p b : Nat} (h : PreB m g p) (hb : ∀ c, c < b → ¬ emG g p c = true) : PreB m (sg g p b) (p + 1) := by
  intro x y hxy hy hx
  rw [emG_iff] at hx ⊢
  have hxb : x ≠ b := fun e => hx p (by omega) (by rw [sg_at, e])
  have hx2 : emG g p x = true := emG_iff.mpr (fun q hq => by have := hx q (by omega); rwa [sg_ne (by omega)] at this)
  have hxb2 : b < x := by
    by_cases e : x < b
    · exact absurd hx2 (hb x e)
    · omega
  have hy2 := emG_iff.mp (h x y hxy hy hx2)
  intro q hq
  by_cases e : q = p
  · subst e
    rw [sg_at]
    omega
  · rw [sg_ne e]
    exact hy2 q (by omega)
theorem pre_lost {g : Nat → Nat} {p : Nat} (hm : m ≤ 8) (h : PreB m g p) : PreB m (sg g p 9) (p + 1) := by
  intro x y hxy hy hx
  have hx2 : emG g p x = true := emG_iff.mpr (fun q hq => by have := emG_iff.mp hx q (by omega); rwa [sg_ne (by omega)] at this)
  have hy2 := emG_iff.mp (h x y hxy hy hx2)
  rw [emG_iff]
  intro q hq
  by_cases e : q = p
  · subst e
    rw [sg_at]
    omega
  · rw [sg_ne e]
    exact hy2 q (by omega)
theorem cl_pl (hm : m ≤ 8) (h8 : N ≤ 8) : ∀ t p g W, p + t = N → PreB m g p → (∀ b, b < m → 8 ≤ W b + p) → clG R w m true t p g W 0 = plS R w m t p g := by
  intro t
  induction t with
  | zero => intro p g W _ _ _; rfl
  | succ t ih =>
    intro p g W hp hpre hW
    simp only [clG, plS]
    by_cases hl : lo R p = 1
    · rw [if_pos hl, if_pos hl]
      exact ih (p + 1) _ W (by omega) (pre_lost hm hpre) (fun b hb => by have := hW b hb; omega)
    · rw [if_neg hl, if_neg hl]
      have key : ∀ j b, b + j = m → (∀ c, c < b → ¬ emG g p c = true) → (match fx (fun b => if 0 < W b then (if okG R w g p b = true then clG R w m true t (p + 1) (sg g p b) (dc W b) 0 else none) else none) (fun b => true && emG g p b) j b with
          | some o => o
          | none => if 0 < 0 then clG R w m true t (p + 1) (sg g p 9) W (0 - 1) else none) = fd (fun b => if okG R w g p b = true then plS R w m t (p + 1) (sg g p b) else none) j b := by
        intro j
        induction j with
        | zero => intro b _ _; rfl
        | succ j ihj =>
          intro b hbj hne
          have hWb : 0 < W b := by have := hW b (by omega); omega
          have hIH : clG R w m true t (p + 1) (sg g p b) (dc W b) 0 = plS R w m t (p + 1) (sg g p b) := by
            refine ih (p + 1) _ _ (by omega) (pre_set hpre hne) (fun c hc => ?_)
            have := hW c hc
            have := hW b (by omega)
            unfold dc
            split <;> omega
          simp only [fx, fd]
          rw [if_pos hWb, hIH]
          by_cases hok : okG R w g p b = true
          · rw [if_pos hok]
            cases hr : plS R w m t (p + 1) (sg g p b) with
            | some r => rfl
            | none =>
              simp only
              by_cases he : emG g p b = true
              · rw [if_pos (by rw [he]; rfl)]
                symm
                show fd _ j (b + 1) = none
                rw [fd_none]
                intro c hc1 hc2
                have hce := hpre b c (by omega) (by omega) he
                rw [plS_swap (N := N) (by omega) hm (by omega) (by omega) he hce hr]
                split <;> rfl
              · rw [if_neg (by rw [Bool.true_and]; exact he)]
                exact ihj (b + 1) (by omega) (fun c hc => by
                  by_cases e : c = b
                  · rw [e]
                    exact he
                  · exact hne c (by omega))
          · rw [if_neg hok]
            have he : ¬ emG g p b = true := fun he => hok (okG_iff.mpr (fun q hq e => absurd e (emG_iff.mp he q hq)))
            simp only
            rw [if_neg (by rw [Bool.true_and]; exact he)]
            exact ihj (b + 1) (by omega) (fun c hc => by
              by_cases e : c = b
              · rw [e]
                exact he
              · exact hne c (by omega))
      exact key m 0 (by omega) (fun c hc => by omega)
theorem plS_eight (h8 : N ≤ 8) (g : Nat → Nat) : plS R w 8 N 0 g ≠ none := by
  refine plS_of (N := N) N 0 g (fun q => if lo R q = 1 then 9 else q) (by omega) (fun q hq => by omega) (fun r _ hr => ?_)
  by_cases hl : lo R r = 1
  · exact Or.inl ⟨hl, if_pos hl⟩
  · refine Or.inr ⟨hl, ?_, fun q hq e => ?_⟩
    · show (if lo R r = 1 then 9 else r) < 8
      rw [if_neg hl]
      omega
    · have e : (if lo R q = 1 then 9 else q) = (if lo R r = 1 then 9 else r) := e
      rw [if_neg hl] at e
      split at e <;> omega
/-! crews for told boats: idle ones counted, or not -/
def avl (R : Nat → Int32) : Nat → Nat → Nat
  | 0, _ => 0
  | t + 1, p => (if lo R p = 1 then 0 else 1) + avl R t (p + 1)
theorem dc_sum {W : Nat → Nat} {b : Nat} (hb : b < 3) (h : 0 < W b) : dc W b 0 + dc W b 1 + dc W b 2 + 1 = W 0 + W 1 + W 2 := by
  unfold dc
  match b, hb with
  | 0, _ => simp; omega
  | 1, _ => simp; omega
  | 2, _ => simp; omega
theorem mn_none : ∀ t p g W, avl R t p < W 0 + W 1 + W 2 → mnS R w t p g W = none := by
  intro t
  induction t with
  | zero =>
    intro p g W h
    simp only [mnS]
    rw [if_neg (by simp only [avl] at h; omega)]
  | succ t ih =>
    intro p g W h
    simp only [avl] at h
    simp only [mnS]
    by_cases hl : lo R p = 1
    · rw [if_pos hl] at h ⊢
      exact ih (p + 1) _ W (by omega)
    · rw [if_neg hl] at h ⊢
      have h1 : fd (fun b => if 0 < W b then (if okG R w g p b = true then mnS R w t (p + 1) (sg g p b) (dc W b) else none) else none) 3 0 = none := by
        rw [fd_none]
        intro b _ hb
        by_cases hW : 0 < W b
        · rw [if_pos hW]
          split
          · refine ih (p + 1) _ _ ?_
            have := dc_sum (show b < 3 by omega) hW
            omega
          · rfl
        · rw [if_neg hW]
      rw [h1]
      exact ih (p + 1) _ W (by omega)
theorem fx_no {β : Type} {f : Nat → Option β} {s : Nat → Bool} (hs : ∀ b, s b = false) : ∀ t b, fx f s t b = match fd f t b with
    | some r => some (some r)
    | none => none := by
  intro t
  induction t with
  | zero => intro b; rfl
  | succ t ih =>
    intro b
    simp only [fx, fd]
    cases f b with
    | some r => rfl
    | none =>
      simp only
      rw [hs b, if_neg (by decide)]
      exact ih (b + 1)
theorem fd_congr {β : Type} {f g : Nat → Option β} {N : Nat} (h : ∀ b, b < N → f b = g b) : ∀ t b, b + t = N → fd f t b = fd g t b := by
  intro t
  induction t with
  | zero => intro b _; rfl
  | succ t ih =>
    intro b hb
    simp only [fd]
    rw [h b (by omega), ih (b + 1) (by omega)]
theorem cl_mn : ∀ t p g W I, W 0 + W 1 + W 2 + I = avl R t p → clG R w 3 false t p g W I = mnS R w t p g W := by
  intro t
  induction t with
  | zero =>
    intro p g W I h
    simp only [avl] at h
    simp only [clG, mnS]
    rw [if_pos (by omega)]
  | succ t ih =>
    intro p g W I h
    simp only [avl] at h
    simp only [clG, mnS]
    by_cases hl : lo R p = 1
    · rw [if_pos hl] at h
      rw [if_pos hl, if_pos hl]
      exact ih (p + 1) _ W I (by omega)
    · rw [if_neg hl] at h
      rw [if_neg hl, if_neg hl, fx_no (s := fun b => false && emG g p b) (fun b => rfl)]
      have e : fd (fun b => if 0 < W b then (if okG R w g p b = true then clG R w 3 false t (p + 1) (sg g p b) (dc W b) I else none) else none) 3 0 = fd (fun b => if 0 < W b then (if okG R w g p b = true then mnS R w t (p + 1) (sg g p b) (dc W b) else none) else none) 3 0 := by
        refine fd_congr (N := 3) (fun b hb => ?_) 3 0 rfl
        by_cases hW : 0 < W b
        · rw [if_pos hW, if_pos hW, ih (p + 1) (sg g p b) (dc W b) I (by have := dc_sum hb hW; omega)]
        · rw [if_neg hW, if_neg hW]
      rw [e]
      cases fd (fun b => if 0 < W b then (if okG R w g p b = true then mnS R w t (p + 1) (sg g p b) (dc W b) else none) else none) 3 0 with
      | some r => rfl
      | none =>
        simp only
        by_cases hI : 0 < I
        · rw [if_pos hI]
          exact ih (p + 1) _ W (I - 1) (by omega)
        · rw [if_neg hI]
          exact (mn_none t (p + 1) _ W (by omega)).symm
end PLACE
