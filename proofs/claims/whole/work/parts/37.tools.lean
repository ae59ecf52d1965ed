/-! tools: what comes out; loops; rows set whole -/
def Tm {α : Type} (o : Option (α × Mem)) (Q : α → Mem → Prop) : Prop := ∃ r s, o = some (r, s) ∧ Q r s
theorem Tm.ret {α : Type} {v : α} {σ : Mem} {Q : α → Mem → Prop} (h : Q v σ) : Tm (some (v, σ)) Q := ⟨v, σ, rfl, h⟩
theorem Tm.eq {α : Type} {o o' : Option (α × Mem)} {Q : α → Mem → Prop} (e : o = o') (h : Tm o' Q) : Tm o Q := by rw [e]; exact h
theorem Tm.bd {α β : Type} {o : Option (α × Mem)} {K : α → Mem → Option (β × Mem)} {P : α → Mem → Prop} {Q : β → Mem → Prop} (h : Tm o P) (hk : ∀ r s, P r s → Tm (K r s) Q) : Tm (bnd o K) Q := by
  obtain ⟨r, s, e, hp⟩ := h
  rw [e]
  exact hk r s hp
theorem Tm.mono {α : Type} {o : Option (α × Mem)} {P Q : α → Mem → Prop} (h : Tm o P) (hk : ∀ r s, P r s → Q r s) : Tm o Q := by
  obtain ⟨r, s, e, hp⟩ := h
  exact ⟨r, s, e, hk r s hp⟩
theorem Tm.of {α : Type} {o : Option (α × Mem)} {v : α} {σ : Mem} {Q : α → Mem → Prop} (e : o = some (v, σ)) (h : Q v σ) : Tm o Q := ⟨v, σ, e, h⟩
/-- t steps from p on -/
def fo {α : Type} (f : Nat → α → α) : Nat → Nat → α → α
  | 0, _, a => a
  | t + 1, p, a => fo f t (p + 1) (f p a)
theorem fo_inv {α : Type} {f : Nat → α → α} {N : Nat} (I : Nat → α → Prop) (hI : ∀ p a, p < N → I p a → I (p + 1) (f p a)) : ∀ t p a, p + t = N → I p a → I N (fo f t p a) := by
  intro t
  induction t with
  | zero => intro p a hp h; rw [← hp]; exact h
  | succ t ih => intro p a hp h; exact ih (p + 1) (f p a) (by omega) (hI p a (by omega) h)
theorem fo_congr {α : Type} {f g : Nat → α → α} {N : Nat} (h : ∀ p a, p < N → f p a = g p a) : ∀ t p a, p + t = N → fo f t p a = fo g t p a := by
  intro t
  induction t with
  | zero => intro p a hp; rfl
  | succ t ih =>
    intro p a hp
    show fo f t (p + 1) (f p a) = fo g t (p + 1) (g p a)
    rw [h p a (by omega)]
    exact ih _ _ (by omega)
/-- a loop that goes all its way -/
theorem lp {α ρ : Type} {L : Nat → Nat → α → Option ρ} {f : Nat → α → α} {N : Nat} {fin : α → Option ρ} (I : Nat → α → Prop) (hI : ∀ p a, p < N → I p a → I (p + 1) (f p a)) (hs : ∀ g p a, p < N → I p a → L (g + 1) p a = L g (p + 1) (f p a)) (he : ∀ g a, I N a → L (g + 1) N a = fin a) : ∀ t p a g, p + t = N → t < g → I p a → L g p a = fin (fo f t p a) := by
  intro t
  induction t with
  | zero =>
    intro p a g hp hg h
    obtain ⟨g, rfl⟩ : ∃ k, g = k + 1 := ⟨g - 1, by omega⟩
    have e : p = N := by omega
    subst e
    exact he g a h
  | succ t ih =>
    intro p a g hp hg h
    obtain ⟨g, rfl⟩ : ∃ k, g = k + 1 := ⟨g - 1, by omega⟩
    rw [hs g p a (by omega) h]
    exact ih (p + 1) (f p a) g (by omega) (by omega) (hI p a (by omega) h)
/-- a loop that may end early, told by what holds -/
theorem lpT {α β : Type} {L : Nat → Nat → α → Mem → Option (β × Mem)} {N : Nat} {Q : β → Mem → Prop} (I : Nat → α → Mem → Prop) (hs : ∀ g p a σ, p < N → I p a σ → (∀ a' σ', I (p + 1) a' σ' → Tm (L g (p + 1) a' σ') Q) → Tm (L (g + 1) p a σ) Q) (he : ∀ g a σ, I N a σ → Tm (L (g + 1) N a σ) Q) : ∀ t p a σ g, p + t = N → t < g → I p a σ → Tm (L g p a σ) Q := by
  intro t
  induction t with
  | zero =>
    intro p a σ g hp hg h
    obtain ⟨g, rfl⟩ : ∃ k, g = k + 1 := ⟨g - 1, by omega⟩
    have e : p = N := by omega
    subst e
    exact he g a σ h
  | succ t ih =>
    intro p a σ g hp hg h
    obtain ⟨g, rfl⟩ : ∃ k, g = k + 1 := ⟨g - 1, by omega⟩
    exact hs g p a σ (by omega) h (fun a' σ' h' => ih (p + 1) a' σ' g (by omega) (by omega) h')
/-- row b becomes f -/
def ms (σ : Mem) (b : Nat) (f : Nat → Int32) : Mem := fun o => if o = b then f else σ o
theorem ms_at (σ : Mem) (b : Nat) (f : Nat → Int32) : ms σ b f b = f := if_pos rfl
theorem ms_ne {σ : Mem} {b o : Nat} {f : Nat → Int32} (h : o ≠ b) : ms σ b f o = σ o := if_neg h
theorem mu_ms (σ : Mem) (b k : Nat) (v : Int32) : mu σ b k v = ms σ b (upd (σ b) k v) := by
  funext o
  by_cases h : o = b
  · subst h
    rw [mu_row, ms_at]
  · rw [mu_off h, ms_ne h]
theorem ms_ms (σ : Mem) (b : Nat) (f g : Nat → Int32) : ms (ms σ b f) b g = ms σ b g := by
  funext o
  by_cases h : o = b
  · subst h
    rw [ms_at, ms_at]
  · rw [ms_ne h, ms_ne h, ms_ne h]
theorem ms_self (σ : Mem) (b : Nat) : ms σ b (σ b) = σ := by
  funext o
  by_cases h : o = b
  · subst h
    rw [ms_at]
  · rw [ms_ne h]
theorem ms_mu (σ : Mem) (b k : Nat) (f : Nat → Int32) (v : Int32) : mu (ms σ b f) b k v = ms σ b (upd f k v) := by rw [mu_ms, ms_ms, ms_at]
/-- row b with the first hundred of row a -/
def cpr (A B : Nat → Int32) : Nat → Int32 := fun k => if k < 100 then A k else B k
theorem cpr_lt {A B : Nat → Int32} {k : Nat} (h : k < 100) : cpr A B k = A k := if_pos h
theorem cpr_ge {A B : Nat → Int32} {k : Nat} (h : 100 ≤ k) : cpr A B k = B k := if_neg (by omega)
theorem cpr_of {A B C : Nat → Int32} (h : ∀ k, 100 ≤ k → C k = B k) : cpr A C = cpr A B := by
  funext k
  by_cases hk : k < 100
  · rw [cpr_lt hk, cpr_lt hk]
  · rw [cpr_ge (by omega), cpr_ge (by omega), h k (by omega)]
theorem m_copy {a b : Nat} (hab : a ≠ b) (σ : Mem) : p_X12_copies a b σ = some ((), ms σ b (cpr (σ a) (σ b))) := by
  have h := m_copiesL (a := a) (b := b) 100 0 1000 σ (by omega) (by omega)
  have e : cpyM a b 100 0 σ = ms σ b (cpr (σ a) (σ b)) := by
    funext o
    by_cases ho : o = b
    · subst ho
      rw [ms_at]
      funext k
      rw [cpyM_at hab]
      by_cases hk : k < 100
      · rw [if_pos (by omega), cpr_lt hk]
      · rw [if_neg (by omega), cpr_ge (by omega)]
    · rw [cpyM_off 100 0 σ o ho, ms_ne ho]
  rw [← e]
  exact h
/-! what a call may touch besides what counts -/
def scrX (o : Nat) : Bool := decide (o = 3) || decide (o = 4) || decide (o = 27) || decide (o = 30) || decide (o = 33) || decide (o = 36) || (decide (37 ≤ o) && decide (o ≤ 40))
def scrM (o : Nat) : Bool := decide (o = 67) || (decide (69 ≤ o) && decide (o ≤ 72))
def FrX (σ σ' : Mem) : Prop := ∀ o, scrX o = false → σ' o = σ o
def FrM (σ σ' : Mem) : Prop := (∀ o, o ≠ 65 → scrM o = false → σ' o = σ o) ∧ σ' 65 4 = σ 65 4
theorem FrX.rf (σ : Mem) : FrX σ σ := fun _ _ => rfl
theorem FrX.tr {a b c : Mem} (h1 : FrX a b) (h2 : FrX b c) : FrX a c := fun o ho => (h2 o ho).trans (h1 o ho)
theorem FrM.rf (σ : Mem) : FrM σ σ := ⟨fun _ _ _ => rfl, rfl⟩
theorem FrM.tr {a b c : Mem} (h1 : FrM a b) (h2 : FrM b c) : FrM a c := ⟨fun o h ho => (h2.1 o h ho).trans (h1.1 o h ho), h2.2.trans h1.2⟩
theorem FrX.w {a b : Mem} (h : FrX a b) {o k : Nat} {v : Int32} (ho : scrX o = true) : FrX a (mu b o k v) := by
  intro q hq
  rw [mu_off (fun e => by rw [e, ho] at hq; cases hq)]
  exact h q hq
theorem FrM.r {a b : Mem} (h : FrM a b) {o : Nat} {f : Nat → Int32} (ho : scrM o = true) : FrM a (ms b o f) := by
  have h65 : (65 : Nat) ≠ o := fun e => by rw [← e] at ho; exact absurd ho (by decide)
  refine ⟨fun q h6 hq => ?_, ?_⟩
  · rw [ms_ne (fun e => by rw [e, ho] at hq; cases hq)]
    exact h.1 q h6 hq
  · rw [ms_ne h65]
    exact h.2
theorem FrM.w {a b : Mem} (h : FrM a b) {o k : Nat} {v : Int32} (ho : scrM o = true) : FrM a (mu b o k v) := by
  rw [mu_ms]
  exact h.r ho
theorem FrM.sl {a b : Mem} (h : FrM a b) {k : Nat} {v : Int32} (hk : k ≠ 4) : FrM a (mu b 65 k v) := by
  refine ⟨fun q h6 hq => ?_, ?_⟩
  · rw [mu_off h6]
    exact h.1 q h6 hq
  · rw [mu_ne (Or.inr (Ne.symm hk))]
    exact h.2
theorem inv_scr {a b c : Mem} (hI : Inv a) (hX : FrX a b) (hM : FrM b c) : Inv c := by
  have e : ∀ o, o ≠ 65 → scrX o = false → scrM o = false → c o = a o := fun o h6 h1 h2 => (hM.1 o h6 h2).trans (hX o h1)
  have e65 : c 65 4 = a 65 4 := by rw [hM.2, hX 65 (by decide)]
  refine inv_shelf hI ?_ e65 (fun o ho => ?_) (fun d hd => ?_)
  · rw [e 0 (by decide) (by decide) (by decide)]
  · rcases ho with rfl | rfl | rfl | rfl | rfl | rfl | rfl | rfl | rfl | rfl | rfl | rfl <;> exact e _ (by decide) (by decide) (by decide)
  · have h6 : ∀ d, d < 8 → scrX (6 + d) = false ∧ scrM (6 + d) = false ∧ scrX (14 + d) = false ∧ scrM (14 + d) = false := by decide
    obtain ⟨q1, q2, q3, q4⟩ := h6 d hd
    refine (hI.2.2 d hd).frame (e _ (by omega) q1 q2) (e _ (by omega) q3 q4) ?_ ?_ ?_ ?_ ?_ (fun j hj => ?_)
    · rw [e 73 (by decide) (by decide) (by decide)]
    · rw [e 74 (by decide) (by decide) (by decide)]
    · rw [e 75 (by decide) (by decide) (by decide)]
    · rw [e 76 (by decide) (by decide) (by decide)]
    · rw [e 77 (by decide) (by decide) (by decide)]
    · rw [e 78 (by decide) (by decide) (by decide)]
/-- a call that leaves what counts as it is -/
theorem st_scr {α : Type} {σ : Mem} (hI : Inv σ) {p q : Mem → Option (α × Mem)} {r : α} (h1 : Tm (p σ) (fun v s => v = r ∧ FrX σ s)) (h2 : ∀ s, FrX σ s → Tm (q s) (fun v s' => v = r ∧ FrM s s')) : ∃ r s1 s2, p σ = some (r, s1) ∧ q s1 = some (r, s2) ∧ Inv s2 := by
  obtain ⟨v, s, e, rfl, hX⟩ := h1
  obtain ⟨w, s', e', rfl, hM⟩ := h2 s hX
  exact ⟨w, s, s', e, e', inv_scr hI hX hM⟩
/-! how many bits -/
def pop (a : Nat) : Nat := a % 2 + a / 2 % 2 + a / 4 % 2 + a / 8 % 2 + a / 16 % 2 + a / 32 % 2 + a / 64 % 2 + a / 128 % 2
theorem pop_le : ∀ a, pop a ≤ 8 := fun a => by unfold pop; omega
theorem x_pop {a : Nat} (ha : a < 256) (σ : Mem) : p_J6_bitCount_0f7a4 (n2 a) σ = some (n2 (pop a), σ) := by
  have h : ∀ a < 256, (p_J6_bitCount_0f7a4 (n2 a) (fun _ _ => 0)).map (fun v => v.1) = some (n2 (pop a)) := by decide +kernel
  have e := h a ha
  unfold p_J6_bitCount_0f7a4 at e ⊢
  simp only [Option.map, Option.some.injEq] at e
  rw [e]
def popV (x : Int32) : Int32 := fo (fun k v => v + ((x >>> (n2 k &&& 31)) &&& 1)) 10 0 0
theorem m_popV (x : Int32) (σ : Mem) : p_X12_bits x σ = some (popV x, σ) :=
  lp (L := fun g p a => p_X12_bits_L4 x g a (n2 p) σ) (fin := fun a => some (a, σ)) (N := 10) (fun _ _ => True) (fun _ _ _ _ => trivial)
    (fun g p a hp _ => by
      show p_X12_bits_B4 (p_X12_bits_L4 x g) x a (n2 p) σ = _
      unfold p_X12_bits_B4
      rw [show (if (10 : Int32) ≤ n2 p then _ else _) = _ from ile_f (a := 10) (b := p) ⟨by omega, by omega⟩]
      rw [n2_succ])
    (fun g a _ => rfl) 10 0 0 1000 (by omega) (by omega) trivial
theorem pop_eq : ∀ a < 256, popV (n2 a) = n2 (pop a) := by decide +kernel
theorem m_pop {a : Nat} (ha : a < 256) (σ : Mem) : p_X12_bits (n2 a) σ = some (n2 (pop a), σ) := by rw [m_popV, pop_eq a ha]
