/-! a cape over another one -/
def capeO (c o : Nat) : Prop := o = c ∨ o = 24 + c ∨ o = 27 + c ∨ o = 30 + c ∨ o = 33 + c
def FrC (c : Nat) (σ σ' : Mem) : Prop := ∀ o, ¬ capeO c o → σ' o = σ o
theorem FrC.rf (c : Nat) (σ : Mem) : FrC c σ σ := fun _ _ => rfl
theorem FrC.tr {c : Nat} {x y z : Mem} (h1 : FrC c x y) (h2 : FrC c y z) : FrC c x z := fun o ho => (h2 o ho).trans (h1 o ho)
theorem FrC.X {x y : Mem} (h : FrC 3 x y) : FrX x y := fun o ho => h o (fun e => by rcases e with rfl | rfl | rfl | rfl | rfl <;> exact absurd ho (by decide))
theorem FrC.w {c : Nat} {x y : Mem} (h : FrC c x y) {o k : Nat} {v : Int32} (ho : capeO c o) : FrC c x (mu y o k v) := by
  intro q hq
  rw [mu_off (fun e => hq (by rw [e]; exact ho))]
  exact h q hq
theorem CL3.off {σ σ' : Mem} {c d N : Nat} {R : Nat → Int32} (hc : isC c) (hd : isC d) (hcd : c ≠ d) (h : CL3 σ d N R) (hf : FrC c σ σ') : CL3 σ' d N R := by
  obtain ⟨h1, h2⟩ := hc
  obtain ⟨h3, h4⟩ := hd
  exact h.same (hf _ (by unfold capeO; omega)) (hf _ (by unfold capeO; omega)) (hf _ (by unfold capeO; omega)) (hf _ (by unfold capeO; omega)) (hf _ (by unfold capeO; omega))
def becS (c d : Nat) (σ : Mem) : Mem := mu (mu (mu (mu (mu (mcp (mcp (mcp (mcp σ (24 + d) (24 + c) 0 0 8) (27 + d) (27 + c) 0 0 8) (30 + d) (30 + c) 0 0 8) (33 + d) (33 + c) 0 0 64) c 5 (σ d 5)) c 6 (σ d 6)) c 7 (σ d 7)) c 8 (σ d 8)) c 9 (σ d 9)
theorem c8 : ((8 : Int32)).toNatClampNeg = 8 := rfl
theorem c64 : ((64 : Int32)).toNatClampNeg = 64 := rfl
theorem becS_eq {c d : Nat} (hc : isC c) (hd : isC d) (hcd : c ≠ d) (σ : Mem) : p_X3_becomes c d σ = some ((), becS c d σ) := by
  obtain ⟨h1, h2⟩ := hc
  obtain ⟨h3, h4⟩ := hd
  unfold p_X3_becomes becS
  simp only [lt, wr]
  rw [if_neg (by decide), if_neg (by decide), if_neg (by decide), if_neg (by decide)]
  simp (disch := omega) only [c0, c8, c64, mu_off, mcp_off]
theorem cpy_lt {f g : Nat → Int32} {n p : Nat} (h : p < n) : va_cpy f g 0 0 n p = f p := by
  unfold va_cpy
  rw [if_pos (by omega)]
  congr 1
  omega
theorem x_becomes {c d N : Nat} {σ : Mem} {R : Nat → Int32} (hc : isC c) (hd : isC d) (hcd : c ≠ d) (h : CL3 σ d N R) : Tm (p_X3_becomes c d σ) (fun _ s => CL3 s c N R ∧ FrC c σ s) := by
  refine Tm.of (becS_eq hc hd hcd σ) ?_
  obtain ⟨h1, h2⟩ := hc
  obtain ⟨h3, h4⟩ := hd
  obtain ⟨⟨a1, a2, a3, a4, a5, a6, a7, a8⟩, hR, hl⟩ := h
  refine ⟨⟨⟨a1, a2, ?_, fun p hp => ⟨?_, ?_, ?_⟩, fun q hq => ?_, ?_, ?_, ?_⟩, hR, ?_⟩, fun o ho => ?_⟩
  · unfold becS
    simp (disch := omega) only [mu_ne, mu_at]
    exact a3
  · unfold becS
    simp (disch := omega) only [mu_off, mcp_off, mcp_row]
    rw [cpy_lt (by omega)]
    exact (a4 p hp).1
  · unfold becS
    simp (disch := omega) only [mu_off, mcp_off, mcp_row]
    rw [cpy_lt (by omega)]
    exact (a4 p hp).2.1
  · unfold becS
    simp (disch := omega) only [mu_off, mcp_off, mcp_row]
    rw [cpy_lt (by omega)]
    exact (a4 p hp).2.2
  · unfold becS
    simp (disch := omega) only [mu_off, mcp_off, mcp_row]
    rw [cpy_lt (by omega)]
    exact a5 q hq
  · unfold becS
    simp (disch := omega) only [mu_ne, mu_at]
    exact a6
  · unfold becS
    simp (disch := omega) only [mu_ne, mu_at]
    exact a7
  · unfold becS
    simp (disch := omega) only [mu_ne, mu_at]
    exact a8
  · unfold becS
    simp (disch := omega) only [mu_ne, mu_at]
    exact hl
  · unfold capeO at ho
    unfold becS
    simp (disch := omega) only [mu_off, mcp_off]
/-! who they are, in small numbers -/
def kn (R : Nat → Int32) (p : Nat) : Nat := (kd R p).toNatClampNeg
def fn (R : Nat → Int32) (p : Nat) : Nat := (fg R p).toNatClampNeg
def lawN (R : Nat → Int32) : Nat := (R 1).toNatClampNeg
def seaN (R : Nat → Int32) : Nat := (R 2).toNatClampNeg
def ssN (R : Nat → Int32) : Nat := (R 3).toNatClampNeg
theorem kn_eq {R : Nat → Int32} {N p : Nat} (h : OkR R N) (hp : p < N) : kd R p = n2 (kn R p) ∧ kn R p < 8 := by
  obtain ⟨⟨k, hk, e⟩, -⟩ := h.2.2.1 p hp
  have e2 : kn R p = k := by
    unfold kn
    rw [e, n2_nat (by omega)]
  rw [e2]
  exact ⟨e, hk⟩
theorem fn_eq {R : Nat → Int32} {N p : Nat} (h : OkR R N) (hp : p < N) : fg R p = n2 (fn R p) ∧ fn R p < 10 := by
  obtain ⟨-, ⟨k, hk, e⟩, -⟩ := h.2.2.1 p hp
  have e2 : fn R p = k := by
    unfold fn
    rw [e, n2_nat (by omega)]
  rw [e2]
  exact ⟨e, hk⟩
theorem lawN_eq {R : Nat → Int32} {N : Nat} (h : OkR R N) : R 1 = n2 (lawN R) ∧ lawN R < 4 := by
  obtain ⟨k, hk, e⟩ := h.2.2.2.2.1
  have e2 : lawN R = k := by
    unfold lawN
    rw [e, n2_nat (by omega)]
  rw [e2]
  exact ⟨e, hk⟩
theorem seaN_eq {R : Nat → Int32} {N : Nat} (h : OkR R N) : R 2 = n2 (seaN R) ∧ seaN R < 10 := by
  obtain ⟨k, hk, e⟩ := h.2.2.2.2.2.1
  have e2 : seaN R = k := by
    unfold seaN
    rw [e, n2_nat (by omega)]
  rw [e2]
  exact ⟨e, hk⟩
theorem ssN_eq {R : Nat → Int32} {N : Nat} (h : OkR R N) : R 3 = n2 (ssN R) ∧ ssN R < 2000 := by
  obtain ⟨k, hk, e⟩ := h.2.2.2.2.2.2
  have e2 : ssN R = k := by
    unfold ssN
    rw [e, n2_nat (by omega)]
  rw [e2]
  exact ⟨e, hk⟩
theorem ssN_of {R : Nat → Int32} {s : Nat} (h : R 3 = n2 s) (hs : s < 2000) : ssN R = s := by
  unfold ssN
  rw [h, n2_nat (by omega)]
def skN (k f : Nat) : Nat := if k = 1 then f + 3 else if k = 2 then f / 2 else if k = 3 then 0 else if k = 4 then 2 * (f + 3) else if k = 5 then f / 2 + 1 else if k = 6 then f else if k = 7 then 9 else f
def rcN (k f : Nat) : Nat := if k = 1 then 6 + f / 3 else if k = 2 then 1 else if k = 3 then 0 else if k = 4 then 5 + f / 3 else if k = 5 then 2 else if k = 6 then 3 + f / 3 else if k = 7 then 9 else 3 + f / 3
def pyN (k f : Nat) : Nat := if k = 1 then 2 + f else if k = 2 then 1 else if k = 3 then 0 else if k = 4 then 2 * (2 + f) else if k = 5 then 1 else if k = 6 then 3 else if k = 7 then 0 else 2
def rkN (k f s : Nat) : Nat := if k = 1 then 0 else if k = 2 then f % 5 + 4 else if k = 3 then 0 else if k = 4 then 1 else if k = 5 then f % 5 + 4 - s % 2 else if k = 6 then (f + s) % 10 else if k = 7 then 0 else f % 5
theorem skN_eq : ∀ k < 8, ∀ f < 10, skV (n2 k) (n2 f) = n2 (skN k f) := by decide +kernel
theorem rcN_eq : ∀ k < 8, ∀ f < 10, rcV (n2 k) (n2 f) = n2 (rcN k f) := by decide +kernel
theorem pyN_eq : ∀ k < 8, ∀ f < 10, pyV (n2 k) (n2 f) = n2 (pyN k f) := by decide +kernel
theorem mod5 : ∀ f < 10, n2 f - n2 f / 5 * 5 = n2 (f % 5) := by decide +kernel
theorem mod2 : ∀ f < 2010, n2 f - n2 f / 2 * 2 = n2 (f % 2) := by decide +kernel
theorem mod10 : ∀ f < 2010, n2 f - n2 f / 10 * 10 = n2 (f % 10) := by decide +kernel
theorem brN : ∀ a < 5, ∀ o < 2, n2 a + 4 - n2 o = n2 (a + 4 - o) := by decide +kernel
theorem rkN_eq {k f s : Nat} (hk : k < 8) (hf : f < 10) (hs : s < 2000) : rkV (n2 k) (n2 f) (n2 s) = n2 (rkN k f s) := by
  match k, hk with
  | 0, _ => exact mod5 f hf
  | 1, _ => rfl
  | 2, _ =>
    show (n2 f - n2 f / 5 * 5) + 4 = n2 (f % 5 + 4)
    rw [mod5 f hf]
    exact n2_add (f % 5) 4
  | 3, _ => rfl
  | 4, _ => rfl
  | 5, _ =>
    show ((n2 f - n2 f / 5 * 5) + 4) - (n2 s - n2 s / 2 * 2) = n2 (f % 5 + 4 - s % 2)
    rw [mod5 f hf, mod2 s (by omega)]
    exact brN _ (by omega) _ (by omega)
  | 6, _ =>
    show (n2 f + n2 s) - (n2 f + n2 s) / 10 * 10 = n2 ((f + s) % 10)
    rw [n2_add]
    exact mod10 _ (by omega)
  | 7, _ => rfl
theorem rkN_le {k f s : Nat} : rkN k f s ≤ 9 := by
  unfold rkN
  repeat' split
  all_goals omega
theorem rcN_le {k f : Nat} (hf : f < 10) : rcN k f ≤ 9 := by
  unfold rcN
  repeat' split
  all_goals omega
def riskN (R : Nat → Int32) (p s : Nat) : Nat := rkN (kn R p) (fn R p) s
def reachN (R : Nat → Int32) (p : Nat) : Nat := rcN (kn R p) (fn R p)
def skillN (R : Nat → Int32) (p : Nat) : Nat := skN (kn R p) (fn R p)
def payN (R : Nat → Int32) (p : Nat) : Nat := pyN (kn R p) (fn R p)
theorem m_riskN {r N p s : Nat} {σ : Mem} (h : OkR (σ r) N) (hp : p < N) (hs : s < 2000) : p_X12_riskOf r (n2 p) (n2 s) σ = some (n2 (riskN (σ r) p s), σ) := by
  have h8 := h.2.1
  rw [m_riskOf _ σ (by omega), (kn_eq h hp).1, (fn_eq h hp).1, rkN_eq (kn_eq h hp).2 (fn_eq h hp).2 hs]
  rfl
theorem m_reachN {r N p : Nat} {σ : Mem} (h : OkR (σ r) N) (hp : p < N) : p_X12_reachOf r (n2 p) σ = some (n2 (reachN (σ r) p), σ) := by
  have h8 := h.2.1
  rw [m_reachOf σ (by omega), (kn_eq h hp).1, (fn_eq h hp).1, rcN_eq _ (kn_eq h hp).2 _ (fn_eq h hp).2]
  rfl
theorem m_skillN {r N p : Nat} {σ : Mem} (h : OkR (σ r) N) (hp : p < N) : p_X12_skillOf r (n2 p) σ = some (n2 (skillN (σ r) p), σ) := by
  have h8 := h.2.1
  rw [m_skillOf σ (by omega), (kn_eq h hp).1, (fn_eq h hp).1, skN_eq _ (kn_eq h hp).2 _ (fn_eq h hp).2]
  rfl
theorem m_payN {r N p : Nat} {σ : Mem} (h : OkR (σ r) N) (hp : p < N) (τ : Mem) : p_X12_pay (kd (σ r) p) (fg (σ r) p) τ = some (n2 (payN (σ r) p), τ) := by
  rw [m_pay, (kn_eq h hp).1, (fn_eq h hp).1, pyN_eq _ (kn_eq h hp).2 _ (fn_eq h hp).2]
  rfl
section CAPE
variable {c N p s : Nat} {σ : Mem} {R : Nat → Int32}
theorem CL3.sizeq (h : CL3 σ c N R) : σ c 5 = n2 N := h.1.2.2.1
theorem CL3.lostq (h : CL3 σ c N R) : σ c 6 = n2 (lostV R N) := h.2.2
theorem CL3.lawq (h : CL3 σ c N R) : σ c 7 = n2 (lawN R) := h.1.2.2.2.2.2.1.trans (lawN_eq h.2.1).1
theorem CL3.seaq (h : CL3 σ c N R) : σ c 8 = n2 (seaN R) := h.1.2.2.2.2.2.2.1.trans (seaN_eq h.2.1).1
theorem CL3.ssq (h : CL3 σ c N R) : σ c 9 = n2 (ssN R) := h.1.2.2.2.2.2.2.2.trans (ssN_eq h.2.1).1
theorem CL3.le8 (h : CL3 σ c N R) : N ≤ 8 := h.1.2.1
theorem CL3.kindq (h : CL3 σ c N R) (hp : p < N) : p_X3_kindOf c (n2 p) σ = some (33 + 8 * c + kn R p, σ) := x_kindOf h.1 hp (kn_eq h.2.1 hp).1 (kn_eq h.2.1 hp).2
theorem CL3.figq (h : CL3 σ c N R) (hp : p < N) : σ (27 + c) p = n2 (fn R p) := (h.1.2.2.2.1 p hp).2.1.trans (fn_eq h.2.1 hp).1
theorem CL3.btq (h : CL3 σ c N R) (hp : p < N) : σ (30 + c) p = bt R p := (h.1.2.2.2.1 p hp).2.2
theorem CL3.riskq (hc : isC c) (h : CL3 σ c N R) (hp : p < N) (hs : s < 2000) (τ : Mem) : p_K_risk (33 + 8 * c + kn R p) (n2 (fn R p)) (n2 s) τ = some (n2 (riskN R p s), τ) := by
  have i1 := ko_in hc (kn_eq h.2.1 hp).2
  rw [x_Krisk i1.1 i1.2 (kn_eq h.2.1 hp).2 hs, rkN_eq (kn_eq h.2.1 hp).2 (fn_eq h.2.1 hp).2 hs]
  rfl
theorem CL3.reachq (hc : isC c) (h : CL3 σ c N R) (hp : p < N) (τ : Mem) : p_K_reach (33 + 8 * c + kn R p) (n2 (fn R p)) τ = some (n2 (reachN R p), τ) := by
  have i1 := ko_in hc (kn_eq h.2.1 hp).2
  rw [x_Kreach i1.1 i1.2 (kn_eq h.2.1 hp).2 (fn_eq h.2.1 hp).2, rcN_eq _ (kn_eq h.2.1 hp).2 _ (fn_eq h.2.1 hp).2]
  rfl
theorem CL3.skillq (hc : isC c) (h : CL3 σ c N R) (hp : p < N) (τ : Mem) : p_K_skill (33 + 8 * c + kn R p) (n2 (fn R p)) τ = some (n2 (skillN R p), τ) := by
  have i1 := ko_in hc (kn_eq h.2.1 hp).2
  rw [x_Kskill i1.1 i1.2 (kn_eq h.2.1 hp).2 (fn_eq h.2.1 hp).2, skN_eq _ (kn_eq h.2.1 hp).2 _ (fn_eq h.2.1 hp).2]
  rfl
theorem CL3.payq (hc : isC c) (h : CL3 σ c N R) (hp : p < N) (τ : Mem) : p_K_pay (33 + 8 * c + kn R p) (n2 (fn R p)) τ = some (n2 (payN R p), τ) := by
  have i1 := ko_in hc (kn_eq h.2.1 hp).2
  rw [x_Kpay i1.1 i1.2 (kn_eq h.2.1 hp).2 (fn_eq h.2.1 hp).2, pyN_eq _ (kn_eq h.2.1 hp).2 _ (fn_eq h.2.1 hp).2]
  rfl
theorem CL3.agreeq {q w : Nat} (hc : isC c) (h : CL3 σ c N R) (hp : p < N) (hq : q < N) (hw : w < 4) : p_X3_agree c (n2 p) (n2 q) (n2 w) σ = some (b2 (mayV R p q (n2 w)), σ) := x_agree hc h.1 h.2.1 hp hq hw
theorem CL3.countq {q w : Nat} (h : CL3 σ c N R) (hp : p < N) (hq : q < N) (hw4 : w < 4) : p_X3_counts c (n2 p) (n2 q) (n2 w) σ = some (b2 (svV (hw R p q) (n2 w)), σ) := x_counts h.1 h.2.1 (by have := h.le8; omega) (by have := h.le8; omega) hw4
theorem CL3.lostOnesq (h : CL3 σ c N R) : p_X3_lostOnes c σ = some (n2 (pop (lostV R N)), σ) := by
  unfold p_X3_lostOnes
  simp only [lt, h.lostq, x_pop (lost_lt h.le8), bnd_some]
end CAPE
theorem may_sym (R : Nat → Int32) (p q : Nat) (w : Int32) : mayV R p q w = mayV R q p w := by
  unfold mayV
  cases ghV (kd R p) <;> cases ghV (kd R q) <;> cases svV (hw R p q) w <;> cases svV (hw R q p) w <;> rfl
theorem n2_sub {a b : Nat} (h : b ≤ a) (ha : a < 2147483648) : n2 a - n2 b = n2 (a - b) := by
  apply Int32.toInt_inj.mp
  rw [Int32.toInt_sub, n2_int ha, n2_int (by omega), n2_int (by omega)]
  unfold Int.bmod
  simp only
  split <;> omega
