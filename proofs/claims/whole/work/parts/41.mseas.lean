/-! seasons -/
def boR (N : Nat) (R : Nat → Int32) : Nat → Int32 := fo (fun b a => ovR N a b) 3 0 R
def se1 (N : Nat) (R : Nat → Int32) : Nat → Int32 := boR N (upd R 3 (R 3 + 1))
def seR (N n : Nat) (R : Nat → Int32) : Nat → Int32 := fo (fun _ a => se1 N a) n 0 R
theorem boR_ok {R : Nat → Int32} {N : Nat} (h : OkR R N) : OkR (boR N R) N ∧ boR N R 3 = R 3 ∧ ∀ k, 100 ≤ k → boR N R k = R k :=
  fo_inv (f := fun b a => ovR N a b) (N := 3) (fun _ a => OkR a N ∧ a 3 = R 3 ∧ ∀ k, 100 ≤ k → a k = R k) (fun p a _ hI => by
    obtain ⟨h1, h2, h3⟩ := ovR_ok hI.1 p
    exact ⟨h1, h2.trans hI.2.1, fun k hk => (h3 k hk).trans (hI.2.2 k hk)⟩) 3 0 R (by omega) ⟨h, rfl, fun _ _ => rfl⟩
theorem OkR.ss {R : Nat → Int32} {N s : Nat} (h : OkR R N) (hs : s < 2000) : OkR (upd R 3 (n2 s)) N := by
  obtain ⟨a1, a2, a3, a4, a5, a6, a7⟩ := h
  refine ⟨by rw [upd_ne (by omega)]; exact a1, a2, fun p hp => ?_, fun q hq => ?_, by rw [upd_ne (by omega)]; exact a5, by rw [upd_ne (by omega)]; exact a6, ⟨s, hs, upd_at _ _ _⟩⟩
  · unfold kd fg bt lo
    rw [upd_ne (by omega), upd_ne (by omega), upd_ne (by omega), upd_ne (by omega)]
    exact a3 p hp
  · rw [upd_ne (by omega)]
    exact a4 q hq
theorem se1_ok {R : Nat → Int32} {N s : Nat} (h : OkR R N) (h3 : R 3 = n2 s) (hs : s + 1 < 2000) : OkR (se1 N R) N ∧ se1 N R 3 = n2 (s + 1) ∧ ∀ k, 100 ≤ k → se1 N R k = R k := by
  unfold se1
  rw [h3, n2_succ]
  obtain ⟨h1, h2, h4⟩ := boR_ok (h.ss hs)
  exact ⟨h1, h2.trans (upd_at _ _ _), fun k hk => (h4 k hk).trans (upd_ne (by omega))⟩
theorem seR_ok {R : Nat → Int32} {N n s : Nat} (h : OkR R N) (h3 : R 3 = n2 s) (hs : s + n < 2000) : OkR (seR N n R) N ∧ seR N n R 3 = n2 (s + n) ∧ ∀ k, 100 ≤ k → seR N n R k = R k :=
  fo_inv (f := fun _ a => se1 N a) (N := n) (fun p a => OkR a N ∧ a 3 = n2 (s + p) ∧ ∀ k, 100 ≤ k → a k = R k) (fun p a hp hI => by
    obtain ⟨h1, h2, h4⟩ := se1_ok hI.1 hI.2.1 (by omega)
    exact ⟨h1, h2, fun k hk => (h4 k hk).trans (hI.2.2 k hk)⟩) n 0 R (by omega) ⟨h, h3, fun _ _ => rfl⟩
section MSEA
variable {r N n s : Nat} {σ : Mem}
theorem m_boats (h : OkR (σ r) N) : p_X12_season_L9 r 0 1000 0 σ = some ((), ms σ r (boR N (σ r))) := by
  have k := lp (L := fun g p a => p_X12_season_L9 r 0 g (n2 p) (ms σ r a)) (f := fun b a => ovR N a b) (fin := fun a => some ((), ms σ r a)) (N := 3) (fun _ a => OkR a N) (fun p a _ h => (ovR_ok h p).1) (fun g p a hp hI => ?_) (fun g a _ => rfl) 3 0 (σ r) 1000 (by omega) (by omega) h
  · rw [ms_self] at k
    exact k
  · show p_X12_season_B9 (p_X12_season_L9 r 0 g) r 0 (n2 p) (ms σ r a) = _
    unfold p_X12_season_B9
    rw [show (if (3 : Int32) ≤ n2 p then _ else _) = _ from ile_f (a := 3) (b := p) ⟨by omega, by omega⟩, if_pos rfl, m_overboard p (by rw [ms_at]; exact hI), bnd_some, n2_succ, ms_at, ms_ms]
theorem m_season (h : OkR (σ r) N) (h3 : σ r 3 = n2 s) (hs : s + 1 < 2000) : p_X12_season r 0 σ = some ((), ms σ r (se1 N (σ r))) := by
  unfold p_X12_season se1
  simp (disch := omega) only [ii3, lt, c3, wr, mu_ms]
  have h1 : OkR (ms σ r (upd (σ r) 3 (σ r 3 + 1)) r) N := by
    rw [ms_at, h3, n2_succ]
    exact h.ss hs
  rw [m_boats h1, ms_at, ms_ms]
theorem m_still : p_X12_season r 1 σ = some ((), ms σ r (upd (σ r) 3 (σ r 3 + 1))) := by
  unfold p_X12_season
  simp (disch := omega) only [ii3, lt, c3, wr, mu_ms]
  rfl
theorem m_seasonsOn (h : OkR (σ r) N) (h3 : σ r 3 = n2 s) (hs : s + n < 2000) (hn : n < 1000) : p_X12_seasonsOn r (n2 n) σ = some ((), ms σ r (seR N n (σ r))) := by
  have k := lp (L := fun g p a => p_X12_seasonsOn_L2 r (n2 n) g (n2 p) (ms σ r a)) (f := fun _ a => se1 N a) (fin := fun a => some ((), ms σ r a)) (N := n) (fun p a => OkR a N ∧ a 3 = n2 (s + p)) (fun p a hp hI => by
    obtain ⟨h1, h2, -⟩ := se1_ok hI.1 hI.2 (by omega)
    exact ⟨h1, h2⟩) (fun g p a hp hI => ?_) (fun g a _ => ?_) n 0 (σ r) 1000 (by omega) (by omega) ⟨h, h3⟩
  · rw [ms_self] at k
    exact k
  · show p_X12_seasonsOn_B2 (p_X12_seasonsOn_L2 r (n2 n) g) r (n2 n) (n2 p) (ms σ r a) = _
    unfold p_X12_seasonsOn_B2
    rw [ile_f ⟨by omega, by omega⟩, m_season (N := N) (s := s + p) (by rw [ms_at]; exact hI.1) (by rw [ms_at]; exact hI.2) (by omega), bnd_some, n2_succ, ms_at, ms_ms]
  · show p_X12_seasonsOn_B2 (p_X12_seasonsOn_L2 r (n2 n) g) r (n2 n) (n2 n) (ms σ r a) = _
    unfold p_X12_seasonsOn_B2
    rw [ile_t ⟨by omega, by omega⟩]
end MSEA
