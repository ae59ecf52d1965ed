/-! the loop over the script -/
def St0 {α : Type} (Inv : Mem → Prop) (p q : Mem → Option (α × Mem)) : Prop := ∀ σ, Inv σ → ∃ r s1 s2, p σ = some (r, s1) ∧ q s1 = some (r, s2) ∧ Inv s2
def St1 {α : Type} (Inv : Mem → Prop) (p q : Int32 → Mem → Option (α × Mem)) : Prop := ∀ a, St0 Inv (p a) (q a)
def St2 {α : Type} (Inv : Mem → Prop) (p q : Int32 → Int32 → Mem → Option (α × Mem)) : Prop := ∀ a, St1 Inv (p a) (q a)
def St3 {α : Type} (Inv : Mem → Prop) (p q : Int32 → Int32 → Int32 → Mem → Option (α × Mem)) : Prop := ∀ a, St2 Inv (p a) (q a)
def St4 {α : Type} (Inv : Mem → Prop) (p q : Int32 → Int32 → Int32 → Int32 → Mem → Option (α × Mem)) : Prop := ∀ a, St3 Inv (p a) (q a)
def St5 {α : Type} (Inv : Mem → Prop) (p q : Int32 → Int32 → Int32 → Int32 → Int32 → Mem → Option (α × Mem)) : Prop := ∀ a, St4 Inv (p a) (q a)
def StE (Inv : Mem → Prop) : Prop := ∀ σ, Inv σ → ∀ a b, ∃ r1 r2 s1 s2 s3, p_X11_element a b σ = some (r1, s1) ∧ p_X12_element a b s1 = some (r2, s2) ∧ p_X12_thrown s2 = some (r1.1, s3) ∧ (r1.1 = 0 → r2 = r1.2) ∧ Inv s3
def AllSteps (Inv : Mem → Prop) : Prop := St1 Inv p_X11_cape p_X12_cape ∧ St2 Inv p_X11_sailor p_X12_sailor ∧ St2 Inv p_X11_saved p_X12_saved ∧ St1 Inv p_X11_comes p_X12_comes ∧ St3 Inv p_X11_saves p_X12_saves ∧ St2 Inv p_X11_boards p_X12_boards ∧ St2 Inv p_X11_sets p_X12_sets ∧ St1 Inv p_X11_seasons p_X12_seasons ∧ St2 Inv p_X11_may p_X12_may ∧ St1 Inv p_X11_with p_X12_with ∧ St1 Inv p_X11_lawful p_X12_lawful ∧ St1 Inv p_X11_largest p_X12_largest ∧ St1 Inv p_X11_fewestBoats p_X12_fewestBoats ∧ St4 Inv p_X11_manned p_X12_manned ∧ St2 Inv p_X11_bestCrew p_X12_bestCrew ∧ St2 Inv p_X11_cheapest p_X12_cheapest ∧ St0 Inv p_X11_quarrels p_X12_quarrels ∧ St1 Inv p_X11_strictest p_X12_strictest ∧ St2 Inv p_X11_freeLaw p_X12_freeLaw ∧ St1 Inv p_X11_owed p_X12_owed ∧ St0 Inv p_X11_mostOwed p_X12_mostOwed ∧ St1 Inv p_X11_owes p_X12_owes ∧ St1 Inv p_X11_rings p_X12_rings ∧ St2 Inv p_X11_line p_X12_line ∧ St2 Inv p_X11_behind p_X12_behind ∧ St1 Inv p_X11_lostIn p_X12_lostIn ∧ St0 Inv p_X11_unmanned p_X12_unmanned ∧ St2 Inv p_X11_falls p_X12_falls ∧ St1 Inv p_X11_keepAshore p_X12_keepAshore ∧ St1 Inv p_X11_calm p_X12_calm ∧ St2 Inv p_X11_stranger p_X12_stranger ∧ St3 Inv p_X11_hire p_X12_hire ∧ St3 Inv p_X11_two p_X12_two ∧ St4 Inv p_X11_odds p_X12_odds ∧ St3 Inv p_X11_whatIs p_X12_whatIs ∧ St1 Inv p_X11_mean p_X12_mean ∧ St1 Inv p_X11_forged p_X12_forged ∧ St1 Inv p_X11_judge p_X12_judge ∧ St3 Inv p_X11_capes p_X12_capes ∧ St0 Inv p_X11_image p_X12_image ∧ St0 Inv p_X11_restore p_X12_restore ∧ St1 Inv p_X11_count p_X12_count ∧ St4 Inv p_X11_keep p_X12_keep ∧ St3 Inv p_X11_row p_X12_row ∧ St3 Inv p_X11_put p_X12_put ∧ StE Inv ∧ St5 Inv p_X11_copy p_X12_copy ∧ St1 Inv p_X11_cost p_X12_cost ∧ St1 Inv p_X11_toss p_X12_toss
def swo : Array Int := #[212, 237, 274, 311, 336, 385, 422, 459, 484, 521, 546, 571, 596, 621, 682, 719, 756, 769, 794, 831, 856, 869, 894, 919, 956, 993, 1018, 1031, 1068, 1093, 1118, 1155, 1204, 1253, 1315, 1364, 1390, 1415, 1440, 1489, 1502, 1515, 1540, 1601, 1650, 1699, 1766, 1839, 1864]
theorem dsw : decode cL_law 40 = .ok (.tableswitch 1889 0 48 swo, 212) := by decide +kernel
theorem vp_of {x : Int32} {n : Nat} (h0 : 0 ≤ x.toInt) (h1 : x.toInt < (n : Int)) : vp_in x n := by
  unfold vp_in
  rw [Int32.lt_iff_toInt_lt]
  have h2 : x.toNatClampNeg = x.toInt.toNat := rfl
  rw [h2]
  show ¬ (x.toInt < 0 ∨ n ≤ x.toInt.toNat)
  omega
theorem i_nat {n : Nat} (h : n ≤ 4000) : (Int32.ofNat n).toInt = (n : Int) := Int32.toInt_ofNat_of_lt (by omega)
theorem i_sub6 {n : Nat} (h : n ≤ 4000) : (Int32.ofNat n - 6).toInt = (n : Int) - 6 := by
  rw [Int32.toInt_sub, i_nat h, show (6 : Int32).toInt = 6 from rfl]
  unfold Int.bmod
  simp only
  split <;> omega
theorem i_addk {n : Nat} {k : Int32} (h : n ≤ 4000) (h1 : 0 ≤ k.toInt) (h2 : k.toInt ≤ 5) : (Int32.ofNat n + k).toInt = (n : Int) + k.toInt := by
  rw [Int32.toInt_add, i_nat h]
  unfold Int.bmod
  simp only
  split <;> omega
section LOOP
variable {G : Gl} {Y : Lx} {p : Program} {l : Launch} {e : Env} {s : State} {m : MethodId} {b : Nat} {below : List Frame} {meth : Method} {c : Code} {xs : Nat → Int32} {L : Nat} {ly : ClassId} {oa : Nat}
theorem l_sub {f : Nat → Int64} {k n : Nat} {σ : Mem} {ls ls' : List (Nat × Value)} {st : List Value} {pc : Nat} (h : ∀ q ∈ ls', q ∈ ls) (kk : LJ G Y ly oa f k n σ ls' st pc) : LJ G Y ly oa f k n σ ls st pc := by
  obtain ⟨p, l, e, s, m, b, below, meth, c⟩ := Y
  intro H locs la hR hV hS hl
  exact kk H locs la hR hV hS (has_mono hl h)
set_option maxHeartbeats 4000000 in
set_option maxRecDepth 100000 in
theorem law_loop {Inv : Mem → Prop} (HS : AllSteps Inv) (hL : L ≤ 3072) (hC : OkLw G (p, l, e, s, m, b, below, meth, c) xs L ly oa) : ∀ (t j : Nat), L + 6 - 6 * j ≤ t → 6 * j ≤ L + 5 → ∀ (f : Nat → Int64) (k n : Nat) (σ : Mem), Inv σ → k ≤ 80 + j → n ≤ 2495 + 6 * j → LJ G (p, l, e, s, m, b, below, meth, c) ly oa f k n σ [(4, .int (Int32.ofNat (6 * j))), (3, .ref oa), (2, .ref (ga G 65)), (1, .ref (ga G 0)), (0, .ref b)] [] 23 := by
  obtain ⟨h_cape, h_sailor, h_saved, h_comes, h_saves, h_boards, h_sets, h_seasons, h_may, h_with, h_lawful, h_largest, h_fewestBoats, h_manned, h_bestCrew, h_cheapest, h_quarrels, h_strictest, h_freeLaw, h_owed, h_mostOwed, h_owes, h_rings, h_line, h_behind, h_lostIn, h_unmanned, h_falls, h_keepAshore, h_calm, h_stranger, h_hire, h_two, h_odds, h_whatIs, h_mean, h_forged, h_judge, h_capes, h_image, h_restore, h_count, h_keep, h_row, h_put, h_element, h_copy, h_cost, h_toss⟩ := HS
  intro t
  induction t with
  | zero => intro j h1 h2; omega
  | succ t ih =>
    intro j h1 h2 f k n σ hI hk hn
    generalize hi : Int32.ofNat (6 * j) = i
    refine l_blk hC (is := [(.iload 4, 0), (.aload_n 0, 0)]) (pc' := 26) (ls' := [(4, .int i), (3, .ref oa), (2, .ref (ga G 65)), (1, .ref (ga G 0)), (0, .ref b)]) (st' := [.ref b, .int i]) (by decide +kernel) rfl ?_
    refine l_slen hC (by decide +kernel) ?_
    refine l_blk hC (is := [(.bipush 6, (6 : Int32)), (.isub, 0)]) (pc' := 30) (ls' := [(4, .int i), (3, .ref oa), (2, .ref (ga G 65)), (1, .ref (ga G 0)), (0, .ref b)]) (st' := [.int (Int32.ofNat L - 6), .int i]) (by decide +kernel) rfl ?_
    refine l_icmp_gt hC (off := 1905) (tgt := 1935) (by decide +kernel) (by decide) (fun hq => ?_) (fun hq => ?_)
    · refine l_blk hC (is := [(.iconst 1, (1 : Int32))]) (pc' := 1936) (ls' := [(4, .int i), (3, .ref oa), (2, .ref (ga G 65)), (1, .ref (ga G 0)), (0, .ref b)]) (st' := [.int (1 : Int32)]) (by decide +kernel) rfl ?_
      exact l_end hC (by omega) (by omega) (by decide +kernel)
    · have h6 : 6 * j + 6 ≤ L := by
        rw [Int32.lt_iff_toInt_lt, i_sub6 (by omega), ← hi, i_nat (by omega)] at hq
        omega
      have hin0 : vp_in i L := by
        rw [← hi]
        refine vp_of ?_ ?_
        · rw [i_nat (by omega)]; omega
        · rw [i_nat (by omega)]; omega
      have hin : ∀ q : Int32, 1 ≤ q → q ≤ 5 → vp_in (i + q) L := by
        intro q hq1 hq2
        rw [Int32.le_iff_toInt_le] at hq1 hq2
        have e1 : (1 : Int32).toInt = 1 := rfl
        have e5 : (5 : Int32).toInt = 5 := rfl
        rw [e1] at hq1
        rw [e5] at hq2
        rw [← hi]
        refine vp_of ?_ ?_
        · rw [i_addk (by omega) (by omega) hq2]; omega
        · rw [i_addk (by omega) (by omega) hq2]; omega
      have next : ∀ (σ' : Mem), Inv σ' → ∀ (f' : Nat → Int64) (k' n' : Nat), k' ≤ 80 + (j + 1) → n' ≤ 2495 + 6 * (j + 1) → LJ G (p, l, e, s, m, b, below, meth, c) ly oa f' k' n' σ' [(4, .int i), (3, .ref oa), (2, .ref (ga G 65)), (1, .ref (ga G 0)), (0, .ref b)] [] 1929 := by
        intro σ' hI' f' k' n' hk' hn'
        refine l_blk hC (is := [(.iinc 4 6, (6 : Int32))]) (pc' := 1932) (ls' := [(4, .int (i + 6)), (3, .ref oa), (2, .ref (ga G 65)), (1, .ref (ga G 0)), (0, .ref b)]) (st' := []) (by decide +kernel) rfl ?_
        refine l_goto hC (off := -1909) (tgt := 23) (by decide +kernel) (by decide) ?_
        have e6 : i + 6 = Int32.ofNat (6 * (j + 1)) := by
          rw [← hi, Nat.mul_succ, Int32.ofNat_add]
          rfl
        rw [e6]
        exact ih (j + 1) (by omega) (by omega) f' k' n' σ' hI' hk' hn'
      have hk1 : k + 1 ≤ 601024 := by omega
      have hn1 : n + 6 ≤ 7293034 := by omega
      refine l_blk hC (is := [(.aload_n 0, 0), (.iload 4, 0)]) (pc' := 36) (ls' := [(4, .int i), (3, .ref oa), (2, .ref (ga G 65)), (1, .ref (ga G 0)), (0, .ref b)]) (st' := [.int i, .ref b]) (by decide +kernel) rfl ?_
      refine l_sl0 hC hin0 (by decide +kernel) ?_
      refine l_blk hC (is := [(.bipush 63, (63 : Int32)), (.iand, 0)]) (pc' := 40) (ls' := [(4, .int i), (3, .ref oa), (2, .ref (ga G 65)), (1, .ref (ga G 0)), (0, .ref b)]) (st' := [.int (xs i.toNatClampNeg &&& 63)]) (by decide +kernel) rfl ?_
      generalize xs i.toNatClampNeg &&& 63 = w
      by_cases q0 : w = 0
      · refine l_tin hC dsw (off := 212) (tgt := 252) (by rw [q0]; decide) (by rw [q0]; decide) (by rw [q0]; rfl) (by decide) ?_
        obtain ⟨r1, s1, s2, e1, e2, hI2⟩ := h_cape (sc xs i 1) σ hI
        exact case_0 hC hin e1 e2 hk1 hn1 (next s2 hI2 f k n (by omega) (by omega))
      by_cases q1 : w = 1
      · refine l_tin hC dsw (off := 237) (tgt := 277) (by rw [q1]; decide) (by rw [q1]; decide) (by rw [q1]; rfl) (by decide) ?_
        obtain ⟨r1, s1, s2, e1, e2, hI2⟩ := h_sailor (sc xs i 1) (sc xs i 2) σ hI
        exact case_1 hC hin e1 e2 hk1 hn1 (next s2 hI2 f k n (by omega) (by omega))
      by_cases q2 : w = 2
      · refine l_tin hC dsw (off := 274) (tgt := 314) (by rw [q2]; decide) (by rw [q2]; decide) (by rw [q2]; rfl) (by decide) ?_
        obtain ⟨r1, s1, s2, e1, e2, hI2⟩ := h_saved (sc xs i 1) (sc xs i 2) σ hI
        exact case_2 hC hin e1 e2 hk1 hn1 (next s2 hI2 f k n (by omega) (by omega))
      by_cases q3 : w = 3
      · refine l_tin hC dsw (off := 311) (tgt := 351) (by rw [q3]; decide) (by rw [q3]; decide) (by rw [q3]; rfl) (by decide) ?_
        obtain ⟨r1, s1, s2, e1, e2, hI2⟩ := h_comes (sc xs i 1) σ hI
        exact case_3 hC hin e1 e2 hk1 hn1 (next s2 hI2 f k n (by omega) (by omega))
      by_cases q4 : w = 4
      · refine l_tin hC dsw (off := 336) (tgt := 376) (by rw [q4]; decide) (by rw [q4]; decide) (by rw [q4]; rfl) (by decide) ?_
        obtain ⟨r1, s1, s2, e1, e2, hI2⟩ := h_saves (sc xs i 1) (sc xs i 2) (sc xs i 3) σ hI
        exact case_4 hC hin e1 e2 hk1 hn1 (next s2 hI2 f k n (by omega) (by omega))
      by_cases q5 : w = 5
      · refine l_tin hC dsw (off := 385) (tgt := 425) (by rw [q5]; decide) (by rw [q5]; decide) (by rw [q5]; rfl) (by decide) ?_
        obtain ⟨r1, s1, s2, e1, e2, hI2⟩ := h_boards (sc xs i 1) (sc xs i 2) σ hI
        exact case_5 hC hin e1 e2 hk1 hn1 (next s2 hI2 f k n (by omega) (by omega))
      by_cases q6 : w = 6
      · refine l_tin hC dsw (off := 422) (tgt := 462) (by rw [q6]; decide) (by rw [q6]; decide) (by rw [q6]; rfl) (by decide) ?_
        obtain ⟨r1, s1, s2, e1, e2, hI2⟩ := h_sets (sc xs i 1) (sc xs i 2) σ hI
        exact case_6 hC hin e1 e2 hk1 hn1 (next s2 hI2 f k n (by omega) (by omega))
      by_cases q7 : w = 7
      · refine l_tin hC dsw (off := 459) (tgt := 499) (by rw [q7]; decide) (by rw [q7]; decide) (by rw [q7]; rfl) (by decide) ?_
        obtain ⟨r1, s1, s2, e1, e2, hI2⟩ := h_seasons (sc xs i 1) σ hI
        exact case_7 hC hin e1 e2 hk1 hn1 (next s2 hI2 f k n (by omega) (by omega))
      by_cases q8 : w = 8
      · refine l_tin hC dsw (off := 484) (tgt := 524) (by rw [q8]; decide) (by rw [q8]; decide) (by rw [q8]; rfl) (by decide) ?_
        obtain ⟨r1, s1, s2, e1, e2, hI2⟩ := h_may (sc xs i 1) (sc xs i 2) σ hI
        exact case_8 hC hin e1 e2 hk1 hn1 (next s2 hI2 f k n (by omega) (by omega))
      by_cases q9 : w = 9
      · refine l_tin hC dsw (off := 521) (tgt := 561) (by rw [q9]; decide) (by rw [q9]; decide) (by rw [q9]; rfl) (by decide) ?_
        obtain ⟨r1, s1, s2, e1, e2, hI2⟩ := h_with (sc xs i 1) σ hI
        exact case_9 hC hin e1 e2 hk1 hn1 (next s2 hI2 f k n (by omega) (by omega))
      by_cases q10 : w = 10
      · refine l_tin hC dsw (off := 546) (tgt := 586) (by rw [q10]; decide) (by rw [q10]; decide) (by rw [q10]; rfl) (by decide) ?_
        obtain ⟨r1, s1, s2, e1, e2, hI2⟩ := h_lawful (sc xs i 1) σ hI
        exact case_10 hC hin e1 e2 hk1 hn1 (next s2 hI2 f k n (by omega) (by omega))
      by_cases q11 : w = 11
      · refine l_tin hC dsw (off := 571) (tgt := 611) (by rw [q11]; decide) (by rw [q11]; decide) (by rw [q11]; rfl) (by decide) ?_
        obtain ⟨r1, s1, s2, e1, e2, hI2⟩ := h_largest (sc xs i 1) σ hI
        exact case_11 hC hin e1 e2 hk1 hn1 (next s2 hI2 f k n (by omega) (by omega))
      by_cases q12 : w = 12
      · refine l_tin hC dsw (off := 596) (tgt := 636) (by rw [q12]; decide) (by rw [q12]; decide) (by rw [q12]; rfl) (by decide) ?_
        obtain ⟨r1, s1, s2, e1, e2, hI2⟩ := h_fewestBoats (sc xs i 1) σ hI
        exact case_12 hC hin e1 e2 hk1 hn1 (next s2 hI2 f k n (by omega) (by omega))
      by_cases q13 : w = 13
      · refine l_tin hC dsw (off := 621) (tgt := 661) (by rw [q13]; decide) (by rw [q13]; decide) (by rw [q13]; rfl) (by decide) ?_
        obtain ⟨r1, s1, s2, e1, e2, hI2⟩ := h_manned (sc xs i 1) (sc xs i 2) (sc xs i 3) (sc xs i 4) σ hI
        exact case_13 hC hin e1 e2 hk1 hn1 (next s2 hI2 f k n (by omega) (by omega))
      by_cases q14 : w = 14
      · refine l_tin hC dsw (off := 682) (tgt := 722) (by rw [q14]; decide) (by rw [q14]; decide) (by rw [q14]; rfl) (by decide) ?_
        obtain ⟨r1, s1, s2, e1, e2, hI2⟩ := h_bestCrew (sc xs i 1) (sc xs i 2) σ hI
        exact case_14 hC hin e1 e2 hk1 hn1 (next s2 hI2 f k n (by omega) (by omega))
      by_cases q15 : w = 15
      · refine l_tin hC dsw (off := 719) (tgt := 759) (by rw [q15]; decide) (by rw [q15]; decide) (by rw [q15]; rfl) (by decide) ?_
        obtain ⟨r1, s1, s2, e1, e2, hI2⟩ := h_cheapest (sc xs i 1) (sc xs i 2) σ hI
        exact case_15 hC hin e1 e2 hk1 hn1 (next s2 hI2 f k n (by omega) (by omega))
      by_cases q16 : w = 16
      · refine l_tin hC dsw (off := 756) (tgt := 796) (by rw [q16]; decide) (by rw [q16]; decide) (by rw [q16]; rfl) (by decide) ?_
        obtain ⟨r1, s1, s2, e1, e2, hI2⟩ := h_quarrels σ hI
        exact case_16 hC hin e1 e2 hk1 hn1 (next s2 hI2 f k n (by omega) (by omega))
      by_cases q17 : w = 17
      · refine l_tin hC dsw (off := 769) (tgt := 809) (by rw [q17]; decide) (by rw [q17]; decide) (by rw [q17]; rfl) (by decide) ?_
        obtain ⟨r1, s1, s2, e1, e2, hI2⟩ := h_strictest (sc xs i 1) σ hI
        exact case_17 hC hin e1 e2 hk1 hn1 (next s2 hI2 f k n (by omega) (by omega))
      by_cases q18 : w = 18
      · refine l_tin hC dsw (off := 794) (tgt := 834) (by rw [q18]; decide) (by rw [q18]; decide) (by rw [q18]; rfl) (by decide) ?_
        obtain ⟨r1, s1, s2, e1, e2, hI2⟩ := h_freeLaw (sc xs i 1) (sc xs i 2) σ hI
        exact case_18 hC hin e1 e2 hk1 hn1 (next s2 hI2 f k n (by omega) (by omega))
      by_cases q19 : w = 19
      · refine l_tin hC dsw (off := 831) (tgt := 871) (by rw [q19]; decide) (by rw [q19]; decide) (by rw [q19]; rfl) (by decide) ?_
        obtain ⟨r1, s1, s2, e1, e2, hI2⟩ := h_owed (sc xs i 1) σ hI
        exact case_19 hC hin e1 e2 hk1 hn1 (next s2 hI2 f k n (by omega) (by omega))
      by_cases q20 : w = 20
      · refine l_tin hC dsw (off := 856) (tgt := 896) (by rw [q20]; decide) (by rw [q20]; decide) (by rw [q20]; rfl) (by decide) ?_
        obtain ⟨r1, s1, s2, e1, e2, hI2⟩ := h_mostOwed σ hI
        exact case_20 hC hin e1 e2 hk1 hn1 (next s2 hI2 f k n (by omega) (by omega))
      by_cases q21 : w = 21
      · refine l_tin hC dsw (off := 869) (tgt := 909) (by rw [q21]; decide) (by rw [q21]; decide) (by rw [q21]; rfl) (by decide) ?_
        obtain ⟨r1, s1, s2, e1, e2, hI2⟩ := h_owes (sc xs i 1) σ hI
        exact case_21 hC hin e1 e2 hk1 hn1 (next s2 hI2 f k n (by omega) (by omega))
      by_cases q22 : w = 22
      · refine l_tin hC dsw (off := 894) (tgt := 934) (by rw [q22]; decide) (by rw [q22]; decide) (by rw [q22]; rfl) (by decide) ?_
        obtain ⟨r1, s1, s2, e1, e2, hI2⟩ := h_rings (sc xs i 1) σ hI
        exact case_22 hC hin e1 e2 hk1 hn1 (next s2 hI2 f k n (by omega) (by omega))
      by_cases q23 : w = 23
      · refine l_tin hC dsw (off := 919) (tgt := 959) (by rw [q23]; decide) (by rw [q23]; decide) (by rw [q23]; rfl) (by decide) ?_
        obtain ⟨r1, s1, s2, e1, e2, hI2⟩ := h_line (sc xs i 1) (sc xs i 2) σ hI
        exact case_23 hC hin e1 e2 hk1 hn1 (next s2 hI2 f k n (by omega) (by omega))
      by_cases q24 : w = 24
      · refine l_tin hC dsw (off := 956) (tgt := 996) (by rw [q24]; decide) (by rw [q24]; decide) (by rw [q24]; rfl) (by decide) ?_
        obtain ⟨r1, s1, s2, e1, e2, hI2⟩ := h_behind (sc xs i 1) (sc xs i 2) σ hI
        exact case_24 hC hin e1 e2 hk1 hn1 (next s2 hI2 f k n (by omega) (by omega))
      by_cases q25 : w = 25
      · refine l_tin hC dsw (off := 993) (tgt := 1033) (by rw [q25]; decide) (by rw [q25]; decide) (by rw [q25]; rfl) (by decide) ?_
        obtain ⟨r1, s1, s2, e1, e2, hI2⟩ := h_lostIn (sc xs i 1) σ hI
        exact case_25 hC hin e1 e2 hk1 hn1 (next s2 hI2 f k n (by omega) (by omega))
      by_cases q26 : w = 26
      · refine l_tin hC dsw (off := 1018) (tgt := 1058) (by rw [q26]; decide) (by rw [q26]; decide) (by rw [q26]; rfl) (by decide) ?_
        obtain ⟨r1, s1, s2, e1, e2, hI2⟩ := h_unmanned σ hI
        exact case_26 hC hin e1 e2 hk1 hn1 (next s2 hI2 f k n (by omega) (by omega))
      by_cases q27 : w = 27
      · refine l_tin hC dsw (off := 1031) (tgt := 1071) (by rw [q27]; decide) (by rw [q27]; decide) (by rw [q27]; rfl) (by decide) ?_
        obtain ⟨r1, s1, s2, e1, e2, hI2⟩ := h_falls (sc xs i 1) (sc xs i 2) σ hI
        exact case_27 hC hin e1 e2 hk1 hn1 (next s2 hI2 f k n (by omega) (by omega))
      by_cases q28 : w = 28
      · refine l_tin hC dsw (off := 1068) (tgt := 1108) (by rw [q28]; decide) (by rw [q28]; decide) (by rw [q28]; rfl) (by decide) ?_
        obtain ⟨r1, s1, s2, e1, e2, hI2⟩ := h_keepAshore (sc xs i 1) σ hI
        exact case_28 hC hin e1 e2 hk1 hn1 (next s2 hI2 f k n (by omega) (by omega))
      by_cases q29 : w = 29
      · refine l_tin hC dsw (off := 1093) (tgt := 1133) (by rw [q29]; decide) (by rw [q29]; decide) (by rw [q29]; rfl) (by decide) ?_
        obtain ⟨r1, s1, s2, e1, e2, hI2⟩ := h_calm (sc xs i 1) σ hI
        exact case_29 hC hin e1 e2 hk1 hn1 (next s2 hI2 f k n (by omega) (by omega))
      by_cases q30 : w = 30
      · refine l_tin hC dsw (off := 1118) (tgt := 1158) (by rw [q30]; decide) (by rw [q30]; decide) (by rw [q30]; rfl) (by decide) ?_
        obtain ⟨r1, s1, s2, e1, e2, hI2⟩ := h_stranger (sc xs i 1) (sc xs i 2) σ hI
        exact case_30 hC hin e1 e2 hk1 hn1 (next s2 hI2 f k n (by omega) (by omega))
      by_cases q31 : w = 31
      · refine l_tin hC dsw (off := 1155) (tgt := 1195) (by rw [q31]; decide) (by rw [q31]; decide) (by rw [q31]; rfl) (by decide) ?_
        obtain ⟨r1, s1, s2, e1, e2, hI2⟩ := h_hire (sc xs i 1) (sc xs i 2) (sc xs i 3) σ hI
        exact case_31 hC hin e1 e2 hk1 hn1 (next s2 hI2 f k n (by omega) (by omega))
      by_cases q32 : w = 32
      · refine l_tin hC dsw (off := 1204) (tgt := 1244) (by rw [q32]; decide) (by rw [q32]; decide) (by rw [q32]; rfl) (by decide) ?_
        obtain ⟨r1, s1, s2, e1, e2, hI2⟩ := h_two (sc xs i 1) (sc xs i 2) (sc xs i 3) σ hI
        exact case_32 hC hin e1 e2 hk1 hn1 (next s2 hI2 f k n (by omega) (by omega))
      by_cases q33 : w = 33
      · refine l_tin hC dsw (off := 1253) (tgt := 1293) (by rw [q33]; decide) (by rw [q33]; decide) (by rw [q33]; rfl) (by decide) ?_
        obtain ⟨r1, s1, s2, e1, e2, hI2⟩ := h_odds (sc xs i 1) (sc xs i 2) (sc xs i 3) (sc xs i 4) σ hI
        exact case_33 hC hin e1 e2 hk1 hn1 (next s2 hI2 f k n (by omega) (by omega))
      by_cases q34 : w = 34
      · refine l_tin hC dsw (off := 1315) (tgt := 1355) (by rw [q34]; decide) (by rw [q34]; decide) (by rw [q34]; rfl) (by decide) ?_
        obtain ⟨r1, s1, s2, e1, e2, hI2⟩ := h_whatIs (sc xs i 1) (sc xs i 2) (sc xs i 3) σ hI
        exact case_34 hC hin e1 e2 hk1 hn1 (next s2 hI2 f k n (by omega) (by omega))
      by_cases q35 : w = 35
      · refine l_tin hC dsw (off := 1364) (tgt := 1404) (by rw [q35]; decide) (by rw [q35]; decide) (by rw [q35]; rfl) (by decide) ?_
        obtain ⟨r1, s1, s2, e1, e2, hI2⟩ := h_mean (sc xs i 1) σ hI
        exact case_35 hC hin e1 e2 hk1 hn1 (next s2 hI2 f k n (by omega) (by omega))
      by_cases q36 : w = 36
      · refine l_tin hC dsw (off := 1390) (tgt := 1430) (by rw [q36]; decide) (by rw [q36]; decide) (by rw [q36]; rfl) (by decide) ?_
        obtain ⟨r1, s1, s2, e1, e2, hI2⟩ := h_forged (sc xs i 1) σ hI
        exact case_36 hC hin e1 e2 hk1 hn1 (next s2 hI2 f k n (by omega) (by omega))
      by_cases q37 : w = 37
      · refine l_tin hC dsw (off := 1415) (tgt := 1455) (by rw [q37]; decide) (by rw [q37]; decide) (by rw [q37]; rfl) (by decide) ?_
        obtain ⟨r1, s1, s2, e1, e2, hI2⟩ := h_judge (sc xs i 1) σ hI
        exact case_37 hC hin e1 e2 hk1 hn1 (next s2 hI2 f k n (by omega) (by omega))
      by_cases q38 : w = 38
      · refine l_tin hC dsw (off := 1440) (tgt := 1480) (by rw [q38]; decide) (by rw [q38]; decide) (by rw [q38]; rfl) (by decide) ?_
        obtain ⟨r1, s1, s2, e1, e2, hI2⟩ := h_capes (sc xs i 1) (sc xs i 2) (sc xs i 3) σ hI
        exact case_38 hC hin e1 e2 hk1 hn1 (next s2 hI2 f k n (by omega) (by omega))
      by_cases q39 : w = 39
      · refine l_tin hC dsw (off := 1489) (tgt := 1529) (by rw [q39]; decide) (by rw [q39]; decide) (by rw [q39]; rfl) (by decide) ?_
        obtain ⟨r1, s1, s2, e1, e2, hI2⟩ := h_image σ hI
        exact case_39 hC hin e1 e2 hk1 hn1 (next s2 hI2 f k n (by omega) (by omega))
      by_cases q40 : w = 40
      · refine l_tin hC dsw (off := 1502) (tgt := 1542) (by rw [q40]; decide) (by rw [q40]; decide) (by rw [q40]; rfl) (by decide) ?_
        obtain ⟨r1, s1, s2, e1, e2, hI2⟩ := h_restore σ hI
        exact case_40 hC hin e1 e2 hk1 hn1 (next s2 hI2 f k n (by omega) (by omega))
      by_cases q41 : w = 41
      · refine l_tin hC dsw (off := 1515) (tgt := 1555) (by rw [q41]; decide) (by rw [q41]; decide) (by rw [q41]; rfl) (by decide) ?_
        obtain ⟨r1, s1, s2, e1, e2, hI2⟩ := h_count (sc xs i 1) σ hI
        exact case_41 hC hin e1 e2 hk1 hn1 (next s2 hI2 f k n (by omega) (by omega))
      by_cases q42 : w = 42
      · refine l_tin hC dsw (off := 1540) (tgt := 1580) (by rw [q42]; decide) (by rw [q42]; decide) (by rw [q42]; rfl) (by decide) ?_
        obtain ⟨r1, s1, s2, e1, e2, hI2⟩ := h_keep (sc xs i 1) (sc xs i 2) (sc xs i 3) (sc xs i 4) σ hI
        exact case_42 hC hin e1 e2 hk1 hn1 (next s2 hI2 f k n (by omega) (by omega))
      by_cases q43 : w = 43
      · refine l_tin hC dsw (off := 1601) (tgt := 1641) (by rw [q43]; decide) (by rw [q43]; decide) (by rw [q43]; rfl) (by decide) ?_
        obtain ⟨r1, s1, s2, e1, e2, hI2⟩ := h_row (sc xs i 1) (sc xs i 2) (sc xs i 3) σ hI
        exact case_43 hC hin e1 e2 hk1 hn1 (next s2 hI2 f k n (by omega) (by omega))
      by_cases q44 : w = 44
      · refine l_tin hC dsw (off := 1650) (tgt := 1690) (by rw [q44]; decide) (by rw [q44]; decide) (by rw [q44]; rfl) (by decide) ?_
        obtain ⟨r1, s1, s2, e1, e2, hI2⟩ := h_put (sc xs i 1) (sc xs i 2) (sc xs i 3) σ hI
        exact case_44 hC hin e1 e2 hk1 hn1 (next s2 hI2 f k n (by omega) (by omega))
      by_cases q45 : w = 45
      · refine l_tin hC dsw (off := 1699) (tgt := 1739) (by rw [q45]; decide) (by rw [q45]; decide) (by rw [q45]; rfl) (by decide) ?_
        obtain ⟨r1, r2, s1, s2, s3, e1, e2, e3, hz, hI2⟩ := h_element σ hI (sc xs i 1) (sc xs i 2)
        exact case_45 hC hin e1 e2 e3 hz hk1 hn1 (fun f2 => l_sub (fun q hq => List.mem_cons_of_mem _ (List.mem_cons_of_mem _ hq)) (next s3 hI2 f2 (k + 1) (n + 6) (by omega) (by omega)))
      by_cases q46 : w = 46
      · refine l_tin hC dsw (off := 1766) (tgt := 1806) (by rw [q46]; decide) (by rw [q46]; decide) (by rw [q46]; rfl) (by decide) ?_
        obtain ⟨r1, s1, s2, e1, e2, hI2⟩ := h_copy (sc xs i 1) (sc xs i 2) (sc xs i 3) (sc xs i 4) (sc xs i 5) σ hI
        exact case_46 hC hin e1 e2 hk1 hn1 (next s2 hI2 f k n (by omega) (by omega))
      by_cases q47 : w = 47
      · refine l_tin hC dsw (off := 1839) (tgt := 1879) (by rw [q47]; decide) (by rw [q47]; decide) (by rw [q47]; rfl) (by decide) ?_
        obtain ⟨r1, s1, s2, e1, e2, hI2⟩ := h_cost (sc xs i 1) σ hI
        exact case_47 hC hin e1 e2 hk1 hn1 (next s2 hI2 f k n (by omega) (by omega))
      by_cases q48 : w = 48
      · refine l_tin hC dsw (off := 1864) (tgt := 1904) (by rw [q48]; decide) (by rw [q48]; decide) (by rw [q48]; rfl) (by decide) ?_
        obtain ⟨r1, s1, s2, e1, e2, hI2⟩ := h_toss (sc xs i 1) σ hI
        exact case_48 hC hin e1 e2 hk1 hn1 (next s2 hI2 f (k + 1) (n + 6) (by omega) (by omega))
      refine l_tout hC dsw (tgt := 1929) (by have w0 := lv_neT q0 (a := 0) (by decide); have w1 := lv_neT q1 (a := 1) (by decide); have w2 := lv_neT q2 (a := 2) (by decide); have w3 := lv_neT q3 (a := 3) (by decide); have w4 := lv_neT q4 (a := 4) (by decide); have w5 := lv_neT q5 (a := 5) (by decide); have w6 := lv_neT q6 (a := 6) (by decide); have w7 := lv_neT q7 (a := 7) (by decide); have w8 := lv_neT q8 (a := 8) (by decide); have w9 := lv_neT q9 (a := 9) (by decide); have w10 := lv_neT q10 (a := 10) (by decide); have w11 := lv_neT q11 (a := 11) (by decide); have w12 := lv_neT q12 (a := 12) (by decide); have w13 := lv_neT q13 (a := 13) (by decide); have w14 := lv_neT q14 (a := 14) (by decide); have w15 := lv_neT q15 (a := 15) (by decide); have w16 := lv_neT q16 (a := 16) (by decide); have w17 := lv_neT q17 (a := 17) (by decide); have w18 := lv_neT q18 (a := 18) (by decide); have w19 := lv_neT q19 (a := 19) (by decide); have w20 := lv_neT q20 (a := 20) (by decide); have w21 := lv_neT q21 (a := 21) (by decide); have w22 := lv_neT q22 (a := 22) (by decide); have w23 := lv_neT q23 (a := 23) (by decide); have w24 := lv_neT q24 (a := 24) (by decide); have w25 := lv_neT q25 (a := 25) (by decide); have w26 := lv_neT q26 (a := 26) (by decide); have w27 := lv_neT q27 (a := 27) (by decide); have w28 := lv_neT q28 (a := 28) (by decide); have w29 := lv_neT q29 (a := 29) (by decide); have w30 := lv_neT q30 (a := 30) (by decide); have w31 := lv_neT q31 (a := 31) (by decide); have w32 := lv_neT q32 (a := 32) (by decide); have w33 := lv_neT q33 (a := 33) (by decide); have w34 := lv_neT q34 (a := 34) (by decide); have w35 := lv_neT q35 (a := 35) (by decide); have w36 := lv_neT q36 (a := 36) (by decide); have w37 := lv_neT q37 (a := 37) (by decide); have w38 := lv_neT q38 (a := 38) (by decide); have w39 := lv_neT q39 (a := 39) (by decide); have w40 := lv_neT q40 (a := 40) (by decide); have w41 := lv_neT q41 (a := 41) (by decide); have w42 := lv_neT q42 (a := 42) (by decide); have w43 := lv_neT q43 (a := 43) (by decide); have w44 := lv_neT q44 (a := 44) (by decide); have w45 := lv_neT q45 (a := 45) (by decide); have w46 := lv_neT q46 (a := 46) (by decide); have w47 := lv_neT q47 (a := 47) (by decide); have w48 := lv_neT q48 (a := 48) (by decide); omega) (by decide) (next σ hI f k n (by omega) (by omega))
end LOOP
theorem whole_of {Inv : Mem → Prop} (HS : AllSteps Inv) (h0 : Inv s0) {p : Program} {e : Env} {s : State} {m : MethodId} {below : List Frame} {meth : Method} {c : Code} (l : Launch) (hflags : l.flags = flags0) {b L : Nat} {xs : Nat → Int32} (hL : L ≤ 3072) (C0 : lw_At p s m meth c b L xs) : W p l e room_1 s m #[Value.ref b] below meth c s.heap [] 0 0 (lw_Z below #[Value.ref b] s) (entryFrame m ([Value.ref b] : List Value).toArray 8) :=
  law_start hflags C0 (fun G ly oa f hC => law_loop HS hL hC (L + 6) 0 (by omega) (by omega) f 80 2495 s0 h0 (by omega) (by omega))
