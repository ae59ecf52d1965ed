def p_X11_refusal (x1 : Int32) (x2 : Int32) (σ : Mem) : Option (Int32 × Mem) := (bnd (p_X11_isShelf x1 σ) fun v1 s2 => (if v1 = 0 then some ((-1 : Int32), s2) else (if x1 < 0 ∨ 8 ≤ (x1).toNatClampNeg then none else (lt (s2 (6 + (x1).toNatClampNeg) 1) fun v5 => (if v5 = 0 then some ((-11 : Int32), s2) else (if x1 < 0 ∨ 8 ≤ (x1).toNatClampNeg then none else (lt (s2 (6 + (x1).toNatClampNeg) 1) fun v7 => (if v7 = x2 then some ((0 : Int32), s2) else some ((-12 : Int32), s2)))))))))
set_option maxHeartbeats 4000000 in
set_option maxRecDepth 100000 in
theorem c_X11_refusal {G : Gl} {x1 : Int32} {x2 : Int32} {σ : Mem} {res : Int32 × Mem}  (h : p_X11_refusal x1 x2 σ = some res) : MetX G yX11_refusal cX11_refusal 3 (some .int) 3 [.ref (ga G 0), .int x1, .int x2] σ (some (.int res.1)) res.2 := by
  refine met_V (by decide +kernel) (Nat.le_of_ble_eq_true rfl) (fun X hC => ?_)
  have hC : Ok G 3 3 X cX11_refusal RX11 (some .int) := hC
  unfold p_X11_refusal at h
  show V G 3 3 X ((some (.int res.1)), res.2) σ [(0, .ref (ga G 0)), (1, .int x1), (2, .int x2)] [] 0
  refine v_blk hC (is := [(.iload_n 1, 0)]) (pc' := 1) (ls' := [(0, .ref (ga G 0)), (1, .int x1), (2, .int x2)]) (st' := [.int x1]) (by decide +kernel) rfl ?_
  obtain ⟨v1, s2, e3, h⟩ := bndI h
  refine v_cS (idx := 258) hC ⟨tt_at 297 (by decide +kernel) rfl, tsX11_isShelf, tnX11_isShelf, tcX11_isShelf, tmX11_isShelf⟩ (c_X11_isShelf e3) (by decide) (by decide) (by decide +kernel) (rest := []) rfl rfl (Nat.le_of_ble_eq_true rfl) rfl ?_
  refine v_if_ne hC (off := 5) (tgt := 9) (by decide +kernel) (by decide) h (fun hq h => ?_) (fun hq h => ?_)
  · refine v_blk hC (is := [(.aload_n 0, 0)]) (pc' := 10) (ls' := [(0, .ref (ga G 0)), (1, .int x1), (2, .int x2)]) (st' := [.ref (ga G 0)]) (by decide +kernel) rfl ?_
    refine gX11_4 hC lfX11_31 (by decide +kernel) ?_
    refine v_blk hC (is := [(.iload_n 1, 0)]) (pc' := 14) (ls' := [(0, .ref (ga G 0)), (1, .int x1), (2, .int x2)]) (st' := [.int x1, .ref (ga G 5)]) (by decide +kernel) rfl ?_
    refine v_aald hC (t0 := 2) (by decide) enr_shelves rfl (by decide +kernel) h (fun hi4 h => ?_)
    refine gX8_1 hC (shelf_at hi4) lfX11_261 (by decide +kernel) h (fun v5 h => ?_)
    refine v_if_ne hC (off := 6) (tgt := 24) (by decide +kernel) (by decide) h (fun hq h => ?_) (fun hq h => ?_)
    · refine v_blk hC (is := [(.aload_n 0, 0)]) (pc' := 25) (ls' := [(0, .ref (ga G 0)), (1, .int x1), (2, .int x2)]) (st' := [.ref (ga G 0)]) (by decide +kernel) rfl ?_
      refine gX11_4 hC lfX11_31 (by decide +kernel) ?_
      refine v_blk hC (is := [(.iload_n 1, 0)]) (pc' := 29) (ls' := [(0, .ref (ga G 0)), (1, .int x1), (2, .int x2)]) (st' := [.int x1, .ref (ga G 5)]) (by decide +kernel) rfl ?_
      refine v_aald hC (t0 := 2) (by decide) enr_shelves rfl (by decide +kernel) h (fun hi6 h => ?_)
      refine gX8_1 hC (shelf_at hi6) lfX11_261 (by decide +kernel) h (fun v7 h => ?_)
      refine v_blk hC (is := [(.iload_n 2, 0)]) (pc' := 34) (ls' := [(0, .ref (ga G 0)), (1, .int x1), (2, .int x2)]) (st' := [.int x2, .int v7]) (by decide +kernel) rfl ?_
      refine v_icmp_ne hC (off := 7) (tgt := 41) (by decide +kernel) (by decide) h (fun hq h => ?_) (fun hq h => ?_)
      · refine v_blk hC (is := [(.bipush (-12), (-12 : Int32))]) (pc' := 43) (ls' := [(0, .ref (ga G 0)), (1, .int x1), (2, .int x2)]) (st' := [.int (-12 : Int32)]) (by decide +kernel) rfl ?_
        exact v_iret hC h (by decide +kernel)
      · refine v_blk hC (is := [(.iconst 0, (0 : Int32))]) (pc' := 38) (ls' := [(0, .ref (ga G 0)), (1, .int x1), (2, .int x2)]) (st' := [.int (0 : Int32)]) (by decide +kernel) rfl ?_
        refine v_goto hC (off := 5) (tgt := 43) (by decide +kernel) (by decide) ?_
        exact v_iret hC h (by decide +kernel)
    · refine v_blk hC (is := [(.bipush (-11), (-11 : Int32))]) (pc' := 23) (ls' := [(0, .ref (ga G 0)), (1, .int x1), (2, .int x2)]) (st' := [.int (-11 : Int32)]) (by decide +kernel) rfl ?_
      exact v_iret hC h (by decide +kernel)
  · refine v_blk hC (is := [(.iconst (-1), (-1 : Int32))]) (pc' := 8) (ls' := [(0, .ref (ga G 0)), (1, .int x1), (2, .int x2)]) (st' := [.int (-1 : Int32)]) (by decide +kernel) rfl ?_
    exact v_iret hC h (by decide +kernel)

def p_X11_cape_B118  (x1 : Int32) (x5 : Int32) (σ : Mem) : Option (Int32 × Mem) := (bnd (p_X3_becomes 1 3 σ) fun (v1 : Unit) s2 => some (x5, s2))
def p_X11_cape_B65 (k65 : Nat → Int32 → Int32 → Mem → Option (Int32 × Mem)) (k94 : Int32 → Mem → Option (Int32 × Mem)) (k118 : Int32 → Mem → Option (Int32 × Mem)) (x1 : Int32) (x3 : Nat) (x5 : Int32) (x6 : Int32) (σ : Mem) : Option (Int32 × Mem) := (if (100 : Int32) ≤ x5 then k118 x5 σ else (lt (σ x3 5) fun v4 => (if v4 ≤ x6 then k118 x5 σ else (bnd (p_X3_obeys 3 x3 x6 σ) fun v5 s6 => (if v5 = 0 then k94 x6 s6 else (bnd (p_X8_lengthAt x3 x6 s6) fun v8 s9 => k65 x3 (x5 + (1 : Int32)) (x6 + v8) s9))))))
def p_X11_cape_L65 (k94 : Int32 → Mem → Option (Int32 × Mem)) (k118 : Int32 → Mem → Option (Int32 × Mem)) (x1 : Int32) : Nat → Nat → Int32 → Int32 → Mem → Option (Int32 × Mem)
  | 0 => fun _ _ _ _ => none
  | f + 1 => p_X11_cape_B65 (p_X11_cape_L65 k94 k118 x1 f) k94 k118 x1
def p_X11_cape (x1 : Int32) (σ : Mem) : Option (Int32 × Mem) := (bnd (p_X11_refusal x1 (2 : Int32) σ) fun v11 s12 => (if v11 = 0 then (if x1 < 0 ∨ 8 ≤ (x1).toNatClampNeg then none else (lt (s12 (6 + (x1).toNatClampNeg) 4) fun v15 => (if v15 = 0 then (bnd (p_X8_brokenAt (6 + (x1).toNatClampNeg) s12) fun v16 s17 => (if v16 < 0 then (bnd (p_X3_becomes 3 1 s17) fun (v19 : Unit) s20 => (p_X11_cape_L65 (fun (x6 : Int32) (m22 : Mem) => some (((-2000 : Int32) - x6), m22)) (p_X11_cape_B118 x1) x1 1000) (6 + (x1).toNatClampNeg) (0 : Int32) (0 : Int32) s20) else some (((-1000 : Int32) - v16), s17))) else some ((-12 : Int32), s12)))) else some (v11, s12)))
set_option maxHeartbeats 4000000 in
set_option maxRecDepth 100000 in
theorem c_X11_cape {G : Gl} {x1 : Int32} {σ : Mem} {res : Int32 × Mem}  (h : p_X11_cape x1 σ = some res) : MetX G yX11_cape cX11_cape 7 (some .int) 8 [.ref (ga G 0), .int x1] σ (some (.int res.1)) res.2 := by
  refine met_V (by decide +kernel) (Nat.le_of_ble_eq_true rfl) (fun X hC => ?_)
  have hC : Ok G 8 7 X cX11_cape RX11 (some .int) := hC
  have hB118 : ∀ (x5 : Int32), ∀ σ : Mem, p_X11_cape_B118 x1 x5 σ = some res → V G 8 7 X ((some (.int res.1)), res.2) σ [(0, .ref (ga G 0)), (5, .int x5)] [] 118 := by
    intro x5 σ h
    unfold p_X11_cape_B118 at h
    refine v_blk hC (is := [(.aload_n 0, 0)]) (pc' := 119) (ls' := [(0, .ref (ga G 0)), (5, .int x5)]) (st' := [.ref (ga G 0)]) (by decide +kernel) rfl ?_
    refine gX11_0 hC lfX11_10 (by decide +kernel) ?_
    refine v_blk hC (is := [(.aload_n 0, 0)]) (pc' := 123) (ls' := [(0, .ref (ga G 0)), (5, .int x5)]) (st' := [.ref (ga G 0), .ref (ga G 1)]) (by decide +kernel) rfl ?_
    refine gX11_2 hC lfX11_19 (by decide +kernel) ?_
    obtain ⟨v1, s2, e3, h⟩ := bndI h
    refine v_cVN (idx := 48) hC ⟨List.mem_of_getElem? (i := 19) (by decide +kernel), tiX3_becomes, tvX3_becomes, tnX3_becomes, tcX3_becomes, tmX3_becomes⟩ (isO_X3 cape1) rfl (c_X3_becomes cape1 cape3 e3) (by decide) (by decide) (by decide +kernel) (rest := []) rfl rfl (Nat.le_of_ble_eq_true rfl) rfl ?_
    refine v_blk hC (is := [(.iload 5, 0)]) (pc' := 131) (ls' := [(0, .ref (ga G 0)), (5, .int x5)]) (st' := [.int x5]) (by decide +kernel) rfl ?_
    exact v_iret hC h (by decide +kernel)
  have hB65 : ∀ (k65 : Nat → Int32 → Int32 → Mem → Option (Int32 × Mem)), ∀ (k94 : Int32 → Mem → Option (Int32 × Mem)), ∀ (k118 : Int32 → Mem → Option (Int32 × Mem)), (∀ (x3 : Nat), ∀ (x5 : Int32), ∀ (x6 : Int32), isShelf x3 → ∀ σ : Mem, k65 x3 x5 x6 σ = some res → V G 8 7 X ((some (.int res.1)), res.2) σ [(0, .ref (ga G 0)), (3, .ref (ga G x3)), (5, .int x5), (6, .int x6)] [] 65) → (∀ (x6 : Int32), ∀ σ : Mem, k94 x6 σ = some res → V G 8 7 X ((some (.int res.1)), res.2) σ [(6, .int x6)] [] 94) → (∀ (x5 : Int32), ∀ σ : Mem, k118 x5 σ = some res → V G 8 7 X ((some (.int res.1)), res.2) σ [(0, .ref (ga G 0)), (5, .int x5)] [] 118) → ∀ (x3 : Nat), ∀ (x5 : Int32), ∀ (x6 : Int32), isShelf x3 → ∀ σ : Mem, p_X11_cape_B65 k65 k94 k118 x1 x3 x5 x6 σ = some res → V G 8 7 X ((some (.int res.1)), res.2) σ [(0, .ref (ga G 0)), (3, .ref (ga G x3)), (5, .int x5), (6, .int x6)] [] 65 := by
    intro k65 k94 k118 hk65 hk94 hk118 x3 x5 x6 hx3 σ h
    unfold p_X11_cape_B65 at h
    refine v_blk hC (is := [(.iload 5, 0), (.bipush 100, (100 : Int32))]) (pc' := 69) (ls' := [(0, .ref (ga G 0)), (3, .ref (ga G x3)), (5, .int x5), (6, .int x6)]) (st' := [.int (100 : Int32), .int x5]) (by decide +kernel) rfl ?_
    refine v_icmp_ge hC (off := 49) (tgt := 118) (by decide +kernel) (by decide) h (fun hq h => ?_) (fun hq h => ?_)
    · refine v_sub [0, 2] (ls' := [(0, .ref (ga G 0)), (5, .int x5)]) rfl ?_
      exact hk118 _ _ h
    · refine v_blk hC (is := [(.iload 6, 0), (.aload_n 3, 0)]) (pc' := 75) (ls' := [(0, .ref (ga G 0)), (3, .ref (ga G x3)), (5, .int x5), (6, .int x6)]) (st' := [.ref (ga G x3), .int x6]) (by decide +kernel) rfl ?_
      refine gX8_5 hC hx3 lfX11_52 (by decide +kernel) h (fun v4 h => ?_)
      refine v_icmp_ge hC (off := 40) (tgt := 118) (by decide +kernel) (by decide) h (fun hq h => ?_) (fun hq h => ?_)
      · refine v_sub [0, 2] (ls' := [(0, .ref (ga G 0)), (5, .int x5)]) rfl ?_
        exact hk118 _ _ h
      · refine v_blk hC (is := [(.aload_n 0, 0)]) (pc' := 82) (ls' := [(0, .ref (ga G 0)), (3, .ref (ga G x3)), (5, .int x5), (6, .int x6)]) (st' := [.ref (ga G 0)]) (by decide +kernel) rfl ?_
        refine gX11_2 hC lfX11_19 (by decide +kernel) ?_
        refine v_blk hC (is := [(.aload_n 3, 0), (.iload 6, 0)]) (pc' := 88) (ls' := [(0, .ref (ga G 0)), (3, .ref (ga G x3)), (5, .int x5), (6, .int x6)]) (st' := [.int x6, .ref (ga G x3), .ref (ga G 3)]) (by decide +kernel) rfl ?_
        obtain ⟨v5, s6, e7, h⟩ := bndI h
        refine v_cVN (idx := 55) hC ⟨List.mem_of_getElem? (i := 20) (by decide +kernel), tiX3_obeys, tvX3_obeys, tnX3_obeys, tcX3_obeys, tmX3_obeys⟩ (isO_X3 cape3) rfl (c_X3_obeys cape3 hx3 e7) (by decide) (by decide) (by decide +kernel) (rest := []) rfl rfl (Nat.le_of_ble_eq_true rfl) rfl ?_
        refine v_if_ne hC (off := 10) (tgt := 101) (by decide +kernel) (by decide) h (fun hq h => ?_) (fun hq h => ?_)
        · refine v_blk hC (is := [(.iload 6, 0), (.aload_n 3, 0), (.iload 6, 0)]) (pc' := 106) (ls' := [(0, .ref (ga G 0)), (3, .ref (ga G x3)), (5, .int x5), (6, .int x6)]) (st' := [.int x6, .ref (ga G x3), .int x6]) (by decide +kernel) rfl ?_
          obtain ⟨v8, s9, e10, h⟩ := bndI h
          refine v_cVN (idx := 59) hC ⟨List.mem_of_getElem? (i := 26) (by decide +kernel), tiX8_lengthAt, tvX8_lengthAt, tnX8_lengthAt, tcX8_lengthAt, tmX8_lengthAt⟩ (isO_X8 hx3) rfl (c_X8_lengthAt hx3 e10) (by decide) (by decide) (by decide +kernel) (rest := [.int x6]) rfl rfl (Nat.le_of_ble_eq_true rfl) rfl ?_
          refine v_blk hC (is := [(.iadd, 0), (.istore 6, 0), (.iinc 5 1, (1 : Int32))]) (pc' := 115) (ls' := [(5, .int (x5 + (1 : Int32))), (6, .int (x6 + v8)), (0, .ref (ga G 0)), (3, .ref (ga G x3))]) (st' := []) (by decide +kernel) rfl ?_
          refine v_goto hC (off := (-50)) (tgt := 65) (by decide +kernel) (by decide) ?_
          refine v_sub [2, 3, 0, 1] (ls' := [(0, .ref (ga G 0)), (3, .ref (ga G x3)), (5, .int (x5 + (1 : Int32))), (6, .int (x6 + v8))]) rfl ?_
          exact hk65 _ _ _ hx3 _ h
        · refine v_sub [3] (ls' := [(6, .int x6)]) rfl ?_
          exact hk94 _ _ h
  have hL65 : ∀ (k94 : Int32 → Mem → Option (Int32 × Mem)), ∀ (k118 : Int32 → Mem → Option (Int32 × Mem)), (∀ (x6 : Int32), ∀ σ : Mem, k94 x6 σ = some res → V G 8 7 X ((some (.int res.1)), res.2) σ [(6, .int x6)] [] 94) → (∀ (x5 : Int32), ∀ σ : Mem, k118 x5 σ = some res → V G 8 7 X ((some (.int res.1)), res.2) σ [(0, .ref (ga G 0)), (5, .int x5)] [] 118) → ∀ f : Nat, ∀ (x3 : Nat), ∀ (x5 : Int32), ∀ (x6 : Int32), isShelf x3 → ∀ σ : Mem, p_X11_cape_L65 k94 k118 x1 f x3 x5 x6 σ = some res → V G 8 7 X ((some (.int res.1)), res.2) σ [(0, .ref (ga G 0)), (3, .ref (ga G x3)), (5, .int x5), (6, .int x6)] [] 65 := by
    intro k94 k118 hk94 hk118 f
    induction f with
    | zero => intro x3 x5 x6 hx3 σ h; exact none_some h
    | succ f ih => intro x3 x5 x6 hx3 σ h; exact hB65 (p_X11_cape_L65 k94 k118 x1 f) k94 k118 ih hk94 hk118 x3 x5 x6 hx3 σ h
  unfold p_X11_cape at h
  show V G 8 7 X ((some (.int res.1)), res.2) σ [(0, .ref (ga G 0)), (1, .int x1)] [] 0
  refine v_blk hC (is := [(.aload_n 0, 0), (.iload_n 1, 0), (.iconst 2, (2 : Int32))]) (pc' := 3) (ls' := [(0, .ref (ga G 0)), (1, .int x1)]) (st' := [.int (2 : Int32), .int x1, .ref (ga G 0)]) (by decide +kernel) rfl ?_
  obtain ⟨v11, s12, e13, h⟩ := bndI h
  refine v_cV (idx := 36) hC ⟨tt_at 293 (by decide +kernel) rfl, tiX11_refusal, tvX11_refusal, tnX11_refusal, tcX11_refusal, tmX11_refusal⟩ isO_X11 rfl (c_X11_refusal e13) (by decide) (by decide) (by decide +kernel) (rest := []) rfl rfl (Nat.le_of_ble_eq_true rfl) rfl ?_
  refine v_blk hC (is := [(.istore_n 2, 0), (.iload_n 2, 0)]) (pc' := 8) (ls' := [(2, .int v11), (0, .ref (ga G 0)), (1, .int x1)]) (st' := [.int v11]) (by decide +kernel) rfl ?_
  refine v_if_eq hC (off := 5) (tgt := 13) (by decide +kernel) (by decide) h (fun hq h => ?_) (fun hq h => ?_)
  · refine v_blk hC (is := [(.aload_n 0, 0)]) (pc' := 14) (ls' := [(2, .int v11), (0, .ref (ga G 0)), (1, .int x1)]) (st' := [.ref (ga G 0)]) (by decide +kernel) rfl ?_
    refine gX11_4 hC lfX11_31 (by decide +kernel) ?_
    refine v_blk hC (is := [(.iload_n 1, 0)]) (pc' := 18) (ls' := [(2, .int v11), (0, .ref (ga G 0)), (1, .int x1)]) (st' := [.int x1, .ref (ga G 5)]) (by decide +kernel) rfl ?_
    refine v_aald hC (t0 := 2) (by decide) enr_shelves rfl (by decide +kernel) h (fun hi14 h => ?_)
    refine v_blk hC (is := [(.astore_n 3, 0), (.aload_n 3, 0)]) (pc' := 21) (ls' := [(3, .ref (ga G (6 + (x1).toNatClampNeg))), (2, .int v11), (0, .ref (ga G 0)), (1, .int x1)]) (st' := [.ref (ga G (6 + (x1).toNatClampNeg))]) (by decide +kernel) rfl ?_
    refine gX8_4 hC (shelf_at hi14) lfX11_40 (by decide +kernel) h (fun v15 h => ?_)
    refine v_if_eq hC (off := 6) (tgt := 30) (by decide +kernel) (by decide) h (fun hq h => ?_) (fun hq h => ?_)
    · refine v_blk hC (is := [(.aload_n 3, 0)]) (pc' := 31) (ls' := [(3, .ref (ga G (6 + (x1).toNatClampNeg))), (2, .int v11), (0, .ref (ga G 0)), (1, .int x1)]) (st' := [.ref (ga G (6 + (x1).toNatClampNeg))]) (by decide +kernel) rfl ?_
      obtain ⟨v16, s17, e18, h⟩ := bndI h
      refine v_cVN (idx := 44) hC ⟨List.mem_of_getElem? (i := 18) (by decide +kernel), tiX8_brokenAt, tvX8_brokenAt, tnX8_brokenAt, tcX8_brokenAt, tmX8_brokenAt⟩ (isO_X8 (shelf_at hi14)) rfl (c_X8_brokenAt (shelf_at hi14) e18) (by decide) (by decide) (by decide +kernel) (rest := []) rfl rfl (Nat.le_of_ble_eq_true rfl) rfl ?_
      refine v_blk hC (is := [(.istore 4, 0), (.iload 4, 0)]) (pc' := 38) (ls' := [(4, .int v16), (3, .ref (ga G (6 + (x1).toNatClampNeg))), (2, .int v11), (0, .ref (ga G 0)), (1, .int x1)]) (st' := [.int v16]) (by decide +kernel) rfl ?_
      refine v_if_lt hC (off := 10) (tgt := 48) (by decide +kernel) (by decide) h (fun hq h => ?_) (fun hq h => ?_)
      · refine v_blk hC (is := [(.aload_n 0, 0)]) (pc' := 49) (ls' := [(4, .int v16), (3, .ref (ga G (6 + (x1).toNatClampNeg))), (2, .int v11), (0, .ref (ga G 0)), (1, .int x1)]) (st' := [.ref (ga G 0)]) (by decide +kernel) rfl ?_
        refine gX11_2 hC lfX11_19 (by decide +kernel) ?_
        refine v_blk hC (is := [(.aload_n 0, 0)]) (pc' := 53) (ls' := [(4, .int v16), (3, .ref (ga G (6 + (x1).toNatClampNeg))), (2, .int v11), (0, .ref (ga G 0)), (1, .int x1)]) (st' := [.ref (ga G 0), .ref (ga G 3)]) (by decide +kernel) rfl ?_
        refine gX11_0 hC lfX11_10 (by decide +kernel) ?_
        obtain ⟨v19, s20, e21, h⟩ := bndI h
        refine v_cVN (idx := 48) hC ⟨List.mem_of_getElem? (i := 19) (by decide +kernel), tiX3_becomes, tvX3_becomes, tnX3_becomes, tcX3_becomes, tmX3_becomes⟩ (isO_X3 cape3) rfl (c_X3_becomes cape3 cape1 e21) (by decide) (by decide) (by decide +kernel) (rest := []) rfl rfl (Nat.le_of_ble_eq_true rfl) rfl ?_
        refine v_blk hC (is := [(.iconst 0, (0 : Int32)), (.istore 5, 0), (.iconst 0, (0 : Int32)), (.istore 6, 0)]) (pc' := 65) (ls' := [(6, .int (0 : Int32)), (5, .int (0 : Int32)), (4, .int v16), (3, .ref (ga G (6 + (x1).toNatClampNeg))), (2, .int v11), (0, .ref (ga G 0)), (1, .int x1)]) (st' := []) (by decide +kernel) rfl ?_
        refine v_sub [5, 3, 1, 0] (ls' := [(0, .ref (ga G 0)), (3, .ref (ga G (6 + (x1).toNatClampNeg))), (5, .int (0 : Int32)), (6, .int (0 : Int32))]) rfl ?_
        exact (hL65 _ _ (fun x6  m22 h => by
            refine v_blk hC (is := [(.sipush (-2000), (-2000 : Int32)), (.iload 6, 0), (.isub, 0)]) (pc' := 100) (ls' := [(6, .int x6)]) (st' := [.int ((-2000 : Int32) - x6)]) (by decide +kernel) rfl ?_
            exact v_iret hC h (by decide +kernel)) (hB118 ) 1000) _ _ _ (shelf_at hi14) _ h
      · refine v_blk hC (is := [(.sipush (-1000), (-1000 : Int32)), (.iload 4, 0), (.isub, 0)]) (pc' := 47) (ls' := [(4, .int v16), (3, .ref (ga G (6 + (x1).toNatClampNeg))), (2, .int v11), (0, .ref (ga G 0)), (1, .int x1)]) (st' := [.int ((-1000 : Int32) - v16)]) (by decide +kernel) rfl ?_
        exact v_iret hC h (by decide +kernel)
    · refine v_blk hC (is := [(.bipush (-12), (-12 : Int32))]) (pc' := 29) (ls' := [(3, .ref (ga G (6 + (x1).toNatClampNeg))), (2, .int v11), (0, .ref (ga G 0)), (1, .int x1)]) (st' := [.int (-12 : Int32)]) (by decide +kernel) rfl ?_
      exact v_iret hC h (by decide +kernel)
  · refine v_blk hC (is := [(.iload_n 2, 0)]) (pc' := 12) (ls' := [(2, .int v11), (0, .ref (ga G 0)), (1, .int x1)]) (st' := [.int v11]) (by decide +kernel) rfl ?_
    exact v_iret hC h (by decide +kernel)

def p_X11_sailor (x1 : Int32) (x2 : Int32) (σ : Mem) : Option (Int32 × Mem) := (bnd (p_X3_has 1 x1 σ) fun v1 s2 => (if v1 = 0 then some ((-1 : Int32), s2) else (if x2 = (0 : Int32) then (if x1 < 0 ∨ 8 ≤ (x1).toNatClampNeg then none else lt (s2 (24 + 1) (x1).toNatClampNeg) fun v5 => some (v5, s2)) else (if x2 = (1 : Int32) then (if x1 < 0 ∨ 8 ≤ (x1).toNatClampNeg then none else lt (s2 (27 + 1) (x1).toNatClampNeg) fun v7 => some (v7, s2)) else (if x2 = (2 : Int32) then (if x1 < 0 ∨ 8 ≤ (x1).toNatClampNeg then none else lt (s2 (30 + 1) (x1).toNatClampNeg) fun v9 => some (v9, s2)) else (if x2 = (3 : Int32) then (bnd (p_X3_isLost 1 x1 s2) fun v11 s12 => (if v11 = 0 then some ((0 : Int32), s12) else some ((1 : Int32), s12))) else (if x2 = (4 : Int32) then (bnd (p_X3_kindOf 1 x1 s2) fun v15 s16 => (if x1 < 0 ∨ 8 ≤ (x1).toNatClampNeg then none else lt (s16 (27 + 1) (x1).toNatClampNeg) fun v18 => (bnd (p_K_skill v15 v18 s16) fun v19 s20 => some (v19, s20)))) else (if x2 = (5 : Int32) then (bnd (p_X3_kindOf 1 x1 s2) fun v23 s24 => (if x1 < 0 ∨ 8 ≤ (x1).toNatClampNeg then none else lt (s24 (27 + 1) (x1).toNatClampNeg) fun v26 => (lt (s24 1 9) fun v27 => (bnd (p_K_risk v23 v26 v27 s24) fun v28 s29 => some (v28, s29))))) else (if x2 = (6 : Int32) then (bnd (p_X3_kindOf 1 x1 s2) fun v32 s33 => (if x1 < 0 ∨ 8 ≤ (x1).toNatClampNeg then none else lt (s33 (27 + 1) (x1).toNatClampNeg) fun v35 => (bnd (p_K_reach v32 v35 s33) fun v36 s37 => some (v36, s37)))) else (if x2 = (7 : Int32) then (bnd (p_X3_kindOf 1 x1 s2) fun v40 s41 => (if x1 < 0 ∨ 8 ≤ (x1).toNatClampNeg then none else lt (s41 (27 + 1) (x1).toNatClampNeg) fun v43 => (bnd (p_K_pay v40 v43 s41) fun v44 s45 => some (v44, s45)))) else some ((-1 : Int32), s2)))))))))))
set_option maxHeartbeats 4000000 in
set_option maxRecDepth 100000 in
theorem c_X11_sailor {G : Gl} {x1 : Int32} {x2 : Int32} {σ : Mem} {res : Int32 × Mem}  (h : p_X11_sailor x1 x2 σ = some res) : MetX G yX11_sailor cX11_sailor 3 (some .int) 4 [.ref (ga G 0), .int x1, .int x2] σ (some (.int res.1)) res.2 := by
  refine met_V (by decide +kernel) (Nat.le_of_ble_eq_true rfl) (fun X hC => ?_)
  have hC : Ok G 4 3 X cX11_sailor RX11 (some .int) := hC
  unfold p_X11_sailor at h
  show V G 4 3 X ((some (.int res.1)), res.2) σ [(0, .ref (ga G 0)), (1, .int x1), (2, .int x2)] [] 0
  refine v_blk hC (is := [(.aload_n 0, 0)]) (pc' := 1) (ls' := [(0, .ref (ga G 0)), (1, .int x1), (2, .int x2)]) (st' := [.ref (ga G 0)]) (by decide +kernel) rfl ?_
  refine gX11_0 hC lfX11_10 (by decide +kernel) ?_
  refine v_blk hC (is := [(.iload_n 1, 0)]) (pc' := 5) (ls' := [(0, .ref (ga G 0)), (1, .int x1), (2, .int x2)]) (st' := [.int x1, .ref (ga G 1)]) (by decide +kernel) rfl ?_
  obtain ⟨v1, s2, e3, h⟩ := bndI h
  refine v_cVN (idx := 63) hC ⟨List.mem_of_getElem? (i := 27) (by decide +kernel), tiX3_has, tvX3_has, tnX3_has, tcX3_has, tmX3_has⟩ (isO_X3 cape1) rfl (c_X3_has cape1 e3) (by decide) (by decide) (by decide +kernel) (rest := []) rfl rfl (Nat.le_of_ble_eq_true rfl) rfl ?_
  refine v_if_ne hC (off := 5) (tgt := 13) (by decide +kernel) (by decide) h (fun hq h => ?_) (fun hq h => ?_)
  · refine v_blk hC (is := [(.iload_n 2, 0)]) (pc' := 14) (ls' := [(0, .ref (ga G 0)), (1, .int x1), (2, .int x2)]) (st' := [.int x2]) (by decide +kernel) rfl ?_
    by_cases q4 : x2 = (0 : Int32)
    · replace h := br_pos h q4
      refine v_tin hC (dflt := 184) (lo := 0) (hi := 7) (offs := #[46, 56, 66, 76, 93, 114, 142, 163]) (len := 46) (off := 46) (tgt := 60) (by decide +kernel) (by rw [q4]; decide) (by rw [q4]; decide) (by rw [q4]; decide) (by decide) ?_
      refine v_blk hC (is := [(.aload_n 0, 0)]) (pc' := 61) (ls' := [(0, .ref (ga G 0)), (1, .int x1), (2, .int x2)]) (st' := [.ref (ga G 0)]) (by decide +kernel) rfl ?_
      refine gX11_0 hC lfX11_10 (by decide +kernel) ?_
      refine gX3_1 hC cape1 lfX11_67 (by decide +kernel) ?_
      refine v_blk hC (is := [(.iload_n 1, 0)]) (pc' := 68) (ls' := [(0, .ref (ga G 0)), (1, .int x1), (2, .int x2)]) (st' := [.int x1, .ref (ga G (24 + 1))]) (by decide +kernel) rfl ?_
      refine v_iald hC (isA_kind cape1) (al_kind cape1) (by decide +kernel) h (fun v5 h => ?_)
      exact v_iret hC h (by decide +kernel)
    replace h := br_neg h q4
    by_cases q6 : x2 = (1 : Int32)
    · replace h := br_pos h q6
      refine v_tin hC (dflt := 184) (lo := 0) (hi := 7) (offs := #[46, 56, 66, 76, 93, 114, 142, 163]) (len := 46) (off := 56) (tgt := 70) (by decide +kernel) (by rw [q6]; decide) (by rw [q6]; decide) (by rw [q6]; decide) (by decide) ?_
      refine v_blk hC (is := [(.aload_n 0, 0)]) (pc' := 71) (ls' := [(0, .ref (ga G 0)), (1, .int x1), (2, .int x2)]) (st' := [.ref (ga G 0)]) (by decide +kernel) rfl ?_
      refine gX11_0 hC lfX11_10 (by decide +kernel) ?_
      refine gX3_2 hC cape1 lfX11_71 (by decide +kernel) ?_
      refine v_blk hC (is := [(.iload_n 1, 0)]) (pc' := 78) (ls' := [(0, .ref (ga G 0)), (1, .int x1), (2, .int x2)]) (st' := [.int x1, .ref (ga G (27 + 1))]) (by decide +kernel) rfl ?_
      refine v_iald hC (isA_figure cape1) (al_figure cape1) (by decide +kernel) h (fun v7 h => ?_)
      exact v_iret hC h (by decide +kernel)
    replace h := br_neg h q6
    by_cases q8 : x2 = (2 : Int32)
    · replace h := br_pos h q8
      refine v_tin hC (dflt := 184) (lo := 0) (hi := 7) (offs := #[46, 56, 66, 76, 93, 114, 142, 163]) (len := 46) (off := 66) (tgt := 80) (by decide +kernel) (by rw [q8]; decide) (by rw [q8]; decide) (by rw [q8]; decide) (by decide) ?_
      refine v_blk hC (is := [(.aload_n 0, 0)]) (pc' := 81) (ls' := [(0, .ref (ga G 0)), (1, .int x1), (2, .int x2)]) (st' := [.ref (ga G 0)]) (by decide +kernel) rfl ?_
      refine gX11_0 hC lfX11_10 (by decide +kernel) ?_
      refine gX3_3 hC cape1 lfX11_74 (by decide +kernel) ?_
      refine v_blk hC (is := [(.iload_n 1, 0)]) (pc' := 88) (ls' := [(0, .ref (ga G 0)), (1, .int x1), (2, .int x2)]) (st' := [.int x1, .ref (ga G (30 + 1))]) (by decide +kernel) rfl ?_
      refine v_iald hC (isA_boat cape1) (al_boat cape1) (by decide +kernel) h (fun v9 h => ?_)
      exact v_iret hC h (by decide +kernel)
    replace h := br_neg h q8
    by_cases q10 : x2 = (3 : Int32)
    · replace h := br_pos h q10
      refine v_tin hC (dflt := 184) (lo := 0) (hi := 7) (offs := #[46, 56, 66, 76, 93, 114, 142, 163]) (len := 46) (off := 76) (tgt := 90) (by decide +kernel) (by rw [q10]; decide) (by rw [q10]; decide) (by rw [q10]; decide) (by decide) ?_
      refine v_blk hC (is := [(.aload_n 0, 0)]) (pc' := 91) (ls' := [(0, .ref (ga G 0)), (1, .int x1), (2, .int x2)]) (st' := [.ref (ga G 0)]) (by decide +kernel) rfl ?_
      refine gX11_0 hC lfX11_10 (by decide +kernel) ?_
      refine v_blk hC (is := [(.iload_n 1, 0)]) (pc' := 95) (ls' := [(0, .ref (ga G 0)), (1, .int x1), (2, .int x2)]) (st' := [.int x1, .ref (ga G 1)]) (by decide +kernel) rfl ?_
      obtain ⟨v11, s12, e13, h⟩ := bndI h
      refine v_cVN (idx := 77) hC ⟨List.mem_of_getElem? (i := 28) (by decide +kernel), tiX3_isLost, tvX3_isLost, tnX3_isLost, tcX3_isLost, tmX3_isLost⟩ (isO_X3 cape1) rfl (c_X3_isLost cape1 e13) (by decide) (by decide) (by decide +kernel) (rest := []) rfl rfl (Nat.le_of_ble_eq_true rfl) rfl ?_
      refine v_if_eq hC (off := 7) (tgt := 105) (by decide +kernel) (by decide) h (fun hq h => ?_) (fun hq h => ?_)
      · refine v_blk hC (is := [(.iconst 0, (0 : Int32))]) (pc' := 106) (ls' := [(0, .ref (ga G 0)), (1, .int x1), (2, .int x2)]) (st' := [.int (0 : Int32)]) (by decide +kernel) rfl ?_
        exact v_iret hC h (by decide +kernel)
      · refine v_blk hC (is := [(.iconst 1, (1 : Int32))]) (pc' := 102) (ls' := [(0, .ref (ga G 0)), (1, .int x1), (2, .int x2)]) (st' := [.int (1 : Int32)]) (by decide +kernel) rfl ?_
        refine v_goto hC (off := 4) (tgt := 106) (by decide +kernel) (by decide) ?_
        exact v_iret hC h (by decide +kernel)
    replace h := br_neg h q10
    by_cases q14 : x2 = (4 : Int32)
    · replace h := br_pos h q14
      refine v_tin hC (dflt := 184) (lo := 0) (hi := 7) (offs := #[46, 56, 66, 76, 93, 114, 142, 163]) (len := 46) (off := 93) (tgt := 107) (by decide +kernel) (by rw [q14]; decide) (by rw [q14]; decide) (by rw [q14]; decide) (by decide) ?_
      refine v_blk hC (is := [(.aload_n 0, 0)]) (pc' := 108) (ls' := [(0, .ref (ga G 0)), (1, .int x1), (2, .int x2)]) (st' := [.ref (ga G 0)]) (by decide +kernel) rfl ?_
      refine gX11_0 hC lfX11_10 (by decide +kernel) ?_
      refine v_blk hC (is := [(.iload_n 1, 0)]) (pc' := 112) (ls' := [(0, .ref (ga G 0)), (1, .int x1), (2, .int x2)]) (st' := [.int x1, .ref (ga G 1)]) (by decide +kernel) rfl ?_
      obtain ⟨v15, s16, e17, h⟩ := bndI h
      refine v_cVN (idx := 80) hC ⟨List.mem_of_getElem? (i := 29) (by decide +kernel), tiX3_kindOf, tvX3_kindOf, tnX3_kindOf, tcX3_kindOf, tmX3_kindOf⟩ (isO_X3 cape1) rfl (c_X3_kindOf cape1 e17) (by decide) (by decide) (by decide +kernel) (rest := []) rfl rfl (Nat.le_of_ble_eq_true rfl) rfl ?_
      refine v_blk hC (is := [(.aload_n 0, 0)]) (pc' := 116) (ls' := [(0, .ref (ga G 0)), (1, .int x1), (2, .int x2)]) (st' := [.ref (ga G 0), .ref (ga G v15)]) (by decide +kernel) rfl ?_
      refine gX11_0 hC lfX11_10 (by decide +kernel) ?_
      refine gX3_2 hC cape1 lfX11_71 (by decide +kernel) ?_
      refine v_blk hC (is := [(.iload_n 1, 0)]) (pc' := 123) (ls' := [(0, .ref (ga G 0)), (1, .int x1), (2, .int x2)]) (st' := [.int x1, .ref (ga G (27 + 1)), .ref (ga G v15)]) (by decide +kernel) rfl ?_
      refine v_iald hC (isA_figure cape1) (al_figure cape1) (by decide +kernel) h (fun v18 h => ?_)
      obtain ⟨v19, s20, e21, h⟩ := bndI h
      refine kX11_skill hC e21 (by decide) (by decide +kernel) (rest := []) rfl (Nat.le_of_ble_eq_true rfl) rfl ?_
      exact v_iret hC h (by decide +kernel)
    replace h := br_neg h q14
    by_cases q22 : x2 = (5 : Int32)
    · replace h := br_pos h q22
      refine v_tin hC (dflt := 184) (lo := 0) (hi := 7) (offs := #[46, 56, 66, 76, 93, 114, 142, 163]) (len := 46) (off := 114) (tgt := 128) (by decide +kernel) (by rw [q22]; decide) (by rw [q22]; decide) (by rw [q22]; decide) (by decide) ?_
      refine v_blk hC (is := [(.aload_n 0, 0)]) (pc' := 129) (ls' := [(0, .ref (ga G 0)), (1, .int x1), (2, .int x2)]) (st' := [.ref (ga G 0)]) (by decide +kernel) rfl ?_
      refine gX11_0 hC lfX11_10 (by decide +kernel) ?_
      refine v_blk hC (is := [(.iload_n 1, 0)]) (pc' := 133) (ls' := [(0, .ref (ga G 0)), (1, .int x1), (2, .int x2)]) (st' := [.int x1, .ref (ga G 1)]) (by decide +kernel) rfl ?_
      obtain ⟨v23, s24, e25, h⟩ := bndI h
      refine v_cVN (idx := 80) hC ⟨List.mem_of_getElem? (i := 29) (by decide +kernel), tiX3_kindOf, tvX3_kindOf, tnX3_kindOf, tcX3_kindOf, tmX3_kindOf⟩ (isO_X3 cape1) rfl (c_X3_kindOf cape1 e25) (by decide) (by decide) (by decide +kernel) (rest := []) rfl rfl (Nat.le_of_ble_eq_true rfl) rfl ?_
      refine v_blk hC (is := [(.aload_n 0, 0)]) (pc' := 137) (ls' := [(0, .ref (ga G 0)), (1, .int x1), (2, .int x2)]) (st' := [.ref (ga G 0), .ref (ga G v23)]) (by decide +kernel) rfl ?_
      refine gX11_0 hC lfX11_10 (by decide +kernel) ?_
      refine gX3_2 hC cape1 lfX11_71 (by decide +kernel) ?_
      refine v_blk hC (is := [(.iload_n 1, 0)]) (pc' := 144) (ls' := [(0, .ref (ga G 0)), (1, .int x1), (2, .int x2)]) (st' := [.int x1, .ref (ga G (27 + 1)), .ref (ga G v23)]) (by decide +kernel) rfl ?_
      refine v_iald hC (isA_figure cape1) (al_figure cape1) (by decide +kernel) h (fun v26 h => ?_)
      refine v_blk hC (is := [(.aload_n 0, 0)]) (pc' := 146) (ls' := [(0, .ref (ga G 0)), (1, .int x1), (2, .int x2)]) (st' := [.ref (ga G 0), .int v26, .ref (ga G v23)]) (by decide +kernel) rfl ?_
      refine gX11_0 hC lfX11_10 (by decide +kernel) ?_
      refine gX3_9 hC cape1 lfX11_89 (by decide +kernel) h (fun v27 h => ?_)
      obtain ⟨v28, s29, e30, h⟩ := bndI h
      refine kX11_risk hC e30 (by decide) (by decide +kernel) (rest := []) rfl (Nat.le_of_ble_eq_true rfl) rfl ?_
      exact v_iret hC h (by decide +kernel)
    replace h := br_neg h q22
    by_cases q31 : x2 = (6 : Int32)
    · replace h := br_pos h q31
      refine v_tin hC (dflt := 184) (lo := 0) (hi := 7) (offs := #[46, 56, 66, 76, 93, 114, 142, 163]) (len := 46) (off := 142) (tgt := 156) (by decide +kernel) (by rw [q31]; decide) (by rw [q31]; decide) (by rw [q31]; decide) (by decide) ?_
      refine v_blk hC (is := [(.aload_n 0, 0)]) (pc' := 157) (ls' := [(0, .ref (ga G 0)), (1, .int x1), (2, .int x2)]) (st' := [.ref (ga G 0)]) (by decide +kernel) rfl ?_
      refine gX11_0 hC lfX11_10 (by decide +kernel) ?_
      refine v_blk hC (is := [(.iload_n 1, 0)]) (pc' := 161) (ls' := [(0, .ref (ga G 0)), (1, .int x1), (2, .int x2)]) (st' := [.int x1, .ref (ga G 1)]) (by decide +kernel) rfl ?_
      obtain ⟨v32, s33, e34, h⟩ := bndI h
      refine v_cVN (idx := 80) hC ⟨List.mem_of_getElem? (i := 29) (by decide +kernel), tiX3_kindOf, tvX3_kindOf, tnX3_kindOf, tcX3_kindOf, tmX3_kindOf⟩ (isO_X3 cape1) rfl (c_X3_kindOf cape1 e34) (by decide) (by decide) (by decide +kernel) (rest := []) rfl rfl (Nat.le_of_ble_eq_true rfl) rfl ?_
      refine v_blk hC (is := [(.aload_n 0, 0)]) (pc' := 165) (ls' := [(0, .ref (ga G 0)), (1, .int x1), (2, .int x2)]) (st' := [.ref (ga G 0), .ref (ga G v32)]) (by decide +kernel) rfl ?_
      refine gX11_0 hC lfX11_10 (by decide +kernel) ?_
      refine gX3_2 hC cape1 lfX11_71 (by decide +kernel) ?_
      refine v_blk hC (is := [(.iload_n 1, 0)]) (pc' := 172) (ls' := [(0, .ref (ga G 0)), (1, .int x1), (2, .int x2)]) (st' := [.int x1, .ref (ga G (27 + 1)), .ref (ga G v32)]) (by decide +kernel) rfl ?_
      refine v_iald hC (isA_figure cape1) (al_figure cape1) (by decide +kernel) h (fun v35 h => ?_)
      obtain ⟨v36, s37, e38, h⟩ := bndI h
      refine kX11_reach hC e38 (by decide) (by decide +kernel) (rest := []) rfl (Nat.le_of_ble_eq_true rfl) rfl ?_
      exact v_iret hC h (by decide +kernel)
    replace h := br_neg h q31
    by_cases q39 : x2 = (7 : Int32)
    · replace h := br_pos h q39
      refine v_tin hC (dflt := 184) (lo := 0) (hi := 7) (offs := #[46, 56, 66, 76, 93, 114, 142, 163]) (len := 46) (off := 163) (tgt := 177) (by decide +kernel) (by rw [q39]; decide) (by rw [q39]; decide) (by rw [q39]; decide) (by decide) ?_
      refine v_blk hC (is := [(.aload_n 0, 0)]) (pc' := 178) (ls' := [(0, .ref (ga G 0)), (1, .int x1), (2, .int x2)]) (st' := [.ref (ga G 0)]) (by decide +kernel) rfl ?_
      refine gX11_0 hC lfX11_10 (by decide +kernel) ?_
      refine v_blk hC (is := [(.iload_n 1, 0)]) (pc' := 182) (ls' := [(0, .ref (ga G 0)), (1, .int x1), (2, .int x2)]) (st' := [.int x1, .ref (ga G 1)]) (by decide +kernel) rfl ?_
      obtain ⟨v40, s41, e42, h⟩ := bndI h
      refine v_cVN (idx := 80) hC ⟨List.mem_of_getElem? (i := 29) (by decide +kernel), tiX3_kindOf, tvX3_kindOf, tnX3_kindOf, tcX3_kindOf, tmX3_kindOf⟩ (isO_X3 cape1) rfl (c_X3_kindOf cape1 e42) (by decide) (by decide) (by decide +kernel) (rest := []) rfl rfl (Nat.le_of_ble_eq_true rfl) rfl ?_
      refine v_blk hC (is := [(.aload_n 0, 0)]) (pc' := 186) (ls' := [(0, .ref (ga G 0)), (1, .int x1), (2, .int x2)]) (st' := [.ref (ga G 0), .ref (ga G v40)]) (by decide +kernel) rfl ?_
      refine gX11_0 hC lfX11_10 (by decide +kernel) ?_
      refine gX3_2 hC cape1 lfX11_71 (by decide +kernel) ?_
      refine v_blk hC (is := [(.iload_n 1, 0)]) (pc' := 193) (ls' := [(0, .ref (ga G 0)), (1, .int x1), (2, .int x2)]) (st' := [.int x1, .ref (ga G (27 + 1)), .ref (ga G v40)]) (by decide +kernel) rfl ?_
      refine v_iald hC (isA_figure cape1) (al_figure cape1) (by decide +kernel) h (fun v43 h => ?_)
      obtain ⟨v44, s45, e46, h⟩ := bndI h
      refine kX11_pay hC e46 (by decide) (by decide +kernel) (rest := []) rfl (Nat.le_of_ble_eq_true rfl) rfl ?_
      exact v_iret hC h (by decide +kernel)
    replace h := br_neg h q39
    refine v_tout hC (dflt := 184) (lo := 0) (hi := 7) (offs := #[46, 56, 66, 76, 93, 114, 142, 163]) (len := 46) (tgt := 198) (by decide +kernel) (by have wq4 := lv_neT q4 (a := 0) (by decide); have wq6 := lv_neT q6 (a := 1) (by decide); have wq8 := lv_neT q8 (a := 2) (by decide); have wq10 := lv_neT q10 (a := 3) (by decide); have wq14 := lv_neT q14 (a := 4) (by decide); have wq22 := lv_neT q22 (a := 5) (by decide); have wq31 := lv_neT q31 (a := 6) (by decide); have wq39 := lv_neT q39 (a := 7) (by decide); omega) (by decide) ?_
    refine v_blk hC (is := [(.iconst (-1), (-1 : Int32))]) (pc' := 199) (ls' := [(0, .ref (ga G 0)), (1, .int x1), (2, .int x2)]) (st' := [.int (-1 : Int32)]) (by decide +kernel) rfl ?_
    exact v_iret hC h (by decide +kernel)
  · refine v_blk hC (is := [(.iconst (-1), (-1 : Int32))]) (pc' := 12) (ls' := [(0, .ref (ga G 0)), (1, .int x1), (2, .int x2)]) (st' := [.int (-1 : Int32)]) (by decide +kernel) rfl ?_
    exact v_iret hC h (by decide +kernel)

def p_X11_saved (x1 : Int32) (x2 : Int32) (σ : Mem) : Option (Int32 × Mem) := (bnd (p_X3_hasTwo 1 x1 x2 σ) fun v1 s2 => (if v1 = 0 then some ((-1 : Int32), s2) else (if ((x1 * (8 : Int32)) + x2) < 0 ∨ 64 ≤ (((x1 * (8 : Int32)) + x2)).toNatClampNeg then none else lt (s2 (33 + 1) (((x1 * (8 : Int32)) + x2)).toNatClampNeg) fun v4 => some (v4, s2))))
set_option maxHeartbeats 4000000 in
set_option maxRecDepth 100000 in
theorem c_X11_saved {G : Gl} {x1 : Int32} {x2 : Int32} {σ : Mem} {res : Int32 × Mem}  (h : p_X11_saved x1 x2 σ = some res) : MetX G yX11_saved cX11_saved 3 (some .int) 3 [.ref (ga G 0), .int x1, .int x2] σ (some (.int res.1)) res.2 := by
  refine met_V (by decide +kernel) (Nat.le_of_ble_eq_true rfl) (fun X hC => ?_)
  have hC : Ok G 3 3 X cX11_saved RX11 (some .int) := hC
  unfold p_X11_saved at h
  show V G 3 3 X ((some (.int res.1)), res.2) σ [(0, .ref (ga G 0)), (1, .int x1), (2, .int x2)] [] 0
  refine v_blk hC (is := [(.aload_n 0, 0)]) (pc' := 1) (ls' := [(0, .ref (ga G 0)), (1, .int x1), (2, .int x2)]) (st' := [.ref (ga G 0)]) (by decide +kernel) rfl ?_
  refine gX11_0 hC lfX11_10 (by decide +kernel) ?_
  refine v_blk hC (is := [(.iload_n 1, 0), (.iload_n 2, 0)]) (pc' := 6) (ls' := [(0, .ref (ga G 0)), (1, .int x1), (2, .int x2)]) (st' := [.int x2, .int x1, .ref (ga G 1)]) (by decide +kernel) rfl ?_
  obtain ⟨v1, s2, e3, h⟩ := bndI h
  refine v_cVN (idx := 101) hC ⟨List.mem_of_getElem? (i := 30) (by decide +kernel), tiX3_hasTwo, tvX3_hasTwo, tnX3_hasTwo, tcX3_hasTwo, tmX3_hasTwo⟩ (isO_X3 cape1) rfl (c_X3_hasTwo cape1 e3) (by decide) (by decide) (by decide +kernel) (rest := []) rfl rfl (Nat.le_of_ble_eq_true rfl) rfl ?_
  refine v_if_eq hC (off := 20) (tgt := 29) (by decide +kernel) (by decide) h (fun hq h => ?_) (fun hq h => ?_)
  · refine v_blk hC (is := [(.iconst (-1), (-1 : Int32))]) (pc' := 30) (ls' := [(0, .ref (ga G 0)), (1, .int x1), (2, .int x2)]) (st' := [.int (-1 : Int32)]) (by decide +kernel) rfl ?_
    exact v_iret hC h (by decide +kernel)
  · refine v_blk hC (is := [(.aload_n 0, 0)]) (pc' := 13) (ls' := [(0, .ref (ga G 0)), (1, .int x1), (2, .int x2)]) (st' := [.ref (ga G 0)]) (by decide +kernel) rfl ?_
    refine gX11_0 hC lfX11_10 (by decide +kernel) ?_
    refine gX3_4 hC cape1 lfX11_105 (by decide +kernel) ?_
    refine v_blk hC (is := [(.iload_n 1, 0), (.bipush 8, (8 : Int32)), (.imul, 0), (.iload_n 2, 0), (.iadd, 0)]) (pc' := 25) (ls' := [(0, .ref (ga G 0)), (1, .int x1), (2, .int x2)]) (st' := [.int ((x1 * (8 : Int32)) + x2), .ref (ga G (33 + 1))]) (by decide +kernel) rfl ?_
    refine v_iald hC (isA_how cape1) (al_how cape1) (by decide +kernel) h (fun v4 h => ?_)
    refine v_goto hC (off := 4) (tgt := 30) (by decide +kernel) (by decide) ?_
    exact v_iret hC h (by decide +kernel)

def p_X11_comes (x1 : Int32) (σ : Mem) : Option (Int32 × Mem) := (bnd (p_X11_refusal x1 (1 : Int32) σ) fun v1 s2 => (if v1 = 0 then (if x1 < 0 ∨ 8 ≤ (x1).toNatClampNeg then none else (lt (s2 (6 + (x1).toNatClampNeg) 2) fun v5 => (if x1 < 0 ∨ 8 ≤ (x1).toNatClampNeg then none else (lt (s2 (6 + (x1).toNatClampNeg) 3) fun v7 => (bnd (p_X3_adds 1 v5 v7 s2) fun v8 s9 => some (v8, s9)))))) else some (v1, s2)))
set_option maxHeartbeats 4000000 in
set_option maxRecDepth 100000 in
theorem c_X11_comes {G : Gl} {x1 : Int32} {σ : Mem} {res : Int32 × Mem}  (h : p_X11_comes x1 σ = some res) : MetX G yX11_comes cX11_comes 3 (some .int) 4 [.ref (ga G 0), .int x1] σ (some (.int res.1)) res.2 := by
  refine met_V (by decide +kernel) (Nat.le_of_ble_eq_true rfl) (fun X hC => ?_)
  have hC : Ok G 4 3 X cX11_comes RX11 (some .int) := hC
  unfold p_X11_comes at h
  show V G 4 3 X ((some (.int res.1)), res.2) σ [(0, .ref (ga G 0)), (1, .int x1)] [] 0
  refine v_blk hC (is := [(.aload_n 0, 0), (.iload_n 1, 0), (.iconst 1, (1 : Int32))]) (pc' := 3) (ls' := [(0, .ref (ga G 0)), (1, .int x1)]) (st' := [.int (1 : Int32), .int x1, .ref (ga G 0)]) (by decide +kernel) rfl ?_
  obtain ⟨v1, s2, e3, h⟩ := bndI h
  refine v_cV (idx := 36) hC ⟨tt_at 293 (by decide +kernel) rfl, tiX11_refusal, tvX11_refusal, tnX11_refusal, tcX11_refusal, tmX11_refusal⟩ isO_X11 rfl (c_X11_refusal e3) (by decide) (by decide) (by decide +kernel) (rest := []) rfl rfl (Nat.le_of_ble_eq_true rfl) rfl ?_
  refine v_blk hC (is := [(.istore_n 2, 0), (.iload_n 2, 0)]) (pc' := 8) (ls' := [(2, .int v1), (0, .ref (ga G 0)), (1, .int x1)]) (st' := [.int v1]) (by decide +kernel) rfl ?_
  refine v_if_eq hC (off := 7) (tgt := 15) (by decide +kernel) (by decide) h (fun hq h => ?_) (fun hq h => ?_)
  · refine v_blk hC (is := [(.aload_n 0, 0)]) (pc' := 16) (ls' := [(2, .int v1), (0, .ref (ga G 0)), (1, .int x1)]) (st' := [.ref (ga G 0)]) (by decide +kernel) rfl ?_
    refine gX11_0 hC lfX11_10 (by decide +kernel) ?_
    refine v_blk hC (is := [(.aload_n 0, 0)]) (pc' := 20) (ls' := [(2, .int v1), (0, .ref (ga G 0)), (1, .int x1)]) (st' := [.ref (ga G 0), .ref (ga G 1)]) (by decide +kernel) rfl ?_
    refine gX11_4 hC lfX11_31 (by decide +kernel) ?_
    refine v_blk hC (is := [(.iload_n 1, 0)]) (pc' := 24) (ls' := [(2, .int v1), (0, .ref (ga G 0)), (1, .int x1)]) (st' := [.int x1, .ref (ga G 5), .ref (ga G 1)]) (by decide +kernel) rfl ?_
    refine v_aald hC (t0 := 2) (by decide) enr_shelves rfl (by decide +kernel) h (fun hi4 h => ?_)
    refine gX8_2 hC (shelf_at hi4) lfX11_108 (by decide +kernel) h (fun v5 h => ?_)
    refine v_blk hC (is := [(.aload_n 0, 0)]) (pc' := 29) (ls' := [(2, .int v1), (0, .ref (ga G 0)), (1, .int x1)]) (st' := [.ref (ga G 0), .int v5, .ref (ga G 1)]) (by decide +kernel) rfl ?_
    refine gX11_4 hC lfX11_31 (by decide +kernel) ?_
    refine v_blk hC (is := [(.iload_n 1, 0)]) (pc' := 33) (ls' := [(2, .int v1), (0, .ref (ga G 0)), (1, .int x1)]) (st' := [.int x1, .ref (ga G 5), .int v5, .ref (ga G 1)]) (by decide +kernel) rfl ?_
    refine v_aald hC (t0 := 2) (by decide) enr_shelves rfl (by decide +kernel) h (fun hi6 h => ?_)
    refine gX8_3 hC (shelf_at hi6) lfX11_110 (by decide +kernel) h (fun v7 h => ?_)
    obtain ⟨v8, s9, e10, h⟩ := bndI h
    refine v_cVN (idx := 112) hC ⟨List.mem_of_getElem? (i := 31) (by decide +kernel), tiX3_adds, tvX3_adds, tnX3_adds, tcX3_adds, tmX3_adds⟩ (isO_X3 cape1) rfl (c_X3_adds cape1 e10) (by decide) (by decide) (by decide +kernel) (rest := []) rfl rfl (Nat.le_of_ble_eq_true rfl) rfl ?_
    exact v_iret hC h (by decide +kernel)
  · refine v_blk hC (is := [(.iload_n 2, 0)]) (pc' := 12) (ls' := [(2, .int v1), (0, .ref (ga G 0)), (1, .int x1)]) (st' := [.int v1]) (by decide +kernel) rfl ?_
    refine v_goto hC (off := 28) (tgt := 40) (by decide +kernel) (by decide) ?_
    exact v_iret hC h (by decide +kernel)

def p_X11_saves (x1 : Int32) (x2 : Int32) (x3 : Int32) (σ : Mem) : Option (Int32 × Mem) := (bnd (p_X3_notes 1 x1 x2 x3 σ) fun v1 s2 => some (v1, s2))
set_option maxHeartbeats 4000000 in
set_option maxRecDepth 100000 in
theorem c_X11_saves {G : Gl} {x1 : Int32} {x2 : Int32} {x3 : Int32} {σ : Mem} {res : Int32 × Mem}  (h : p_X11_saves x1 x2 x3 σ = some res) : MetX G yX11_saves cX11_saves 4 (some .int) 4 [.ref (ga G 0), .int x1, .int x2, .int x3] σ (some (.int res.1)) res.2 := by
  refine met_V (by decide +kernel) (Nat.le_of_ble_eq_true rfl) (fun X hC => ?_)
  have hC : Ok G 4 4 X cX11_saves RX11 (some .int) := hC
  unfold p_X11_saves at h
  show V G 4 4 X ((some (.int res.1)), res.2) σ [(0, .ref (ga G 0)), (1, .int x1), (2, .int x2), (3, .int x3)] [] 0
  refine v_blk hC (is := [(.aload_n 0, 0)]) (pc' := 1) (ls' := [(0, .ref (ga G 0)), (1, .int x1), (2, .int x2), (3, .int x3)]) (st' := [.ref (ga G 0)]) (by decide +kernel) rfl ?_
  refine gX11_0 hC lfX11_10 (by decide +kernel) ?_
  refine v_blk hC (is := [(.iload_n 1, 0), (.iload_n 2, 0), (.iload_n 3, 0)]) (pc' := 7) (ls' := [(0, .ref (ga G 0)), (1, .int x1), (2, .int x2), (3, .int x3)]) (st' := [.int x3, .int x2, .int x1, .ref (ga G 1)]) (by decide +kernel) rfl ?_
  obtain ⟨v1, s2, e3, h⟩ := bndI h
  refine v_cVN (idx := 115) hC ⟨List.mem_of_getElem? (i := 32) (by decide +kernel), tiX3_notes, tvX3_notes, tnX3_notes, tcX3_notes, tmX3_notes⟩ (isO_X3 cape1) rfl (c_X3_notes cape1 e3) (by decide) (by decide) (by decide +kernel) (rest := []) rfl rfl (Nat.le_of_ble_eq_true rfl) rfl ?_
  exact v_iret hC h (by decide +kernel)

def p_X11_boards (x1 : Int32) (x2 : Int32) (σ : Mem) : Option (Int32 × Mem) := (bnd (p_X3_moves 1 x1 x2 σ) fun v1 s2 => some (v1, s2))
set_option maxHeartbeats 4000000 in
set_option maxRecDepth 100000 in
theorem c_X11_boards {G : Gl} {x1 : Int32} {x2 : Int32} {σ : Mem} {res : Int32 × Mem}  (h : p_X11_boards x1 x2 σ = some res) : MetX G yX11_boards cX11_boards 3 (some .int) 4 [.ref (ga G 0), .int x1, .int x2] σ (some (.int res.1)) res.2 := by
  refine met_V (by decide +kernel) (Nat.le_of_ble_eq_true rfl) (fun X hC => ?_)
  have hC : Ok G 4 3 X cX11_boards RX11 (some .int) := hC
  unfold p_X11_boards at h
  show V G 4 3 X ((some (.int res.1)), res.2) σ [(0, .ref (ga G 0)), (1, .int x1), (2, .int x2)] [] 0
  refine v_blk hC (is := [(.aload_n 0, 0)]) (pc' := 1) (ls' := [(0, .ref (ga G 0)), (1, .int x1), (2, .int x2)]) (st' := [.ref (ga G 0)]) (by decide +kernel) rfl ?_
  refine gX11_0 hC lfX11_10 (by decide +kernel) ?_
  refine v_blk hC (is := [(.iload_n 1, 0), (.iload_n 2, 0)]) (pc' := 6) (ls' := [(0, .ref (ga G 0)), (1, .int x1), (2, .int x2)]) (st' := [.int x2, .int x1, .ref (ga G 1)]) (by decide +kernel) rfl ?_
  obtain ⟨v1, s2, e3, h⟩ := bndI h
  refine v_cVN (idx := 119) hC ⟨List.mem_of_getElem? (i := 33) (by decide +kernel), tiX3_moves, tvX3_moves, tnX3_moves, tcX3_moves, tmX3_moves⟩ (isO_X3 cape1) rfl (c_X3_moves cape1 e3) (by decide) (by decide) (by decide +kernel) (rest := []) rfl rfl (Nat.le_of_ble_eq_true rfl) rfl ?_
  exact v_iret hC h (by decide +kernel)

def p_X11_sets (x1 : Int32) (x2 : Int32) (σ : Mem) : Option (Int32 × Mem) := (bnd (p_X3_rules 1 x1 x2 σ) fun v1 s2 => some (v1, s2))
set_option maxHeartbeats 4000000 in
set_option maxRecDepth 100000 in
theorem c_X11_sets {G : Gl} {x1 : Int32} {x2 : Int32} {σ : Mem} {res : Int32 × Mem}  (h : p_X11_sets x1 x2 σ = some res) : MetX G yX11_sets cX11_sets 3 (some .int) 3 [.ref (ga G 0), .int x1, .int x2] σ (some (.int res.1)) res.2 := by
  refine met_V (by decide +kernel) (Nat.le_of_ble_eq_true rfl) (fun X hC => ?_)
  have hC : Ok G 3 3 X cX11_sets RX11 (some .int) := hC
  unfold p_X11_sets at h
  show V G 3 3 X ((some (.int res.1)), res.2) σ [(0, .ref (ga G 0)), (1, .int x1), (2, .int x2)] [] 0
  refine v_blk hC (is := [(.aload_n 0, 0)]) (pc' := 1) (ls' := [(0, .ref (ga G 0)), (1, .int x1), (2, .int x2)]) (st' := [.ref (ga G 0)]) (by decide +kernel) rfl ?_
  refine gX11_0 hC lfX11_10 (by decide +kernel) ?_
  refine v_blk hC (is := [(.iload_n 1, 0), (.iload_n 2, 0)]) (pc' := 6) (ls' := [(0, .ref (ga G 0)), (1, .int x1), (2, .int x2)]) (st' := [.int x2, .int x1, .ref (ga G 1)]) (by decide +kernel) rfl ?_
  obtain ⟨v1, s2, e3, h⟩ := bndI h
  refine v_cVN (idx := 122) hC ⟨List.mem_of_getElem? (i := 34) (by decide +kernel), tiX3_rules, tvX3_rules, tnX3_rules, tcX3_rules, tmX3_rules⟩ (isO_X3 cape1) rfl (c_X3_rules cape1 e3) (by decide) (by decide) (by decide +kernel) (rest := []) rfl rfl (Nat.le_of_ble_eq_true rfl) rfl ?_
  exact v_iret hC h (by decide +kernel)

def p_X11_seasons (x1 : Int32) (σ : Mem) : Option (Int32 × Mem) := (bnd (p_X3_passes 1 x1 σ) fun v1 s2 => some (v1, s2))
set_option maxHeartbeats 4000000 in
set_option maxRecDepth 100000 in
theorem c_X11_seasons {G : Gl} {x1 : Int32} {σ : Mem} {res : Int32 × Mem}  (h : p_X11_seasons x1 σ = some res) : MetX G yX11_seasons cX11_seasons 2 (some .int) 7 [.ref (ga G 0), .int x1] σ (some (.int res.1)) res.2 := by
  refine met_V (by decide +kernel) (Nat.le_of_ble_eq_true rfl) (fun X hC => ?_)
  have hC : Ok G 7 2 X cX11_seasons RX11 (some .int) := hC
  unfold p_X11_seasons at h
  show V G 7 2 X ((some (.int res.1)), res.2) σ [(0, .ref (ga G 0)), (1, .int x1)] [] 0
  refine v_blk hC (is := [(.aload_n 0, 0)]) (pc' := 1) (ls' := [(0, .ref (ga G 0)), (1, .int x1)]) (st' := [.ref (ga G 0)]) (by decide +kernel) rfl ?_
  refine gX11_0 hC lfX11_10 (by decide +kernel) ?_
  refine v_blk hC (is := [(.iload_n 1, 0)]) (pc' := 5) (ls' := [(0, .ref (ga G 0)), (1, .int x1)]) (st' := [.int x1, .ref (ga G 1)]) (by decide +kernel) rfl ?_
  obtain ⟨v1, s2, e3, h⟩ := bndI h
  refine v_cVN (idx := 125) hC ⟨List.mem_of_getElem? (i := 35) (by decide +kernel), tiX3_passes, tvX3_passes, tnX3_passes, tcX3_passes, tmX3_passes⟩ (isO_X3 cape1) rfl (c_X3_passes cape1 e3) (by decide) (by decide) (by decide +kernel) (rest := []) rfl rfl (Nat.le_of_ble_eq_true rfl) rfl ?_
  exact v_iret hC h (by decide +kernel)

def p_X11_may (x1 : Int32) (x2 : Int32) (σ : Mem) : Option (Int32 × Mem) := (bnd (p_X3_hasTwo 1 x1 x2 σ) fun v1 s2 => (if v1 = 0 then some ((-1 : Int32), s2) else (lt (s2 1 7) fun v4 => (bnd (p_X3_agree 1 x1 x2 v4 s2) fun v5 s6 => (if v5 = 0 then some ((0 : Int32), s6) else some ((1 : Int32), s6))))))
set_option maxHeartbeats 4000000 in
set_option maxRecDepth 100000 in
theorem c_X11_may {G : Gl} {x1 : Int32} {x2 : Int32} {σ : Mem} {res : Int32 × Mem}  (h : p_X11_may x1 x2 σ = some res) : MetX G yX11_may cX11_may 3 (some .int) 3 [.ref (ga G 0), .int x1, .int x2] σ (some (.int res.1)) res.2 := by
  refine met_V (by decide +kernel) (Nat.le_of_ble_eq_true rfl) (fun X hC => ?_)
  have hC : Ok G 3 3 X cX11_may RX11 (some .int) := hC
  unfold p_X11_may at h
  show V G 3 3 X ((some (.int res.1)), res.2) σ [(0, .ref (ga G 0)), (1, .int x1), (2, .int x2)] [] 0
  refine v_blk hC (is := [(.aload_n 0, 0)]) (pc' := 1) (ls' := [(0, .ref (ga G 0)), (1, .int x1), (2, .int x2)]) (st' := [.ref (ga G 0)]) (by decide +kernel) rfl ?_
  refine gX11_0 hC lfX11_10 (by decide +kernel) ?_
  refine v_blk hC (is := [(.iload_n 1, 0), (.iload_n 2, 0)]) (pc' := 6) (ls' := [(0, .ref (ga G 0)), (1, .int x1), (2, .int x2)]) (st' := [.int x2, .int x1, .ref (ga G 1)]) (by decide +kernel) rfl ?_
  obtain ⟨v1, s2, e3, h⟩ := bndI h
  refine v_cVN (idx := 101) hC ⟨List.mem_of_getElem? (i := 30) (by decide +kernel), tiX3_hasTwo, tvX3_hasTwo, tnX3_hasTwo, tcX3_hasTwo, tmX3_hasTwo⟩ (isO_X3 cape1) rfl (c_X3_hasTwo cape1 e3) (by decide) (by decide) (by decide +kernel) (rest := []) rfl rfl (Nat.le_of_ble_eq_true rfl) rfl ?_
  refine v_if_ne hC (off := 5) (tgt := 14) (by decide +kernel) (by decide) h (fun hq h => ?_) (fun hq h => ?_)
  · refine v_blk hC (is := [(.aload_n 0, 0)]) (pc' := 15) (ls' := [(0, .ref (ga G 0)), (1, .int x1), (2, .int x2)]) (st' := [.ref (ga G 0)]) (by decide +kernel) rfl ?_
    refine gX11_0 hC lfX11_10 (by decide +kernel) ?_
    refine v_blk hC (is := [(.iload_n 1, 0), (.iload_n 2, 0), (.aload_n 0, 0)]) (pc' := 21) (ls' := [(0, .ref (ga G 0)), (1, .int x1), (2, .int x2)]) (st' := [.ref (ga G 0), .int x2, .int x1, .ref (ga G 1)]) (by decide +kernel) rfl ?_
    refine gX11_0 hC lfX11_10 (by decide +kernel) ?_
    refine gX3_7 hC cape1 lfX11_128 (by decide +kernel) h (fun v4 h => ?_)
    obtain ⟨v5, s6, e7, h⟩ := bndI h
    refine v_cVN (idx := 131) hC ⟨List.mem_of_getElem? (i := 36) (by decide +kernel), tiX3_agree, tvX3_agree, tnX3_agree, tcX3_agree, tmX3_agree⟩ (isO_X3 cape1) rfl (c_X3_agree cape1 e7) (by decide) (by decide) (by decide +kernel) (rest := []) rfl rfl (Nat.le_of_ble_eq_true rfl) rfl ?_
    refine v_if_eq hC (off := 7) (tgt := 37) (by decide +kernel) (by decide) h (fun hq h => ?_) (fun hq h => ?_)
    · refine v_blk hC (is := [(.iconst 0, (0 : Int32))]) (pc' := 38) (ls' := [(0, .ref (ga G 0)), (1, .int x1), (2, .int x2)]) (st' := [.int (0 : Int32)]) (by decide +kernel) rfl ?_
      exact v_iret hC h (by decide +kernel)
    · refine v_blk hC (is := [(.iconst 1, (1 : Int32))]) (pc' := 34) (ls' := [(0, .ref (ga G 0)), (1, .int x1), (2, .int x2)]) (st' := [.int (1 : Int32)]) (by decide +kernel) rfl ?_
      refine v_goto hC (off := 4) (tgt := 38) (by decide +kernel) (by decide) ?_
      exact v_iret hC h (by decide +kernel)
  · refine v_blk hC (is := [(.iconst (-1), (-1 : Int32))]) (pc' := 13) (ls' := [(0, .ref (ga G 0)), (1, .int x1), (2, .int x2)]) (st' := [.int (-1 : Int32)]) (by decide +kernel) rfl ?_
    exact v_iret hC h (by decide +kernel)

def p_X11_with (x1 : Int32) (σ : Mem) : Option (Int32 × Mem) := (bnd (p_X3_has 1 x1 σ) fun v1 s2 => (if v1 = 0 then some ((-1 : Int32), s2) else (bnd (p_X3_friends 1 x1 s2) fun v4 s5 => some (v4, s5))))
set_option maxHeartbeats 4000000 in
set_option maxRecDepth 100000 in
theorem c_X11_with {G : Gl} {x1 : Int32} {σ : Mem} {res : Int32 × Mem}  (h : p_X11_with x1 σ = some res) : MetX G yX11_with cX11_with 2 (some .int) 4 [.ref (ga G 0), .int x1] σ (some (.int res.1)) res.2 := by
  refine met_V (by decide +kernel) (Nat.le_of_ble_eq_true rfl) (fun X hC => ?_)
  have hC : Ok G 4 2 X cX11_with RX11 (some .int) := hC
  unfold p_X11_with at h
  show V G 4 2 X ((some (.int res.1)), res.2) σ [(0, .ref (ga G 0)), (1, .int x1)] [] 0
  refine v_blk hC (is := [(.aload_n 0, 0)]) (pc' := 1) (ls' := [(0, .ref (ga G 0)), (1, .int x1)]) (st' := [.ref (ga G 0)]) (by decide +kernel) rfl ?_
  refine gX11_0 hC lfX11_10 (by decide +kernel) ?_
  refine v_blk hC (is := [(.iload_n 1, 0)]) (pc' := 5) (ls' := [(0, .ref (ga G 0)), (1, .int x1)]) (st' := [.int x1, .ref (ga G 1)]) (by decide +kernel) rfl ?_
  obtain ⟨v1, s2, e3, h⟩ := bndI h
  refine v_cVN (idx := 63) hC ⟨List.mem_of_getElem? (i := 27) (by decide +kernel), tiX3_has, tvX3_has, tnX3_has, tcX3_has, tmX3_has⟩ (isO_X3 cape1) rfl (c_X3_has cape1 e3) (by decide) (by decide) (by decide +kernel) (rest := []) rfl rfl (Nat.le_of_ble_eq_true rfl) rfl ?_
  refine v_if_eq hC (off := 14) (tgt := 22) (by decide +kernel) (by decide) h (fun hq h => ?_) (fun hq h => ?_)
  · refine v_blk hC (is := [(.iconst (-1), (-1 : Int32))]) (pc' := 23) (ls' := [(0, .ref (ga G 0)), (1, .int x1)]) (st' := [.int (-1 : Int32)]) (by decide +kernel) rfl ?_
    exact v_iret hC h (by decide +kernel)
  · refine v_blk hC (is := [(.aload_n 0, 0)]) (pc' := 12) (ls' := [(0, .ref (ga G 0)), (1, .int x1)]) (st' := [.ref (ga G 0)]) (by decide +kernel) rfl ?_
    refine gX11_0 hC lfX11_10 (by decide +kernel) ?_
    refine v_blk hC (is := [(.iload_n 1, 0)]) (pc' := 16) (ls' := [(0, .ref (ga G 0)), (1, .int x1)]) (st' := [.int x1, .ref (ga G 1)]) (by decide +kernel) rfl ?_
    obtain ⟨v4, s5, e6, h⟩ := bndI h
    refine v_cVN (idx := 135) hC ⟨List.mem_of_getElem? (i := 37) (by decide +kernel), tiX3_friends, tvX3_friends, tnX3_friends, tcX3_friends, tmX3_friends⟩ (isO_X3 cape1) rfl (c_X3_friends cape1 e6) (by decide) (by decide) (by decide +kernel) (rest := []) rfl rfl (Nat.le_of_ble_eq_true rfl) rfl ?_
    refine v_goto hC (off := 4) (tgt := 23) (by decide +kernel) (by decide) ?_
    exact v_iret hC h (by decide +kernel)

def p_X11_lawful (x1 : Int32) (σ : Mem) : Option (Int32 × Mem) := (bnd (p_X11_isBoat x1 σ) fun v1 s2 => (if v1 = 0 then some ((-1 : Int32), s2) else (lt (s2 1 7) fun v4 => (bnd (p_X4_lookAt 1 v4 s2) fun (v5 : Unit) s6 => (bnd (p_X3_crew 1 x1 s6) fun v8 s9 => (bnd (p_X4_isPeace v8 s9) fun v11 s12 => (if v11 = 0 then some ((0 : Int32), s12) else some ((1 : Int32), s12))))))))
set_option maxHeartbeats 4000000 in
set_option maxRecDepth 100000 in
theorem c_X11_lawful {G : Gl} {x1 : Int32} {σ : Mem} {res : Int32 × Mem}  (h : p_X11_lawful x1 σ = some res) : MetX G yX11_lawful cX11_lawful 2 (some .int) 4 [.ref (ga G 0), .int x1] σ (some (.int res.1)) res.2 := by
  refine met_V (by decide +kernel) (Nat.le_of_ble_eq_true rfl) (fun X hC => ?_)
  have hC : Ok G 4 2 X cX11_lawful RX11 (some .int) := hC
  unfold p_X11_lawful at h
  show V G 4 2 X ((some (.int res.1)), res.2) σ [(0, .ref (ga G 0)), (1, .int x1)] [] 0
  refine v_blk hC (is := [(.iload_n 1, 0)]) (pc' := 1) (ls' := [(0, .ref (ga G 0)), (1, .int x1)]) (st' := [.int x1]) (by decide +kernel) rfl ?_
  obtain ⟨v1, s2, e3, h⟩ := bndI h
  refine v_cS (idx := 138) hC ⟨tt_at 590 (by decide +kernel) rfl, tsX11_isBoat, tnX11_isBoat, tcX11_isBoat, tmX11_isBoat⟩ (c_X11_isBoat e3) (by decide) (by decide) (by decide +kernel) (rest := []) rfl rfl (Nat.le_of_ble_eq_true rfl) rfl ?_
  refine v_if_ne hC (off := 5) (tgt := 9) (by decide +kernel) (by decide) h (fun hq h => ?_) (fun hq h => ?_)
  · refine v_blk hC (is := [(.aload_n 0, 0)]) (pc' := 10) (ls' := [(0, .ref (ga G 0)), (1, .int x1)]) (st' := [.ref (ga G 0)]) (by decide +kernel) rfl ?_
    refine gX11_3 hC lfX11_25 (by decide +kernel) ?_
    refine v_blk hC (is := [(.aload_n 0, 0)]) (pc' := 14) (ls' := [(0, .ref (ga G 0)), (1, .int x1)]) (st' := [.ref (ga G 0), .ref (ga G 4)]) (by decide +kernel) rfl ?_
    refine gX11_0 hC lfX11_10 (by decide +kernel) ?_
    refine v_blk hC (is := [(.aload_n 0, 0)]) (pc' := 18) (ls' := [(0, .ref (ga G 0)), (1, .int x1)]) (st' := [.ref (ga G 0), .ref (ga G 1), .ref (ga G 4)]) (by decide +kernel) rfl ?_
    refine gX11_0 hC lfX11_10 (by decide +kernel) ?_
    refine gX3_7 hC cape1 lfX11_128 (by decide +kernel) h (fun v4 h => ?_)
    obtain ⟨v5, s6, e7, h⟩ := bndI h
    refine v_cVN (idx := 141) hC ⟨List.mem_of_getElem? (i := 38) (by decide +kernel), tiX4_lookAt, tvX4_lookAt, tnX4_lookAt, tcX4_lookAt, tmX4_lookAt⟩ isO_X4 rfl (c_X4_lookAt cape1 e7) (by decide) (by decide) (by decide +kernel) (rest := []) rfl rfl (Nat.le_of_ble_eq_true rfl) rfl ?_
    refine v_blk hC (is := [(.aload_n 0, 0)]) (pc' := 28) (ls' := [(0, .ref (ga G 0)), (1, .int x1)]) (st' := [.ref (ga G 0)]) (by decide +kernel) rfl ?_
    refine gX11_3 hC lfX11_25 (by decide +kernel) ?_
    refine v_blk hC (is := [(.aload_n 0, 0)]) (pc' := 32) (ls' := [(0, .ref (ga G 0)), (1, .int x1)]) (st' := [.ref (ga G 0), .ref (ga G 4)]) (by decide +kernel) rfl ?_
    refine gX11_0 hC lfX11_10 (by decide +kernel) ?_
    refine v_blk hC (is := [(.iload_n 1, 0)]) (pc' := 36) (ls' := [(0, .ref (ga G 0)), (1, .int x1)]) (st' := [.int x1, .ref (ga G 1), .ref (ga G 4)]) (by decide +kernel) rfl ?_
    obtain ⟨v8, s9, e10, h⟩ := bndI h
    refine v_cVN (idx := 145) hC ⟨List.mem_of_getElem? (i := 41) (by decide +kernel), tiX3_crew, tvX3_crew, tnX3_crew, tcX3_crew, tmX3_crew⟩ (isO_X3 cape1) rfl (c_X3_crew cape1 e10) (by decide) (by decide) (by decide +kernel) (rest := [.ref (ga G 4)]) rfl rfl (Nat.le_of_ble_eq_true rfl) rfl ?_
    obtain ⟨v11, s12, e13, h⟩ := bndI h
    refine v_cVN (idx := 148) hC ⟨List.mem_of_getElem? (i := 42) (by decide +kernel), tiX4_isPeace, tvX4_isPeace, tnX4_isPeace, tcX4_isPeace, tmX4_isPeace⟩ isO_X4 rfl (c_X4_isPeace e13) (by decide) (by decide) (by decide +kernel) (rest := []) rfl rfl (Nat.le_of_ble_eq_true rfl) rfl ?_
    refine v_if_eq hC (off := 7) (tgt := 49) (by decide +kernel) (by decide) h (fun hq h => ?_) (fun hq h => ?_)
    · refine v_blk hC (is := [(.iconst 0, (0 : Int32))]) (pc' := 50) (ls' := [(0, .ref (ga G 0)), (1, .int x1)]) (st' := [.int (0 : Int32)]) (by decide +kernel) rfl ?_
      exact v_iret hC h (by decide +kernel)
    · refine v_blk hC (is := [(.iconst 1, (1 : Int32))]) (pc' := 46) (ls' := [(0, .ref (ga G 0)), (1, .int x1)]) (st' := [.int (1 : Int32)]) (by decide +kernel) rfl ?_
      refine v_goto hC (off := 4) (tgt := 50) (by decide +kernel) (by decide) ?_
      exact v_iret hC h (by decide +kernel)
  · refine v_blk hC (is := [(.iconst (-1), (-1 : Int32))]) (pc' := 8) (ls' := [(0, .ref (ga G 0)), (1, .int x1)]) (st' := [.int (-1 : Int32)]) (by decide +kernel) rfl ?_
    exact v_iret hC h (by decide +kernel)

def p_X11_largest (x1 : Int32) (σ : Mem) : Option (Int32 × Mem) := (bnd (p_X11_isPart x1 σ) fun v1 s2 => (if v1 = 0 then some ((-1 : Int32), s2) else (lt (s2 1 7) fun v4 => (bnd (p_X4_lookAt 1 v4 s2) fun (v5 : Unit) s6 => (bnd (p_X4_greatest s6) fun v8 s9 => (if x1 = 0 then some (v8, s9) else (bnd (p_J6_bitCount_0f7a4 v8 s9) fun v11 s12 => some (v11, s12))))))))
set_option maxHeartbeats 4000000 in
set_option maxRecDepth 100000 in
theorem c_X11_largest {G : Gl} {x1 : Int32} {σ : Mem} {res : Int32 × Mem}  (h : p_X11_largest x1 σ = some res) : MetX G yX11_largest cX11_largest 3 (some .int) 5 [.ref (ga G 0), .int x1] σ (some (.int res.1)) res.2 := by
  refine met_V (by decide +kernel) (Nat.le_of_ble_eq_true rfl) (fun X hC => ?_)
  have hC : Ok G 5 3 X cX11_largest RX11 (some .int) := hC
  unfold p_X11_largest at h
  show V G 5 3 X ((some (.int res.1)), res.2) σ [(0, .ref (ga G 0)), (1, .int x1)] [] 0
  refine v_blk hC (is := [(.iload_n 1, 0)]) (pc' := 1) (ls' := [(0, .ref (ga G 0)), (1, .int x1)]) (st' := [.int x1]) (by decide +kernel) rfl ?_
  obtain ⟨v1, s2, e3, h⟩ := bndI h
  refine v_cS (idx := 151) hC ⟨tt_at 613 (by decide +kernel) rfl, tsX11_isPart, tnX11_isPart, tcX11_isPart, tmX11_isPart⟩ (c_X11_isPart e3) (by decide) (by decide) (by decide +kernel) (rest := []) rfl rfl (Nat.le_of_ble_eq_true rfl) rfl ?_
  refine v_if_ne hC (off := 5) (tgt := 9) (by decide +kernel) (by decide) h (fun hq h => ?_) (fun hq h => ?_)
  · refine v_blk hC (is := [(.aload_n 0, 0)]) (pc' := 10) (ls' := [(0, .ref (ga G 0)), (1, .int x1)]) (st' := [.ref (ga G 0)]) (by decide +kernel) rfl ?_
    refine gX11_3 hC lfX11_25 (by decide +kernel) ?_
    refine v_blk hC (is := [(.aload_n 0, 0)]) (pc' := 14) (ls' := [(0, .ref (ga G 0)), (1, .int x1)]) (st' := [.ref (ga G 0), .ref (ga G 4)]) (by decide +kernel) rfl ?_
    refine gX11_0 hC lfX11_10 (by decide +kernel) ?_
    refine v_blk hC (is := [(.aload_n 0, 0)]) (pc' := 18) (ls' := [(0, .ref (ga G 0)), (1, .int x1)]) (st' := [.ref (ga G 0), .ref (ga G 1), .ref (ga G 4)]) (by decide +kernel) rfl ?_
    refine gX11_0 hC lfX11_10 (by decide +kernel) ?_
    refine gX3_7 hC cape1 lfX11_128 (by decide +kernel) h (fun v4 h => ?_)
    obtain ⟨v5, s6, e7, h⟩ := bndI h
    refine v_cVN (idx := 141) hC ⟨List.mem_of_getElem? (i := 38) (by decide +kernel), tiX4_lookAt, tvX4_lookAt, tnX4_lookAt, tcX4_lookAt, tmX4_lookAt⟩ isO_X4 rfl (c_X4_lookAt cape1 e7) (by decide) (by decide) (by decide +kernel) (rest := []) rfl rfl (Nat.le_of_ble_eq_true rfl) rfl ?_
    refine v_blk hC (is := [(.aload_n 0, 0)]) (pc' := 28) (ls' := [(0, .ref (ga G 0)), (1, .int x1)]) (st' := [.ref (ga G 0)]) (by decide +kernel) rfl ?_
    refine gX11_3 hC lfX11_25 (by decide +kernel) ?_
    obtain ⟨v8, s9, e10, h⟩ := bndI h
    refine v_cVN (idx := 154) hC ⟨List.mem_of_getElem? (i := 44) (by decide +kernel), tiX4_greatest, tvX4_greatest, tnX4_greatest, tcX4_greatest, tmX4_greatest⟩ isO_X4 rfl (c_X4_greatest e10) (by decide) (by decide) (by decide +kernel) (rest := []) rfl rfl (Nat.le_of_ble_eq_true rfl) rfl ?_
    refine v_blk hC (is := [(.istore_n 2, 0), (.iload_n 1, 0)]) (pc' := 36) (ls' := [(2, .int v8), (0, .ref (ga G 0)), (1, .int x1)]) (st' := [.int x1]) (by decide +kernel) rfl ?_
    refine v_if_ne hC (off := 7) (tgt := 43) (by decide +kernel) (by decide) h (fun hq h => ?_) (fun hq h => ?_)
    · refine v_blk hC (is := [(.iload_n 2, 0)]) (pc' := 44) (ls' := [(2, .int v8), (0, .ref (ga G 0)), (1, .int x1)]) (st' := [.int v8]) (by decide +kernel) rfl ?_
      obtain ⟨v11, s12, e13, h⟩ := bndI h
      refine v_cS (idx := 157) hC ⟨tt_at 626 (by decide +kernel) rfl, tsJ6_bitCount_0f7a4, tnJ6_bitCount_0f7a4, tcJ6_bitCount_0f7a4, tmJ6_bitCount_0f7a4⟩ (c_J6_bitCount_0f7a4 e13) (by decide) (by decide) (by decide +kernel) (rest := []) rfl rfl (Nat.le_of_ble_eq_true rfl) rfl ?_
      exact v_iret hC h (by decide +kernel)
    · refine v_blk hC (is := [(.iload_n 2, 0)]) (pc' := 40) (ls' := [(2, .int v8), (0, .ref (ga G 0)), (1, .int x1)]) (st' := [.int v8]) (by decide +kernel) rfl ?_
      refine v_goto hC (off := 7) (tgt := 47) (by decide +kernel) (by decide) ?_
      exact v_iret hC h (by decide +kernel)
  · refine v_blk hC (is := [(.iconst (-1), (-1 : Int32))]) (pc' := 8) (ls' := [(0, .ref (ga G 0)), (1, .int x1)]) (st' := [.int (-1 : Int32)]) (by decide +kernel) rfl ?_
    exact v_iret hC h (by decide +kernel)

def p_X11_fewestBoats_B18  (x1 : Int32)  (σ : Mem) : Option (Int32 × Mem) := (lt (σ 1 7) fun v1 => (bnd (p_X4_lookAt 1 v1 σ) fun (v2 : Unit) s3 => (bnd (p_X4_fewest s3) fun v5 s6 => (if x1 = (-1 : Int32) then some (v5, s6) else (bnd (p_X3_isLost 1 x1 s6) fun v8 s9 => (if v8 = 0 then (if x1 < 0 ∨ 8 ≤ (x1).toNatClampNeg then none else lt (s9 38 (x1).toNatClampNeg) fun v11 => some (v11, s9)) else some ((-4 : Int32), s9)))))))
def p_X11_fewestBoats (x1 : Int32) (σ : Mem) : Option (Int32 × Mem) := (if x1 = (-1 : Int32) then (p_X11_fewestBoats_B18 x1) σ else (bnd (p_X3_has 1 x1 σ) fun v12 s13 => (if v12 = 0 then some ((-1 : Int32), s13) else (p_X11_fewestBoats_B18 x1) s13)))
set_option maxHeartbeats 4000000 in
set_option maxRecDepth 100000 in
theorem c_X11_fewestBoats {G : Gl} {x1 : Int32} {σ : Mem} {res : Int32 × Mem}  (h : p_X11_fewestBoats x1 σ = some res) : MetX G yX11_fewestBoats cX11_fewestBoats 3 (some .int) 14 [.ref (ga G 0), .int x1] σ (some (.int res.1)) res.2 := by
  refine met_V (by decide +kernel) (Nat.le_of_ble_eq_true rfl) (fun X hC => ?_)
  have hC : Ok G 14 3 X cX11_fewestBoats RX11 (some .int) := hC
  have hB18 : ∀ σ : Mem, p_X11_fewestBoats_B18 x1 σ = some res → V G 14 3 X ((some (.int res.1)), res.2) σ [(0, .ref (ga G 0)), (1, .int x1)] [] 18 := by
    intro  σ h
    unfold p_X11_fewestBoats_B18 at h
    refine v_blk hC (is := [(.aload_n 0, 0)]) (pc' := 19) (ls' := [(0, .ref (ga G 0)), (1, .int x1)]) (st' := [.ref (ga G 0)]) (by decide +kernel) rfl ?_
    refine gX11_3 hC lfX11_25 (by decide +kernel) ?_
    refine v_blk hC (is := [(.aload_n 0, 0)]) (pc' := 23) (ls' := [(0, .ref (ga G 0)), (1, .int x1)]) (st' := [.ref (ga G 0), .ref (ga G 4)]) (by decide +kernel) rfl ?_
    refine gX11_0 hC lfX11_10 (by decide +kernel) ?_
    refine v_blk hC (is := [(.aload_n 0, 0)]) (pc' := 27) (ls' := [(0, .ref (ga G 0)), (1, .int x1)]) (st' := [.ref (ga G 0), .ref (ga G 1), .ref (ga G 4)]) (by decide +kernel) rfl ?_
    refine gX11_0 hC lfX11_10 (by decide +kernel) ?_
    refine gX3_7 hC cape1 lfX11_128 (by decide +kernel) h (fun v1 h => ?_)
    obtain ⟨v2, s3, e4, h⟩ := bndI h
    refine v_cVN (idx := 141) hC ⟨List.mem_of_getElem? (i := 38) (by decide +kernel), tiX4_lookAt, tvX4_lookAt, tnX4_lookAt, tcX4_lookAt, tmX4_lookAt⟩ isO_X4 rfl (c_X4_lookAt cape1 e4) (by decide) (by decide) (by decide +kernel) (rest := []) rfl rfl (Nat.le_of_ble_eq_true rfl) rfl ?_
    refine v_blk hC (is := [(.aload_n 0, 0)]) (pc' := 37) (ls' := [(0, .ref (ga G 0)), (1, .int x1)]) (st' := [.ref (ga G 0)]) (by decide +kernel) rfl ?_
    refine gX11_3 hC lfX11_25 (by decide +kernel) ?_
    obtain ⟨v5, s6, e7, h⟩ := bndI h
    refine v_cVN (idx := 162) hC ⟨List.mem_of_getElem? (i := 45) (by decide +kernel), tiX4_fewest, tvX4_fewest, tnX4_fewest, tcX4_fewest, tmX4_fewest⟩ isO_X4 rfl (c_X4_fewest e7) (by decide) (by decide) (by decide +kernel) (rest := []) rfl rfl (Nat.le_of_ble_eq_true rfl) rfl ?_
    refine v_blk hC (is := [(.istore_n 2, 0), (.iload_n 1, 0), (.iconst (-1), (-1 : Int32))]) (pc' := 46) (ls' := [(2, .int v5), (0, .ref (ga G 0)), (1, .int x1)]) (st' := [.int (-1 : Int32), .int x1]) (by decide +kernel) rfl ?_
    refine v_icmp_ne hC (off := 5) (tgt := 51) (by decide +kernel) (by decide) h (fun hq h => ?_) (fun hq h => ?_)
    · refine v_blk hC (is := [(.aload_n 0, 0)]) (pc' := 52) (ls' := [(2, .int v5), (0, .ref (ga G 0)), (1, .int x1)]) (st' := [.ref (ga G 0)]) (by decide +kernel) rfl ?_
      refine gX11_0 hC lfX11_10 (by decide +kernel) ?_
      refine v_blk hC (is := [(.iload_n 1, 0)]) (pc' := 56) (ls' := [(2, .int v5), (0, .ref (ga G 0)), (1, .int x1)]) (st' := [.int x1, .ref (ga G 1)]) (by decide +kernel) rfl ?_
      obtain ⟨v8, s9, e10, h⟩ := bndI h
      refine v_cVN (idx := 77) hC ⟨List.mem_of_getElem? (i := 28) (by decide +kernel), tiX3_isLost, tvX3_isLost, tnX3_isLost, tcX3_isLost, tmX3_isLost⟩ (isO_X3 cape1) rfl (c_X3_isLost cape1 e10) (by decide) (by decide) (by decide +kernel) (rest := []) rfl rfl (Nat.le_of_ble_eq_true rfl) rfl ?_
      refine v_if_eq hC (off := 8) (tgt := 67) (by decide +kernel) (by decide) h (fun hq h => ?_) (fun hq h => ?_)
      · refine v_blk hC (is := [(.aload_n 0, 0)]) (pc' := 68) (ls' := [(2, .int v5), (0, .ref (ga G 0)), (1, .int x1)]) (st' := [.ref (ga G 0)]) (by decide +kernel) rfl ?_
        refine gX11_3 hC lfX11_25 (by decide +kernel) ?_
        refine gX4_1 hC lfX11_165 (by decide +kernel) ?_
        refine v_blk hC (is := [(.iload_n 1, 0)]) (pc' := 75) (ls' := [(2, .int v5), (0, .ref (ga G 0)), (1, .int x1)]) (st' := [.int x1, .ref (ga G 38)]) (by decide +kernel) rfl ?_
        refine v_iald hC isA_38 rfl (by decide +kernel) h (fun v11 h => ?_)
        exact v_iret hC h (by decide +kernel)
      · refine v_blk hC (is := [(.bipush (-4), (-4 : Int32))]) (pc' := 64) (ls' := [(2, .int v5), (0, .ref (ga G 0)), (1, .int x1)]) (st' := [.int (-4 : Int32)]) (by decide +kernel) rfl ?_
        refine v_goto hC (off := 12) (tgt := 76) (by decide +kernel) (by decide) ?_
        exact v_iret hC h (by decide +kernel)
    · refine v_blk hC (is := [(.iload_n 2, 0)]) (pc' := 50) (ls' := [(2, .int v5), (0, .ref (ga G 0)), (1, .int x1)]) (st' := [.int v5]) (by decide +kernel) rfl ?_
      exact v_iret hC h (by decide +kernel)
  unfold p_X11_fewestBoats at h
  show V G 14 3 X ((some (.int res.1)), res.2) σ [(0, .ref (ga G 0)), (1, .int x1)] [] 0
  refine v_blk hC (is := [(.iload_n 1, 0), (.iconst (-1), (-1 : Int32))]) (pc' := 2) (ls' := [(0, .ref (ga G 0)), (1, .int x1)]) (st' := [.int (-1 : Int32), .int x1]) (by decide +kernel) rfl ?_
  refine v_icmp_eq hC (off := 16) (tgt := 18) (by decide +kernel) (by decide) h (fun hq h => ?_) (fun hq h => ?_)
  · exact (hB18 ) _ h
  · refine v_blk hC (is := [(.aload_n 0, 0)]) (pc' := 6) (ls' := [(0, .ref (ga G 0)), (1, .int x1)]) (st' := [.ref (ga G 0)]) (by decide +kernel) rfl ?_
    refine gX11_0 hC lfX11_10 (by decide +kernel) ?_
    refine v_blk hC (is := [(.iload_n 1, 0)]) (pc' := 10) (ls' := [(0, .ref (ga G 0)), (1, .int x1)]) (st' := [.int x1, .ref (ga G 1)]) (by decide +kernel) rfl ?_
    obtain ⟨v12, s13, e14, h⟩ := bndI h
    refine v_cVN (idx := 63) hC ⟨List.mem_of_getElem? (i := 27) (by decide +kernel), tiX3_has, tvX3_has, tnX3_has, tcX3_has, tmX3_has⟩ (isO_X3 cape1) rfl (c_X3_has cape1 e14) (by decide) (by decide) (by decide +kernel) (rest := []) rfl rfl (Nat.le_of_ble_eq_true rfl) rfl ?_
    refine v_if_ne hC (off := 5) (tgt := 18) (by decide +kernel) (by decide) h (fun hq h => ?_) (fun hq h => ?_)
    · exact (hB18 ) _ h
    · refine v_blk hC (is := [(.iconst (-1), (-1 : Int32))]) (pc' := 17) (ls' := [(0, .ref (ga G 0)), (1, .int x1)]) (st' := [.int (-1 : Int32)]) (by decide +kernel) rfl ?_
      exact v_iret hC h (by decide +kernel)

def p_X11_manned_B59  (x1 : Int32) (x2 : Int32) (x3 : Int32) (x4 : Int32)  (σ : Mem) : Option (Int32 × Mem) := (lt (σ 1 7) fun v1 => (bnd (p_X4_lookAt 1 v1 σ) fun (v2 : Unit) s3 => (bnd (p_X4_canMan x1 x2 x3 s3) fun v5 s6 => (if x4 = (-1 : Int32) then (if v5 = 0 then some ((0 : Int32), s6) else some ((1 : Int32), s6)) else (if v5 = 0 then some ((-4 : Int32), s6) else (if x4 < 0 ∨ 8 ≤ (x4).toNatClampNeg then none else lt (s6 38 (x4).toNatClampNeg) fun v8 => some (v8, s6)))))))
def p_X11_manned_B32  (x1 : Int32) (x2 : Int32) (x3 : Int32) (x4 : Int32) (t0 : Int32) (σ : Mem) : Option (Int32 × Mem) := (if t0 = 0 then some ((-1 : Int32), σ) else (if x4 = (-1 : Int32) then (p_X11_manned_B59 x1 x2 x3 x4) σ else (bnd (p_X3_has 1 x4 σ) fun v9 s10 => (if v9 = 0 then some ((-1 : Int32), s10) else (p_X11_manned_B59 x1 x2 x3 x4) s10))))
def p_X11_manned_B31  (x1 : Int32) (x2 : Int32) (x3 : Int32) (x4 : Int32)  (σ : Mem) : Option (Int32 × Mem) := (p_X11_manned_B32 x1 x2 x3 x4) (0 : Int32) σ
def p_X11_manned (x1 : Int32) (x2 : Int32) (x3 : Int32) (x4 : Int32) (σ : Mem) : Option (Int32 × Mem) := (bnd (p_X11_within x1 (0 : Int32) (4 : Int32) σ) fun v12 s13 => (if v12 = 0 then (p_X11_manned_B31 x1 x2 x3 x4) s13 else (bnd (p_X11_within x2 (0 : Int32) (4 : Int32) s13) fun v15 s16 => (if v15 = 0 then (p_X11_manned_B31 x1 x2 x3 x4) s16 else (bnd (p_X11_within x3 (0 : Int32) (4 : Int32) s16) fun v18 s19 => (if v18 = 0 then (p_X11_manned_B31 x1 x2 x3 x4) s19 else (p_X11_manned_B32 x1 x2 x3 x4) (1 : Int32) s19))))))
set_option maxHeartbeats 4000000 in
set_option maxRecDepth 100000 in
theorem c_X11_manned {G : Gl} {x1 : Int32} {x2 : Int32} {x3 : Int32} {x4 : Int32} {σ : Mem} {res : Int32 × Mem}  (h : p_X11_manned x1 x2 x3 x4 σ = some res) : MetX G yX11_manned cX11_manned 7 (some .int) 14 [.ref (ga G 0), .int x1, .int x2, .int x3, .int x4] σ (some (.int res.1)) res.2 := by
  refine met_V (by decide +kernel) (Nat.le_of_ble_eq_true rfl) (fun X hC => ?_)
  have hC : Ok G 14 7 X cX11_manned RX11 (some .int) := hC
  have hB59 : ∀ σ : Mem, p_X11_manned_B59 x1 x2 x3 x4 σ = some res → V G 14 7 X ((some (.int res.1)), res.2) σ [(0, .ref (ga G 0)), (1, .int x1), (2, .int x2), (3, .int x3), (4, .int x4)] [] 59 := by
    intro  σ h
    unfold p_X11_manned_B59 at h
    refine v_blk hC (is := [(.aload_n 0, 0)]) (pc' := 60) (ls' := [(0, .ref (ga G 0)), (1, .int x1), (2, .int x2), (3, .int x3), (4, .int x4)]) (st' := [.ref (ga G 0)]) (by decide +kernel) rfl ?_
    refine gX11_3 hC lfX11_25 (by decide +kernel) ?_
    refine v_blk hC (is := [(.aload_n 0, 0)]) (pc' := 64) (ls' := [(0, .ref (ga G 0)), (1, .int x1), (2, .int x2), (3, .int x3), (4, .int x4)]) (st' := [.ref (ga G 0), .ref (ga G 4)]) (by decide +kernel) rfl ?_
    refine gX11_0 hC lfX11_10 (by decide +kernel) ?_
    refine v_blk hC (is := [(.aload_n 0, 0)]) (pc' := 68) (ls' := [(0, .ref (ga G 0)), (1, .int x1), (2, .int x2), (3, .int x3), (4, .int x4)]) (st' := [.ref (ga G 0), .ref (ga G 1), .ref (ga G 4)]) (by decide +kernel) rfl ?_
    refine gX11_0 hC lfX11_10 (by decide +kernel) ?_
    refine gX3_7 hC cape1 lfX11_128 (by decide +kernel) h (fun v1 h => ?_)
    obtain ⟨v2, s3, e4, h⟩ := bndI h
    refine v_cVN (idx := 141) hC ⟨List.mem_of_getElem? (i := 38) (by decide +kernel), tiX4_lookAt, tvX4_lookAt, tnX4_lookAt, tcX4_lookAt, tmX4_lookAt⟩ isO_X4 rfl (c_X4_lookAt cape1 e4) (by decide) (by decide) (by decide +kernel) (rest := []) rfl rfl (Nat.le_of_ble_eq_true rfl) rfl ?_
    refine v_blk hC (is := [(.aload_n 0, 0)]) (pc' := 78) (ls' := [(0, .ref (ga G 0)), (1, .int x1), (2, .int x2), (3, .int x3), (4, .int x4)]) (st' := [.ref (ga G 0)]) (by decide +kernel) rfl ?_
    refine gX11_3 hC lfX11_25 (by decide +kernel) ?_
    refine v_blk hC (is := [(.iload_n 1, 0), (.iload_n 2, 0), (.iload_n 3, 0)]) (pc' := 84) (ls' := [(0, .ref (ga G 0)), (1, .int x1), (2, .int x2), (3, .int x3), (4, .int x4)]) (st' := [.int x3, .int x2, .int x1, .ref (ga G 4)]) (by decide +kernel) rfl ?_
    obtain ⟨v5, s6, e7, h⟩ := bndI h
    refine v_cVN (idx := 171) hC ⟨List.mem_of_getElem? (i := 46) (by decide +kernel), tiX4_canMan, tvX4_canMan, tnX4_canMan, tcX4_canMan, tmX4_canMan⟩ isO_X4 rfl (c_X4_canMan e7) (by decide) (by decide) (by decide +kernel) (rest := []) rfl rfl (Nat.le_of_ble_eq_true rfl) rfl ?_
    refine v_blk hC (is := [(.istore 6, 0), (.iload 4, 0), (.iconst (-1), (-1 : Int32))]) (pc' := 92) (ls' := [(6, .int v5), (0, .ref (ga G 0)), (1, .int x1), (2, .int x2), (3, .int x3), (4, .int x4)]) (st' := [.int (-1 : Int32), .int x4]) (by decide +kernel) rfl ?_
    refine v_icmp_ne hC (off := 14) (tgt := 106) (by decide +kernel) (by decide) h (fun hq h => ?_) (fun hq h => ?_)
    · refine v_blk hC (is := [(.iload 6, 0)]) (pc' := 108) (ls' := [(6, .int v5), (0, .ref (ga G 0)), (1, .int x1), (2, .int x2), (3, .int x3), (4, .int x4)]) (st' := [.int v5]) (by decide +kernel) rfl ?_
      refine v_if_eq hC (off := 16) (tgt := 124) (by decide +kernel) (by decide) h (fun hq h => ?_) (fun hq h => ?_)
      · refine v_blk hC (is := [(.bipush (-4), (-4 : Int32))]) (pc' := 126) (ls' := [(6, .int v5), (0, .ref (ga G 0)), (1, .int x1), (2, .int x2), (3, .int x3), (4, .int x4)]) (st' := [.int (-4 : Int32)]) (by decide +kernel) rfl ?_
        exact v_iret hC h (by decide +kernel)
      · refine v_blk hC (is := [(.aload_n 0, 0)]) (pc' := 112) (ls' := [(6, .int v5), (0, .ref (ga G 0)), (1, .int x1), (2, .int x2), (3, .int x3), (4, .int x4)]) (st' := [.ref (ga G 0)]) (by decide +kernel) rfl ?_
        refine gX11_3 hC lfX11_25 (by decide +kernel) ?_
        refine gX4_1 hC lfX11_165 (by decide +kernel) ?_
        refine v_blk hC (is := [(.iload 4, 0)]) (pc' := 120) (ls' := [(6, .int v5), (0, .ref (ga G 0)), (1, .int x1), (2, .int x2), (3, .int x3), (4, .int x4)]) (st' := [.int x4, .ref (ga G 38)]) (by decide +kernel) rfl ?_
        refine v_iald hC isA_38 rfl (by decide +kernel) h (fun v8 h => ?_)
        refine v_goto hC (off := 5) (tgt := 126) (by decide +kernel) (by decide) ?_
        exact v_iret hC h (by decide +kernel)
    · refine v_blk hC (is := [(.iload 6, 0)]) (pc' := 97) (ls' := [(6, .int v5), (0, .ref (ga G 0)), (1, .int x1), (2, .int x2), (3, .int x3), (4, .int x4)]) (st' := [.int v5]) (by decide +kernel) rfl ?_
      refine v_if_eq hC (off := 7) (tgt := 104) (by decide +kernel) (by decide) h (fun hq h => ?_) (fun hq h => ?_)
      · refine v_blk hC (is := [(.iconst 0, (0 : Int32))]) (pc' := 105) (ls' := [(6, .int v5), (0, .ref (ga G 0)), (1, .int x1), (2, .int x2), (3, .int x3), (4, .int x4)]) (st' := [.int (0 : Int32)]) (by decide +kernel) rfl ?_
        exact v_iret hC h (by decide +kernel)
      · refine v_blk hC (is := [(.iconst 1, (1 : Int32))]) (pc' := 101) (ls' := [(6, .int v5), (0, .ref (ga G 0)), (1, .int x1), (2, .int x2), (3, .int x3), (4, .int x4)]) (st' := [.int (1 : Int32)]) (by decide +kernel) rfl ?_
        refine v_goto hC (off := 4) (tgt := 105) (by decide +kernel) (by decide) ?_
        exact v_iret hC h (by decide +kernel)
  have hB32 : ∀ (t0 : Int32), ∀ σ : Mem, p_X11_manned_B32 x1 x2 x3 x4 t0 σ = some res → V G 14 7 X ((some (.int res.1)), res.2) σ [(0, .ref (ga G 0)), (1, .int x1), (2, .int x2), (3, .int x3), (4, .int x4)] [.int t0] 32 := by
    intro t0 σ h
    unfold p_X11_manned_B32 at h
    refine v_blk hC (is := [(.istore 5, 0), (.iload 5, 0)]) (pc' := 36) (ls' := [(5, .int t0), (0, .ref (ga G 0)), (1, .int x1), (2, .int x2), (3, .int x3), (4, .int x4)]) (st' := [.int t0]) (by decide +kernel) rfl ?_
    refine v_if_eq hC (off := 21) (tgt := 57) (by decide +kernel) (by decide) h (fun hq h => ?_) (fun hq h => ?_)
    · refine v_blk hC (is := [(.iconst (-1), (-1 : Int32))]) (pc' := 58) (ls' := [(5, .int t0), (0, .ref (ga G 0)), (1, .int x1), (2, .int x2), (3, .int x3), (4, .int x4)]) (st' := [.int (-1 : Int32)]) (by decide +kernel) rfl ?_
      exact v_iret hC h (by decide +kernel)
    · refine v_blk hC (is := [(.iload 4, 0), (.iconst (-1), (-1 : Int32))]) (pc' := 42) (ls' := [(5, .int t0), (0, .ref (ga G 0)), (1, .int x1), (2, .int x2), (3, .int x3), (4, .int x4)]) (st' := [.int (-1 : Int32), .int x4]) (by decide +kernel) rfl ?_
      refine v_icmp_eq hC (off := 17) (tgt := 59) (by decide +kernel) (by decide) h (fun hq h => ?_) (fun hq h => ?_)
      · refine v_sub [1, 2, 3, 4, 5] (ls' := [(0, .ref (ga G 0)), (1, .int x1), (2, .int x2), (3, .int x3), (4, .int x4)]) rfl ?_
        exact (hB59 ) _ h
      · refine v_blk hC (is := [(.aload_n 0, 0)]) (pc' := 46) (ls' := [(5, .int t0), (0, .ref (ga G 0)), (1, .int x1), (2, .int x2), (3, .int x3), (4, .int x4)]) (st' := [.ref (ga G 0)]) (by decide +kernel) rfl ?_
        refine gX11_0 hC lfX11_10 (by decide +kernel) ?_
        refine v_blk hC (is := [(.iload 4, 0)]) (pc' := 51) (ls' := [(5, .int t0), (0, .ref (ga G 0)), (1, .int x1), (2, .int x2), (3, .int x3), (4, .int x4)]) (st' := [.int x4, .ref (ga G 1)]) (by decide +kernel) rfl ?_
        obtain ⟨v9, s10, e11, h⟩ := bndI h
        refine v_cVN (idx := 63) hC ⟨List.mem_of_getElem? (i := 27) (by decide +kernel), tiX3_has, tvX3_has, tnX3_has, tcX3_has, tmX3_has⟩ (isO_X3 cape1) rfl (c_X3_has cape1 e11) (by decide) (by decide) (by decide +kernel) (rest := []) rfl rfl (Nat.le_of_ble_eq_true rfl) rfl ?_
        refine v_if_ne hC (off := 5) (tgt := 59) (by decide +kernel) (by decide) h (fun hq h => ?_) (fun hq h => ?_)
        · refine v_sub [1, 2, 3, 4, 5] (ls' := [(0, .ref (ga G 0)), (1, .int x1), (2, .int x2), (3, .int x3), (4, .int x4)]) rfl ?_
          exact (hB59 ) _ h
        · refine v_blk hC (is := [(.iconst (-1), (-1 : Int32))]) (pc' := 58) (ls' := [(5, .int t0), (0, .ref (ga G 0)), (1, .int x1), (2, .int x2), (3, .int x3), (4, .int x4)]) (st' := [.int (-1 : Int32)]) (by decide +kernel) rfl ?_
          exact v_iret hC h (by decide +kernel)
  have hB31 : ∀ σ : Mem, p_X11_manned_B31 x1 x2 x3 x4 σ = some res → V G 14 7 X ((some (.int res.1)), res.2) σ [(0, .ref (ga G 0)), (1, .int x1), (2, .int x2), (3, .int x3), (4, .int x4)] [] 31 := by
    intro  σ h
    unfold p_X11_manned_B31 at h
    refine v_blk hC (is := [(.iconst 0, (0 : Int32))]) (pc' := 32) (ls' := [(0, .ref (ga G 0)), (1, .int x1), (2, .int x2), (3, .int x3), (4, .int x4)]) (st' := [.int (0 : Int32)]) (by decide +kernel) rfl ?_
    exact (hB32 ) _ _ h
  unfold p_X11_manned at h
  show V G 14 7 X ((some (.int res.1)), res.2) σ [(0, .ref (ga G 0)), (1, .int x1), (2, .int x2), (3, .int x3), (4, .int x4)] [] 0
  refine v_blk hC (is := [(.iload_n 1, 0), (.iconst 0, (0 : Int32)), (.iconst 4, (4 : Int32))]) (pc' := 3) (ls' := [(0, .ref (ga G 0)), (1, .int x1), (2, .int x2), (3, .int x3), (4, .int x4)]) (st' := [.int (4 : Int32), .int (0 : Int32), .int x1]) (by decide +kernel) rfl ?_
  obtain ⟨v12, s13, e14, h⟩ := bndI h
  refine v_cS (idx := 168) hC ⟨tt_at 300 (by decide +kernel) rfl, tsX11_within, tnX11_within, tcX11_within, tmX11_within⟩ (c_X11_within e14) (by decide) (by decide) (by decide +kernel) (rest := []) rfl rfl (Nat.le_of_ble_eq_true rfl) rfl ?_
  refine v_if_eq hC (off := 25) (tgt := 31) (by decide +kernel) (by decide) h (fun hq h => ?_) (fun hq h => ?_)
  · exact (hB31 ) _ h
  · refine v_blk hC (is := [(.iload_n 2, 0), (.iconst 0, (0 : Int32)), (.iconst 4, (4 : Int32))]) (pc' := 12) (ls' := [(0, .ref (ga G 0)), (1, .int x1), (2, .int x2), (3, .int x3), (4, .int x4)]) (st' := [.int (4 : Int32), .int (0 : Int32), .int x2]) (by decide +kernel) rfl ?_
    obtain ⟨v15, s16, e17, h⟩ := bndI h
    refine v_cS (idx := 168) hC ⟨tt_at 300 (by decide +kernel) rfl, tsX11_within, tnX11_within, tcX11_within, tmX11_within⟩ (c_X11_within e17) (by decide) (by decide) (by decide +kernel) (rest := []) rfl rfl (Nat.le_of_ble_eq_true rfl) rfl ?_
    refine v_if_eq hC (off := 16) (tgt := 31) (by decide +kernel) (by decide) h (fun hq h => ?_) (fun hq h => ?_)
    · exact (hB31 ) _ h
    · refine v_blk hC (is := [(.iload_n 3, 0), (.iconst 0, (0 : Int32)), (.iconst 4, (4 : Int32))]) (pc' := 21) (ls' := [(0, .ref (ga G 0)), (1, .int x1), (2, .int x2), (3, .int x3), (4, .int x4)]) (st' := [.int (4 : Int32), .int (0 : Int32), .int x3]) (by decide +kernel) rfl ?_
      obtain ⟨v18, s19, e20, h⟩ := bndI h
      refine v_cS (idx := 168) hC ⟨tt_at 300 (by decide +kernel) rfl, tsX11_within, tnX11_within, tcX11_within, tmX11_within⟩ (c_X11_within e20) (by decide) (by decide) (by decide +kernel) (rest := []) rfl rfl (Nat.le_of_ble_eq_true rfl) rfl ?_
      refine v_if_eq hC (off := 7) (tgt := 31) (by decide +kernel) (by decide) h (fun hq h => ?_) (fun hq h => ?_)
      · exact (hB31 ) _ h
      · refine v_blk hC (is := [(.iconst 1, (1 : Int32))]) (pc' := 28) (ls' := [(0, .ref (ga G 0)), (1, .int x1), (2, .int x2), (3, .int x3), (4, .int x4)]) (st' := [.int (1 : Int32)]) (by decide +kernel) rfl ?_
        refine v_goto hC (off := 4) (tgt := 32) (by decide +kernel) (by decide) ?_
        exact (hB32 ) _ _ h

def p_X11_bestCrew_B57  (x1 : Int32) (x2 : Int32) (x3 : Int32) (σ : Mem) : Option (Int32 × Mem) := some (x3, σ)
def p_X11_bestCrew (x1 : Int32) (x2 : Int32) (σ : Mem) : Option (Int32 × Mem) := (bnd (p_X11_within x1 (1 : Int32) (5 : Int32) σ) fun v1 s2 => (if v1 = 0 then some ((-1 : Int32), s2) else (bnd (p_X11_isPart x2 s2) fun v4 s5 => (if v4 = 0 then some ((-1 : Int32), s5) else (lt (s5 1 7) fun v7 => (bnd (p_X4_lookAt 1 v7 s5) fun (v8 : Unit) s9 => (bnd (p_X4_mostSkilled 1 x1 s9) fun v11 s12 => (if v11 < 0 then (p_X11_bestCrew_B57 x1 x2) v11 s12 else (if x2 = 0 then (p_X11_bestCrew_B57 x1 x2) v11 s12 else (bnd (p_X3_skillOf 1 v11 s12) fun v14 s15 => some (v14, s15)))))))))))
set_option maxHeartbeats 4000000 in
set_option maxRecDepth 100000 in
theorem c_X11_bestCrew {G : Gl} {x1 : Int32} {x2 : Int32} {σ : Mem} {res : Int32 × Mem}  (h : p_X11_bestCrew x1 x2 σ = some res) : MetX G yX11_bestCrew cX11_bestCrew 4 (some .int) 6 [.ref (ga G 0), .int x1, .int x2] σ (some (.int res.1)) res.2 := by
  refine met_V (by decide +kernel) (Nat.le_of_ble_eq_true rfl) (fun X hC => ?_)
  have hC : Ok G 6 4 X cX11_bestCrew RX11 (some .int) := hC
  have hB57 : ∀ (x3 : Int32), ∀ σ : Mem, p_X11_bestCrew_B57 x1 x2 x3 σ = some res → V G 6 4 X ((some (.int res.1)), res.2) σ [(3, .int x3)] [] 57 := by
    intro x3 σ h
    unfold p_X11_bestCrew_B57 at h
    refine v_blk hC (is := [(.iload_n 3, 0)]) (pc' := 58) (ls' := [(3, .int x3)]) (st' := [.int x3]) (by decide +kernel) rfl ?_
    refine v_goto hC (off := 11) (tgt := 69) (by decide +kernel) (by decide) ?_
    exact v_iret hC h (by decide +kernel)
  unfold p_X11_bestCrew at h
  show V G 6 4 X ((some (.int res.1)), res.2) σ [(0, .ref (ga G 0)), (1, .int x1), (2, .int x2)] [] 0
  refine v_blk hC (is := [(.iload_n 1, 0), (.iconst 1, (1 : Int32)), (.iconst 5, (5 : Int32))]) (pc' := 3) (ls' := [(0, .ref (ga G 0)), (1, .int x1), (2, .int x2)]) (st' := [.int (5 : Int32), .int (1 : Int32), .int x1]) (by decide +kernel) rfl ?_
  obtain ⟨v1, s2, e3, h⟩ := bndI h
  refine v_cS (idx := 168) hC ⟨tt_at 300 (by decide +kernel) rfl, tsX11_within, tnX11_within, tcX11_within, tmX11_within⟩ (c_X11_within e3) (by decide) (by decide) (by decide +kernel) (rest := []) rfl rfl (Nat.le_of_ble_eq_true rfl) rfl ?_
  refine v_if_eq hC (off := 10) (tgt := 16) (by decide +kernel) (by decide) h (fun hq h => ?_) (fun hq h => ?_)
  · refine v_blk hC (is := [(.iconst (-1), (-1 : Int32))]) (pc' := 17) (ls' := [(0, .ref (ga G 0)), (1, .int x1), (2, .int x2)]) (st' := [.int (-1 : Int32)]) (by decide +kernel) rfl ?_
    exact v_iret hC h (by decide +kernel)
  · refine v_blk hC (is := [(.iload_n 2, 0)]) (pc' := 10) (ls' := [(0, .ref (ga G 0)), (1, .int x1), (2, .int x2)]) (st' := [.int x2]) (by decide +kernel) rfl ?_
    obtain ⟨v4, s5, e6, h⟩ := bndI h
    refine v_cS (idx := 151) hC ⟨tt_at 613 (by decide +kernel) rfl, tsX11_isPart, tnX11_isPart, tcX11_isPart, tmX11_isPart⟩ (c_X11_isPart e6) (by decide) (by decide) (by decide +kernel) (rest := []) rfl rfl (Nat.le_of_ble_eq_true rfl) rfl ?_
    refine v_if_ne hC (off := 5) (tgt := 18) (by decide +kernel) (by decide) h (fun hq h => ?_) (fun hq h => ?_)
    · refine v_blk hC (is := [(.aload_n 0, 0)]) (pc' := 19) (ls' := [(0, .ref (ga G 0)), (1, .int x1), (2, .int x2)]) (st' := [.ref (ga G 0)]) (by decide +kernel) rfl ?_
      refine gX11_3 hC lfX11_25 (by decide +kernel) ?_
      refine v_blk hC (is := [(.aload_n 0, 0)]) (pc' := 23) (ls' := [(0, .ref (ga G 0)), (1, .int x1), (2, .int x2)]) (st' := [.ref (ga G 0), .ref (ga G 4)]) (by decide +kernel) rfl ?_
      refine gX11_0 hC lfX11_10 (by decide +kernel) ?_
      refine v_blk hC (is := [(.aload_n 0, 0)]) (pc' := 27) (ls' := [(0, .ref (ga G 0)), (1, .int x1), (2, .int x2)]) (st' := [.ref (ga G 0), .ref (ga G 1), .ref (ga G 4)]) (by decide +kernel) rfl ?_
      refine gX11_0 hC lfX11_10 (by decide +kernel) ?_
      refine gX3_7 hC cape1 lfX11_128 (by decide +kernel) h (fun v7 h => ?_)
      obtain ⟨v8, s9, e10, h⟩ := bndI h
      refine v_cVN (idx := 141) hC ⟨List.mem_of_getElem? (i := 38) (by decide +kernel), tiX4_lookAt, tvX4_lookAt, tnX4_lookAt, tcX4_lookAt, tmX4_lookAt⟩ isO_X4 rfl (c_X4_lookAt cape1 e10) (by decide) (by decide) (by decide +kernel) (rest := []) rfl rfl (Nat.le_of_ble_eq_true rfl) rfl ?_
      refine v_blk hC (is := [(.aload_n 0, 0)]) (pc' := 37) (ls' := [(0, .ref (ga G 0)), (1, .int x1), (2, .int x2)]) (st' := [.ref (ga G 0)]) (by decide +kernel) rfl ?_
      refine gX11_3 hC lfX11_25 (by decide +kernel) ?_
      refine v_blk hC (is := [(.aload_n 0, 0)]) (pc' := 41) (ls' := [(0, .ref (ga G 0)), (1, .int x1), (2, .int x2)]) (st' := [.ref (ga G 0), .ref (ga G 4)]) (by decide +kernel) rfl ?_
      refine gX11_0 hC lfX11_10 (by decide +kernel) ?_
      refine v_blk hC (is := [(.iload_n 1, 0)]) (pc' := 45) (ls' := [(0, .ref (ga G 0)), (1, .int x1), (2, .int x2)]) (st' := [.int x1, .ref (ga G 1), .ref (ga G 4)]) (by decide +kernel) rfl ?_
      obtain ⟨v11, s12, e13, h⟩ := bndI h
      refine v_cVN (idx := 174) hC ⟨List.mem_of_getElem? (i := 47) (by decide +kernel), tiX4_mostSkilled, tvX4_mostSkilled, tnX4_mostSkilled, tcX4_mostSkilled, tmX4_mostSkilled⟩ isO_X4 rfl (c_X4_mostSkilled cape1 e13) (by decide) (by decide) (by decide +kernel) (rest := []) rfl rfl (Nat.le_of_ble_eq_true rfl) rfl ?_
      refine v_blk hC (is := [(.istore_n 3, 0), (.iload_n 3, 0)]) (pc' := 50) (ls' := [(3, .int v11), (0, .ref (ga G 0)), (1, .int x1), (2, .int x2)]) (st' := [.int v11]) (by decide +kernel) rfl ?_
      refine v_if_lt hC (off := 7) (tgt := 57) (by decide +kernel) (by decide) h (fun hq h => ?_) (fun hq h => ?_)
      · refine v_sub [0] (ls' := [(3, .int v11)]) rfl ?_
        exact (hB57 ) _ _ h
      · refine v_blk hC (is := [(.iload_n 2, 0)]) (pc' := 54) (ls' := [(3, .int v11), (0, .ref (ga G 0)), (1, .int x1), (2, .int x2)]) (st' := [.int x2]) (by decide +kernel) rfl ?_
        refine v_if_ne hC (off := 7) (tgt := 61) (by decide +kernel) (by decide) h (fun hq h => ?_) (fun hq h => ?_)
        · refine v_blk hC (is := [(.aload_n 0, 0)]) (pc' := 62) (ls' := [(3, .int v11), (0, .ref (ga G 0)), (1, .int x1), (2, .int x2)]) (st' := [.ref (ga G 0)]) (by decide +kernel) rfl ?_
          refine gX11_0 hC lfX11_10 (by decide +kernel) ?_
          refine v_blk hC (is := [(.iload_n 3, 0)]) (pc' := 66) (ls' := [(3, .int v11), (0, .ref (ga G 0)), (1, .int x1), (2, .int x2)]) (st' := [.int v11, .ref (ga G 1)]) (by decide +kernel) rfl ?_
          obtain ⟨v14, s15, e16, h⟩ := bndI h
          refine v_cVN (idx := 178) hC ⟨List.mem_of_getElem? (i := 49) (by decide +kernel), tiX3_skillOf, tvX3_skillOf, tnX3_skillOf, tcX3_skillOf, tmX3_skillOf⟩ (isO_X3 cape1) rfl (c_X3_skillOf cape1 e16) (by decide) (by decide) (by decide +kernel) (rest := []) rfl rfl (Nat.le_of_ble_eq_true rfl) rfl ?_
          exact v_iret hC h (by decide +kernel)
        · refine v_sub [0] (ls' := [(3, .int v11)]) rfl ?_
          exact (hB57 ) _ _ h
    · refine v_blk hC (is := [(.iconst (-1), (-1 : Int32))]) (pc' := 17) (ls' := [(0, .ref (ga G 0)), (1, .int x1), (2, .int x2)]) (st' := [.int (-1 : Int32)]) (by decide +kernel) rfl ?_
      exact v_iret hC h (by decide +kernel)

def p_X11_cheapest_B58  (x1 : Int32) (x2 : Int32) (x3 : Int32) (σ : Mem) : Option (Int32 × Mem) := some (x3, σ)
def p_X11_cheapest (x1 : Int32) (x2 : Int32) (σ : Mem) : Option (Int32 × Mem) := (bnd (p_X11_within x1 (0 : Int32) (60 : Int32) σ) fun v1 s2 => (if v1 = 0 then some ((-1 : Int32), s2) else (bnd (p_X11_isPart x2 s2) fun v4 s5 => (if v4 = 0 then some ((-1 : Int32), s5) else (lt (s5 1 7) fun v7 => (bnd (p_X4_lookAt 1 v7 s5) fun (v8 : Unit) s9 => (bnd (p_X4_leastPaid 1 x1 s9) fun v11 s12 => (if v11 < 0 then (p_X11_cheapest_B58 x1 x2) v11 s12 else (if x2 = 0 then (p_X11_cheapest_B58 x1 x2) v11 s12 else (bnd (p_X3_payOf 1 v11 s12) fun v14 s15 => some (v14, s15)))))))))))
set_option maxHeartbeats 4000000 in
set_option maxRecDepth 100000 in
theorem c_X11_cheapest {G : Gl} {x1 : Int32} {x2 : Int32} {σ : Mem} {res : Int32 × Mem}  (h : p_X11_cheapest x1 x2 σ = some res) : MetX G yX11_cheapest cX11_cheapest 4 (some .int) 6 [.ref (ga G 0), .int x1, .int x2] σ (some (.int res.1)) res.2 := by
  refine met_V (by decide +kernel) (Nat.le_of_ble_eq_true rfl) (fun X hC => ?_)
  have hC : Ok G 6 4 X cX11_cheapest RX11 (some .int) := hC
  have hB58 : ∀ (x3 : Int32), ∀ σ : Mem, p_X11_cheapest_B58 x1 x2 x3 σ = some res → V G 6 4 X ((some (.int res.1)), res.2) σ [(3, .int x3)] [] 58 := by
    intro x3 σ h
    unfold p_X11_cheapest_B58 at h
    refine v_blk hC (is := [(.iload_n 3, 0)]) (pc' := 59) (ls' := [(3, .int x3)]) (st' := [.int x3]) (by decide +kernel) rfl ?_
    refine v_goto hC (off := 11) (tgt := 70) (by decide +kernel) (by decide) ?_
    exact v_iret hC h (by decide +kernel)
  unfold p_X11_cheapest at h
  show V G 6 4 X ((some (.int res.1)), res.2) σ [(0, .ref (ga G 0)), (1, .int x1), (2, .int x2)] [] 0
  refine v_blk hC (is := [(.iload_n 1, 0), (.iconst 0, (0 : Int32)), (.bipush 60, (60 : Int32))]) (pc' := 4) (ls' := [(0, .ref (ga G 0)), (1, .int x1), (2, .int x2)]) (st' := [.int (60 : Int32), .int (0 : Int32), .int x1]) (by decide +kernel) rfl ?_
  obtain ⟨v1, s2, e3, h⟩ := bndI h
  refine v_cS (idx := 168) hC ⟨tt_at 300 (by decide +kernel) rfl, tsX11_within, tnX11_within, tcX11_within, tmX11_within⟩ (c_X11_within e3) (by decide) (by decide) (by decide +kernel) (rest := []) rfl rfl (Nat.le_of_ble_eq_true rfl) rfl ?_
  refine v_if_eq hC (off := 10) (tgt := 17) (by decide +kernel) (by decide) h (fun hq h => ?_) (fun hq h => ?_)
  · refine v_blk hC (is := [(.iconst (-1), (-1 : Int32))]) (pc' := 18) (ls' := [(0, .ref (ga G 0)), (1, .int x1), (2, .int x2)]) (st' := [.int (-1 : Int32)]) (by decide +kernel) rfl ?_
    exact v_iret hC h (by decide +kernel)
  · refine v_blk hC (is := [(.iload_n 2, 0)]) (pc' := 11) (ls' := [(0, .ref (ga G 0)), (1, .int x1), (2, .int x2)]) (st' := [.int x2]) (by decide +kernel) rfl ?_
    obtain ⟨v4, s5, e6, h⟩ := bndI h
    refine v_cS (idx := 151) hC ⟨tt_at 613 (by decide +kernel) rfl, tsX11_isPart, tnX11_isPart, tcX11_isPart, tmX11_isPart⟩ (c_X11_isPart e6) (by decide) (by decide) (by decide +kernel) (rest := []) rfl rfl (Nat.le_of_ble_eq_true rfl) rfl ?_
    refine v_if_ne hC (off := 5) (tgt := 19) (by decide +kernel) (by decide) h (fun hq h => ?_) (fun hq h => ?_)
    · refine v_blk hC (is := [(.aload_n 0, 0)]) (pc' := 20) (ls' := [(0, .ref (ga G 0)), (1, .int x1), (2, .int x2)]) (st' := [.ref (ga G 0)]) (by decide +kernel) rfl ?_
      refine gX11_3 hC lfX11_25 (by decide +kernel) ?_
      refine v_blk hC (is := [(.aload_n 0, 0)]) (pc' := 24) (ls' := [(0, .ref (ga G 0)), (1, .int x1), (2, .int x2)]) (st' := [.ref (ga G 0), .ref (ga G 4)]) (by decide +kernel) rfl ?_
      refine gX11_0 hC lfX11_10 (by decide +kernel) ?_
      refine v_blk hC (is := [(.aload_n 0, 0)]) (pc' := 28) (ls' := [(0, .ref (ga G 0)), (1, .int x1), (2, .int x2)]) (st' := [.ref (ga G 0), .ref (ga G 1), .ref (ga G 4)]) (by decide +kernel) rfl ?_
      refine gX11_0 hC lfX11_10 (by decide +kernel) ?_
      refine gX3_7 hC cape1 lfX11_128 (by decide +kernel) h (fun v7 h => ?_)
      obtain ⟨v8, s9, e10, h⟩ := bndI h
      refine v_cVN (idx := 141) hC ⟨List.mem_of_getElem? (i := 38) (by decide +kernel), tiX4_lookAt, tvX4_lookAt, tnX4_lookAt, tcX4_lookAt, tmX4_lookAt⟩ isO_X4 rfl (c_X4_lookAt cape1 e10) (by decide) (by decide) (by decide +kernel) (rest := []) rfl rfl (Nat.le_of_ble_eq_true rfl) rfl ?_
      refine v_blk hC (is := [(.aload_n 0, 0)]) (pc' := 38) (ls' := [(0, .ref (ga G 0)), (1, .int x1), (2, .int x2)]) (st' := [.ref (ga G 0)]) (by decide +kernel) rfl ?_
      refine gX11_3 hC lfX11_25 (by decide +kernel) ?_
      refine v_blk hC (is := [(.aload_n 0, 0)]) (pc' := 42) (ls' := [(0, .ref (ga G 0)), (1, .int x1), (2, .int x2)]) (st' := [.ref (ga G 0), .ref (ga G 4)]) (by decide +kernel) rfl ?_
      refine gX11_0 hC lfX11_10 (by decide +kernel) ?_
      refine v_blk hC (is := [(.iload_n 1, 0)]) (pc' := 46) (ls' := [(0, .ref (ga G 0)), (1, .int x1), (2, .int x2)]) (st' := [.int x1, .ref (ga G 1), .ref (ga G 4)]) (by decide +kernel) rfl ?_
      obtain ⟨v11, s12, e13, h⟩ := bndI h
      refine v_cVN (idx := 181) hC ⟨List.mem_of_getElem? (i := 50) (by decide +kernel), tiX4_leastPaid, tvX4_leastPaid, tnX4_leastPaid, tcX4_leastPaid, tmX4_leastPaid⟩ isO_X4 rfl (c_X4_leastPaid cape1 e13) (by decide) (by decide) (by decide +kernel) (rest := []) rfl rfl (Nat.le_of_ble_eq_true rfl) rfl ?_
      refine v_blk hC (is := [(.istore_n 3, 0), (.iload_n 3, 0)]) (pc' := 51) (ls' := [(3, .int v11), (0, .ref (ga G 0)), (1, .int x1), (2, .int x2)]) (st' := [.int v11]) (by decide +kernel) rfl ?_
      refine v_if_lt hC (off := 7) (tgt := 58) (by decide +kernel) (by decide) h (fun hq h => ?_) (fun hq h => ?_)
      · refine v_sub [0] (ls' := [(3, .int v11)]) rfl ?_
        exact (hB58 ) _ _ h
      · refine v_blk hC (is := [(.iload_n 2, 0)]) (pc' := 55) (ls' := [(3, .int v11), (0, .ref (ga G 0)), (1, .int x1), (2, .int x2)]) (st' := [.int x2]) (by decide +kernel) rfl ?_
        refine v_if_ne hC (off := 7) (tgt := 62) (by decide +kernel) (by decide) h (fun hq h => ?_) (fun hq h => ?_)
        · refine v_blk hC (is := [(.aload_n 0, 0)]) (pc' := 63) (ls' := [(3, .int v11), (0, .ref (ga G 0)), (1, .int x1), (2, .int x2)]) (st' := [.ref (ga G 0)]) (by decide +kernel) rfl ?_
          refine gX11_0 hC lfX11_10 (by decide +kernel) ?_
          refine v_blk hC (is := [(.iload_n 3, 0)]) (pc' := 67) (ls' := [(3, .int v11), (0, .ref (ga G 0)), (1, .int x1), (2, .int x2)]) (st' := [.int v11, .ref (ga G 1)]) (by decide +kernel) rfl ?_
          obtain ⟨v14, s15, e16, h⟩ := bndI h
          refine v_cVN (idx := 184) hC ⟨List.mem_of_getElem? (i := 52) (by decide +kernel), tiX3_payOf, tvX3_payOf, tnX3_payOf, tcX3_payOf, tmX3_payOf⟩ (isO_X3 cape1) rfl (c_X3_payOf cape1 e16) (by decide) (by decide) (by decide +kernel) (rest := []) rfl rfl (Nat.le_of_ble_eq_true rfl) rfl ?_
          exact v_iret hC h (by decide +kernel)
        · refine v_sub [0] (ls' := [(3, .int v11)]) rfl ?_
          exact (hB58 ) _ _ h
    · refine v_blk hC (is := [(.iconst (-1), (-1 : Int32))]) (pc' := 18) (ls' := [(0, .ref (ga G 0)), (1, .int x1), (2, .int x2)]) (st' := [.int (-1 : Int32)]) (by decide +kernel) rfl ?_
      exact v_iret hC h (by decide +kernel)

def p_X11_quarrels_B74 (k19 : Int32 → Int32 → Int32 → Mem → Option (Int32 × Mem))  (x1 : Int32) (x2 : Int32) (x3 : Int32) (σ : Mem) : Option (Int32 × Mem) := k19 x1 x2 (x3 + (1 : Int32)) σ
def p_X11_quarrels_B19 (k19 : Int32 → Int32 → Int32 → Mem → Option (Int32 × Mem)) (k80 : Int32 → Int32 → Mem → Option (Int32 × Mem))  (x1 : Int32) (x2 : Int32) (x3 : Int32) (σ : Mem) : Option (Int32 × Mem) := (lt (σ 1 5) fun v1 => (if v1 ≤ x3 then k80 x1 x2 σ else (bnd (p_X3_isLost 1 x2 σ) fun v2 s3 => (if v2 = 0 then (bnd (p_X3_isLost 1 x3 s3) fun v5 s6 => (if v5 = 0 then (lt (s6 1 7) fun v8 => (bnd (p_X3_agree 1 x2 x3 v8 s6) fun v9 s10 => (if v9 = 0 then (p_X11_quarrels_B74 k19) (x1 + (1 : Int32)) x2 x3 s10 else (p_X11_quarrels_B74 k19) x1 x2 x3 s10))) else (p_X11_quarrels_B74 k19) x1 x2 x3 s6)) else (p_X11_quarrels_B74 k19) x1 x2 x3 s3))))
def p_X11_quarrels_L19 (k80 : Int32 → Int32 → Mem → Option (Int32 × Mem))  : Nat → Int32 → Int32 → Int32 → Mem → Option (Int32 × Mem)
  | 0 => fun _ _ _ _ => none
  | f + 1 => p_X11_quarrels_B19 (p_X11_quarrels_L19 k80 f) k80
def p_X11_quarrels_B4 (k4 : Int32 → Int32 → Mem → Option (Int32 × Mem))  (x1 : Int32) (x2 : Int32) (σ : Mem) : Option (Int32 × Mem) := (lt (σ 1 5) fun v12 => (if v12 ≤ x2 then some (x1, σ) else (p_X11_quarrels_L19 (fun (x1 : Int32) (x2 : Int32) (m13 : Mem) => k4 x1 (x2 + (1 : Int32)) m13) 1000) x1 x2 (x2 + (1 : Int32)) σ))
def p_X11_quarrels_L4   : Nat → Int32 → Int32 → Mem → Option (Int32 × Mem)
  | 0 => fun _ _ _ => none
  | f + 1 => p_X11_quarrels_B4 (p_X11_quarrels_L4 f)
def p_X11_quarrels  (σ : Mem) : Option (Int32 × Mem) := (p_X11_quarrels_L4 1000) (0 : Int32) (0 : Int32) σ
set_option maxHeartbeats 4000000 in
set_option maxRecDepth 100000 in
theorem c_X11_quarrels {G : Gl}  {σ : Mem} {res : Int32 × Mem}  (h : p_X11_quarrels  σ = some res) : MetX G yX11_quarrels cX11_quarrels 4 (some .int) 3 [.ref (ga G 0)] σ (some (.int res.1)) res.2 := by
  refine met_V (by decide +kernel) (Nat.le_of_ble_eq_true rfl) (fun X hC => ?_)
  have hC : Ok G 3 4 X cX11_quarrels RX11 (some .int) := hC
  have hB74 : ∀ (k19 : Int32 → Int32 → Int32 → Mem → Option (Int32 × Mem)), (∀ (x1 : Int32), ∀ (x2 : Int32), ∀ (x3 : Int32), ∀ σ : Mem, k19 x1 x2 x3 σ = some res → V G 3 4 X ((some (.int res.1)), res.2) σ [(0, .ref (ga G 0)), (1, .int x1), (2, .int x2), (3, .int x3)] [] 19) → ∀ (x1 : Int32), ∀ (x2 : Int32), ∀ (x3 : Int32), ∀ σ : Mem, p_X11_quarrels_B74 k19  x1 x2 x3 σ = some res → V G 3 4 X ((some (.int res.1)), res.2) σ [(0, .ref (ga G 0)), (1, .int x1), (2, .int x2), (3, .int x3)] [] 74 := by
    intro k19 hk19 x1 x2 x3 σ h
    unfold p_X11_quarrels_B74 at h
    refine v_blk hC (is := [(.iinc 3 1, (1 : Int32))]) (pc' := 77) (ls' := [(3, .int (x3 + (1 : Int32))), (0, .ref (ga G 0)), (1, .int x1), (2, .int x2)]) (st' := []) (by decide +kernel) rfl ?_
    refine v_goto hC (off := (-58)) (tgt := 19) (by decide +kernel) (by decide) ?_
    refine v_sub [1, 2, 3, 0] (ls' := [(0, .ref (ga G 0)), (1, .int x1), (2, .int x2), (3, .int (x3 + (1 : Int32)))]) rfl ?_
    exact hk19 _ _ _ _ h
  have hB19 : ∀ (k19 : Int32 → Int32 → Int32 → Mem → Option (Int32 × Mem)), ∀ (k80 : Int32 → Int32 → Mem → Option (Int32 × Mem)), (∀ (x1 : Int32), ∀ (x2 : Int32), ∀ (x3 : Int32), ∀ σ : Mem, k19 x1 x2 x3 σ = some res → V G 3 4 X ((some (.int res.1)), res.2) σ [(0, .ref (ga G 0)), (1, .int x1), (2, .int x2), (3, .int x3)] [] 19) → (∀ (x1 : Int32), ∀ (x2 : Int32), ∀ σ : Mem, k80 x1 x2 σ = some res → V G 3 4 X ((some (.int res.1)), res.2) σ [(0, .ref (ga G 0)), (1, .int x1), (2, .int x2)] [] 80) → ∀ (x1 : Int32), ∀ (x2 : Int32), ∀ (x3 : Int32), ∀ σ : Mem, p_X11_quarrels_B19 k19 k80  x1 x2 x3 σ = some res → V G 3 4 X ((some (.int res.1)), res.2) σ [(0, .ref (ga G 0)), (1, .int x1), (2, .int x2), (3, .int x3)] [] 19 := by
    intro k19 k80 hk19 hk80 x1 x2 x3 σ h
    unfold p_X11_quarrels_B19 at h
    refine v_blk hC (is := [(.iload_n 3, 0), (.aload_n 0, 0)]) (pc' := 21) (ls' := [(0, .ref (ga G 0)), (1, .int x1), (2, .int x2), (3, .int x3)]) (st' := [.ref (ga G 0), .int x3]) (by decide +kernel) rfl ?_
    refine gX11_0 hC lfX11_10 (by decide +kernel) ?_
    refine gX3_5 hC cape1 lfX11_187 (by decide +kernel) h (fun v1 h => ?_)
    refine v_icmp_ge hC (off := 53) (tgt := 80) (by decide +kernel) (by decide) h (fun hq h => ?_) (fun hq h => ?_)
    · refine v_sub [0, 1, 2] (ls' := [(0, .ref (ga G 0)), (1, .int x1), (2, .int x2)]) rfl ?_
      exact hk80 _ _ _ h
    · refine v_blk hC (is := [(.aload_n 0, 0)]) (pc' := 31) (ls' := [(0, .ref (ga G 0)), (1, .int x1), (2, .int x2), (3, .int x3)]) (st' := [.ref (ga G 0)]) (by decide +kernel) rfl ?_
      refine gX11_0 hC lfX11_10 (by decide +kernel) ?_
      refine v_blk hC (is := [(.iload_n 2, 0)]) (pc' := 35) (ls' := [(0, .ref (ga G 0)), (1, .int x1), (2, .int x2), (3, .int x3)]) (st' := [.int x2, .ref (ga G 1)]) (by decide +kernel) rfl ?_
      obtain ⟨v2, s3, e4, h⟩ := bndI h
      refine v_cVN (idx := 77) hC ⟨List.mem_of_getElem? (i := 28) (by decide +kernel), tiX3_isLost, tvX3_isLost, tnX3_isLost, tcX3_isLost, tmX3_isLost⟩ (isO_X3 cape1) rfl (c_X3_isLost cape1 e4) (by decide) (by decide) (by decide +kernel) (rest := []) rfl rfl (Nat.le_of_ble_eq_true rfl) rfl ?_
      refine v_if_ne hC (off := 36) (tgt := 74) (by decide +kernel) (by decide) h (fun hq h => ?_) (fun hq h => ?_)
      · exact (hB74 _ hk19) _ _ _ _ h
      · refine v_blk hC (is := [(.aload_n 0, 0)]) (pc' := 42) (ls' := [(0, .ref (ga G 0)), (1, .int x1), (2, .int x2), (3, .int x3)]) (st' := [.ref (ga G 0)]) (by decide +kernel) rfl ?_
        refine gX11_0 hC lfX11_10 (by decide +kernel) ?_
        refine v_blk hC (is := [(.iload_n 3, 0)]) (pc' := 46) (ls' := [(0, .ref (ga G 0)), (1, .int x1), (2, .int x2), (3, .int x3)]) (st' := [.int x3, .ref (ga G 1)]) (by decide +kernel) rfl ?_
        obtain ⟨v5, s6, e7, h⟩ := bndI h
        refine v_cVN (idx := 77) hC ⟨List.mem_of_getElem? (i := 28) (by decide +kernel), tiX3_isLost, tvX3_isLost, tnX3_isLost, tcX3_isLost, tmX3_isLost⟩ (isO_X3 cape1) rfl (c_X3_isLost cape1 e7) (by decide) (by decide) (by decide +kernel) (rest := []) rfl rfl (Nat.le_of_ble_eq_true rfl) rfl ?_
        refine v_if_ne hC (off := 25) (tgt := 74) (by decide +kernel) (by decide) h (fun hq h => ?_) (fun hq h => ?_)
        · exact (hB74 _ hk19) _ _ _ _ h
        · refine v_blk hC (is := [(.aload_n 0, 0)]) (pc' := 53) (ls' := [(0, .ref (ga G 0)), (1, .int x1), (2, .int x2), (3, .int x3)]) (st' := [.ref (ga G 0)]) (by decide +kernel) rfl ?_
          refine gX11_0 hC lfX11_10 (by decide +kernel) ?_
          refine v_blk hC (is := [(.iload_n 2, 0), (.iload_n 3, 0), (.aload_n 0, 0)]) (pc' := 59) (ls' := [(0, .ref (ga G 0)), (1, .int x1), (2, .int x2), (3, .int x3)]) (st' := [.ref (ga G 0), .int x3, .int x2, .ref (ga G 1)]) (by decide +kernel) rfl ?_
          refine gX11_0 hC lfX11_10 (by decide +kernel) ?_
          refine gX3_7 hC cape1 lfX11_128 (by decide +kernel) h (fun v8 h => ?_)
          obtain ⟨v9, s10, e11, h⟩ := bndI h
          refine v_cVN (idx := 131) hC ⟨List.mem_of_getElem? (i := 36) (by decide +kernel), tiX3_agree, tvX3_agree, tnX3_agree, tcX3_agree, tmX3_agree⟩ (isO_X3 cape1) rfl (c_X3_agree cape1 e11) (by decide) (by decide) (by decide +kernel) (rest := []) rfl rfl (Nat.le_of_ble_eq_true rfl) rfl ?_
          refine v_if_ne hC (off := 6) (tgt := 74) (by decide +kernel) (by decide) h (fun hq h => ?_) (fun hq h => ?_)
          · exact (hB74 _ hk19) _ _ _ _ h
          · refine v_blk hC (is := [(.iinc 1 1, (1 : Int32))]) (pc' := 74) (ls' := [(1, .int (x1 + (1 : Int32))), (0, .ref (ga G 0)), (2, .int x2), (3, .int x3)]) (st' := []) (by decide +kernel) rfl ?_
            refine v_sub [1, 0, 2, 3] (ls' := [(0, .ref (ga G 0)), (1, .int (x1 + (1 : Int32))), (2, .int x2), (3, .int x3)]) rfl ?_
            exact (hB74 _ hk19) _ _ _ _ h
  have hL19 : ∀ (k80 : Int32 → Int32 → Mem → Option (Int32 × Mem)), (∀ (x1 : Int32), ∀ (x2 : Int32), ∀ σ : Mem, k80 x1 x2 σ = some res → V G 3 4 X ((some (.int res.1)), res.2) σ [(0, .ref (ga G 0)), (1, .int x1), (2, .int x2)] [] 80) → ∀ f : Nat, ∀ (x1 : Int32), ∀ (x2 : Int32), ∀ (x3 : Int32), ∀ σ : Mem, p_X11_quarrels_L19 k80  f x1 x2 x3 σ = some res → V G 3 4 X ((some (.int res.1)), res.2) σ [(0, .ref (ga G 0)), (1, .int x1), (2, .int x2), (3, .int x3)] [] 19 := by
    intro k80 hk80 f
    induction f with
    | zero => intro x1 x2 x3 σ h; exact none_some h
    | succ f ih => intro x1 x2 x3 σ h; exact hB19 (p_X11_quarrels_L19 k80  f) k80 ih hk80 x1 x2 x3 σ h
  have hB4 : ∀ (k4 : Int32 → Int32 → Mem → Option (Int32 × Mem)), (∀ (x1 : Int32), ∀ (x2 : Int32), ∀ σ : Mem, k4 x1 x2 σ = some res → V G 3 4 X ((some (.int res.1)), res.2) σ [(0, .ref (ga G 0)), (1, .int x1), (2, .int x2)] [] 4) → ∀ (x1 : Int32), ∀ (x2 : Int32), ∀ σ : Mem, p_X11_quarrels_B4 k4  x1 x2 σ = some res → V G 3 4 X ((some (.int res.1)), res.2) σ [(0, .ref (ga G 0)), (1, .int x1), (2, .int x2)] [] 4 := by
    intro k4 hk4 x1 x2 σ h
    unfold p_X11_quarrels_B4 at h
    refine v_blk hC (is := [(.iload_n 2, 0), (.aload_n 0, 0)]) (pc' := 6) (ls' := [(0, .ref (ga G 0)), (1, .int x1), (2, .int x2)]) (st' := [.ref (ga G 0), .int x2]) (by decide +kernel) rfl ?_
    refine gX11_0 hC lfX11_10 (by decide +kernel) ?_
    refine gX3_5 hC cape1 lfX11_187 (by decide +kernel) h (fun v12 h => ?_)
    refine v_icmp_ge hC (off := 74) (tgt := 86) (by decide +kernel) (by decide) h (fun hq h => ?_) (fun hq h => ?_)
    · refine v_blk hC (is := [(.iload_n 1, 0)]) (pc' := 87) (ls' := [(0, .ref (ga G 0)), (1, .int x1), (2, .int x2)]) (st' := [.int x1]) (by decide +kernel) rfl ?_
      exact v_iret hC h (by decide +kernel)
    · refine v_blk hC (is := [(.iload_n 2, 0), (.iconst 1, (1 : Int32)), (.iadd, 0), (.istore_n 3, 0)]) (pc' := 19) (ls' := [(3, .int (x2 + (1 : Int32))), (0, .ref (ga G 0)), (1, .int x1), (2, .int x2)]) (st' := []) (by decide +kernel) rfl ?_
      refine v_sub [1, 2, 3, 0] (ls' := [(0, .ref (ga G 0)), (1, .int x1), (2, .int x2), (3, .int (x2 + (1 : Int32)))]) rfl ?_
      exact (hL19 _ (fun x1 x2  m13 h => by
            refine v_blk hC (is := [(.iinc 2 1, (1 : Int32))]) (pc' := 83) (ls' := [(2, .int (x2 + (1 : Int32))), (0, .ref (ga G 0)), (1, .int x1)]) (st' := []) (by decide +kernel) rfl ?_
            refine v_goto hC (off := (-79)) (tgt := 4) (by decide +kernel) (by decide) ?_
            refine v_sub [1, 2, 0] (ls' := [(0, .ref (ga G 0)), (1, .int x1), (2, .int (x2 + (1 : Int32)))]) rfl ?_
            exact hk4 _ _ _ h) 1000) _ _ _ _ h
  have hL4 : ∀ f : Nat, ∀ (x1 : Int32), ∀ (x2 : Int32), ∀ σ : Mem, p_X11_quarrels_L4  f x1 x2 σ = some res → V G 3 4 X ((some (.int res.1)), res.2) σ [(0, .ref (ga G 0)), (1, .int x1), (2, .int x2)] [] 4 := by
    intro  f
    induction f with
    | zero => intro x1 x2 σ h; exact none_some h
    | succ f ih => intro x1 x2 σ h; exact hB4 (p_X11_quarrels_L4  f)  ih  x1 x2 σ h
  unfold p_X11_quarrels at h
  show V G 3 4 X ((some (.int res.1)), res.2) σ [(0, .ref (ga G 0))] [] 0
  refine v_blk hC (is := [(.iconst 0, (0 : Int32)), (.istore_n 1, 0), (.iconst 0, (0 : Int32)), (.istore_n 2, 0)]) (pc' := 4) (ls' := [(2, .int (0 : Int32)), (1, .int (0 : Int32)), (0, .ref (ga G 0))]) (st' := []) (by decide +kernel) rfl ?_
  refine v_sub [2, 1, 0] (ls' := [(0, .ref (ga G 0)), (1, .int (0 : Int32)), (2, .int (0 : Int32))]) rfl ?_
  exact (hL4 1000) _ _ _ h

def p_X11_strictest_B14 (k14 : Int32 → Mem → Option (Int32 × Mem)) (x1 : Int32) (x2 : Int32) (σ : Mem) : Option (Int32 × Mem) := (if (4 : Int32) ≤ x2 then some ((-4 : Int32), σ) else (bnd (p_X4_lookAt 1 x2 σ) fun (v1 : Unit) s2 => (bnd (p_X4_greatest s2) fun v4 s5 => (bnd (p_J6_bitCount_0f7a4 v4 s5) fun v7 s8 => (if v7 < x1 then k14 (x2 + (1 : Int32)) s8 else some (x2, s8))))))
def p_X11_strictest_L14  (x1 : Int32) : Nat → Int32 → Mem → Option (Int32 × Mem)
  | 0 => fun _ _ => none
  | f + 1 => p_X11_strictest_B14 (p_X11_strictest_L14 x1 f) x1
def p_X11_strictest (x1 : Int32) (σ : Mem) : Option (Int32 × Mem) := (bnd (p_X11_within x1 (1 : Int32) (8 : Int32) σ) fun v10 s11 => (if v10 = 0 then some ((-1 : Int32), s11) else (p_X11_strictest_L14 x1 1000) (0 : Int32) s11))
set_option maxHeartbeats 4000000 in
set_option maxRecDepth 100000 in
theorem c_X11_strictest {G : Gl} {x1 : Int32} {σ : Mem} {res : Int32 × Mem}  (h : p_X11_strictest x1 σ = some res) : MetX G yX11_strictest cX11_strictest 3 (some .int) 5 [.ref (ga G 0), .int x1] σ (some (.int res.1)) res.2 := by
  refine met_V (by decide +kernel) (Nat.le_of_ble_eq_true rfl) (fun X hC => ?_)
  have hC : Ok G 5 3 X cX11_strictest RX11 (some .int) := hC
  have hB14 : ∀ (k14 : Int32 → Mem → Option (Int32 × Mem)), (∀ (x2 : Int32), ∀ σ : Mem, k14 x2 σ = some res → V G 5 3 X ((some (.int res.1)), res.2) σ [(0, .ref (ga G 0)), (1, .int x1), (2, .int x2)] [] 14) → ∀ (x2 : Int32), ∀ σ : Mem, p_X11_strictest_B14 k14 x1 x2 σ = some res → V G 5 3 X ((some (.int res.1)), res.2) σ [(0, .ref (ga G 0)), (1, .int x1), (2, .int x2)] [] 14 := by
    intro k14 hk14 x2 σ h
    unfold p_X11_strictest_B14 at h
    refine v_blk hC (is := [(.iload_n 2, 0), (.iconst 4, (4 : Int32))]) (pc' := 16) (ls' := [(0, .ref (ga G 0)), (1, .int x1), (2, .int x2)]) (st' := [.int (4 : Int32), .int x2]) (by decide +kernel) rfl ?_
    refine v_icmp_ge hC (off := 37) (tgt := 53) (by decide +kernel) (by decide) h (fun hq h => ?_) (fun hq h => ?_)
    · refine v_blk hC (is := [(.bipush (-4), (-4 : Int32))]) (pc' := 55) (ls' := [(0, .ref (ga G 0)), (1, .int x1), (2, .int x2)]) (st' := [.int (-4 : Int32)]) (by decide +kernel) rfl ?_
      exact v_iret hC h (by decide +kernel)
    · refine v_blk hC (is := [(.aload_n 0, 0)]) (pc' := 20) (ls' := [(0, .ref (ga G 0)), (1, .int x1), (2, .int x2)]) (st' := [.ref (ga G 0)]) (by decide +kernel) rfl ?_
      refine gX11_3 hC lfX11_25 (by decide +kernel) ?_
      refine v_blk hC (is := [(.aload_n 0, 0)]) (pc' := 24) (ls' := [(0, .ref (ga G 0)), (1, .int x1), (2, .int x2)]) (st' := [.ref (ga G 0), .ref (ga G 4)]) (by decide +kernel) rfl ?_
      refine gX11_0 hC lfX11_10 (by decide +kernel) ?_
      refine v_blk hC (is := [(.iload_n 2, 0)]) (pc' := 28) (ls' := [(0, .ref (ga G 0)), (1, .int x1), (2, .int x2)]) (st' := [.int x2, .ref (ga G 1), .ref (ga G 4)]) (by decide +kernel) rfl ?_
      obtain ⟨v1, s2, e3, h⟩ := bndI h
      refine v_cVN (idx := 141) hC ⟨List.mem_of_getElem? (i := 38) (by decide +kernel), tiX4_lookAt, tvX4_lookAt, tnX4_lookAt, tcX4_lookAt, tmX4_lookAt⟩ isO_X4 rfl (c_X4_lookAt cape1 e3) (by decide) (by decide) (by decide +kernel) (rest := []) rfl rfl (Nat.le_of_ble_eq_true rfl) rfl ?_
      refine v_blk hC (is := [(.aload_n 0, 0)]) (pc' := 32) (ls' := [(0, .ref (ga G 0)), (1, .int x1), (2, .int x2)]) (st' := [.ref (ga G 0)]) (by decide +kernel) rfl ?_
      refine gX11_3 hC lfX11_25 (by decide +kernel) ?_
      obtain ⟨v4, s5, e6, h⟩ := bndI h
      refine v_cVN (idx := 154) hC ⟨List.mem_of_getElem? (i := 44) (by decide +kernel), tiX4_greatest, tvX4_greatest, tnX4_greatest, tcX4_greatest, tmX4_greatest⟩ isO_X4 rfl (c_X4_greatest e6) (by decide) (by decide) (by decide +kernel) (rest := []) rfl rfl (Nat.le_of_ble_eq_true rfl) rfl ?_
      obtain ⟨v7, s8, e9, h⟩ := bndI h
      refine v_cS (idx := 157) hC ⟨tt_at 626 (by decide +kernel) rfl, tsJ6_bitCount_0f7a4, tnJ6_bitCount_0f7a4, tcJ6_bitCount_0f7a4, tmJ6_bitCount_0f7a4⟩ (c_J6_bitCount_0f7a4 e9) (by decide) (by decide) (by decide +kernel) (rest := []) rfl rfl (Nat.le_of_ble_eq_true rfl) rfl ?_
      refine v_blk hC (is := [(.iload_n 1, 0)]) (pc' := 42) (ls' := [(0, .ref (ga G 0)), (1, .int x1), (2, .int x2)]) (st' := [.int x1, .int v7]) (by decide +kernel) rfl ?_
      refine v_icmp_lt hC (off := 5) (tgt := 47) (by decide +kernel) (by decide) h (fun hq h => ?_) (fun hq h => ?_)
      · refine v_blk hC (is := [(.iinc 2 1, (1 : Int32))]) (pc' := 50) (ls' := [(2, .int (x2 + (1 : Int32))), (0, .ref (ga G 0)), (1, .int x1)]) (st' := []) (by decide +kernel) rfl ?_
        refine v_goto hC (off := (-36)) (tgt := 14) (by decide +kernel) (by decide) ?_
        refine v_sub [1, 2, 0] (ls' := [(0, .ref (ga G 0)), (1, .int x1), (2, .int (x2 + (1 : Int32)))]) rfl ?_
        exact hk14 _ _ h
      · refine v_blk hC (is := [(.iload_n 2, 0)]) (pc' := 46) (ls' := [(0, .ref (ga G 0)), (1, .int x1), (2, .int x2)]) (st' := [.int x2]) (by decide +kernel) rfl ?_
        exact v_iret hC h (by decide +kernel)
  have hL14 : ∀ f : Nat, ∀ (x2 : Int32), ∀ σ : Mem, p_X11_strictest_L14 x1 f x2 σ = some res → V G 5 3 X ((some (.int res.1)), res.2) σ [(0, .ref (ga G 0)), (1, .int x1), (2, .int x2)] [] 14 := by
    intro  f
    induction f with
    | zero => intro x2 σ h; exact none_some h
    | succ f ih => intro x2 σ h; exact hB14 (p_X11_strictest_L14 x1 f)  ih  x2 σ h
  unfold p_X11_strictest at h
  show V G 5 3 X ((some (.int res.1)), res.2) σ [(0, .ref (ga G 0)), (1, .int x1)] [] 0
  refine v_blk hC (is := [(.iload_n 1, 0), (.iconst 1, (1 : Int32)), (.bipush 8, (8 : Int32))]) (pc' := 4) (ls' := [(0, .ref (ga G 0)), (1, .int x1)]) (st' := [.int (8 : Int32), .int (1 : Int32), .int x1]) (by decide +kernel) rfl ?_
  obtain ⟨v10, s11, e12, h⟩ := bndI h
  refine v_cS (idx := 168) hC ⟨tt_at 300 (by decide +kernel) rfl, tsX11_within, tnX11_within, tcX11_within, tmX11_within⟩ (c_X11_within e12) (by decide) (by decide) (by decide +kernel) (rest := []) rfl rfl (Nat.le_of_ble_eq_true rfl) rfl ?_
  refine v_if_ne hC (off := 5) (tgt := 12) (by decide +kernel) (by decide) h (fun hq h => ?_) (fun hq h => ?_)
  · refine v_blk hC (is := [(.iconst 0, (0 : Int32)), (.istore_n 2, 0)]) (pc' := 14) (ls' := [(2, .int (0 : Int32)), (0, .ref (ga G 0)), (1, .int x1)]) (st' := []) (by decide +kernel) rfl ?_
    refine v_sub [1, 2, 0] (ls' := [(0, .ref (ga G 0)), (1, .int x1), (2, .int (0 : Int32))]) rfl ?_
    exact (hL14 1000) _ _ h
  · refine v_blk hC (is := [(.iconst (-1), (-1 : Int32))]) (pc' := 11) (ls' := [(0, .ref (ga G 0)), (1, .int x1)]) (st' := [.int (-1 : Int32)]) (by decide +kernel) rfl ?_
    exact v_iret hC h (by decide +kernel)

def p_X11_freeLaw_B42 (k19 : Int32 → Int32 → Mem → Option (Int32 × Mem)) (x1 : Int32) (x2 : Int32) (x3 : Int32) (x4 : Int32) (σ : Mem) : Option (Int32 × Mem) := k19 x3 (x4 + (1 : Int32)) σ
def p_X11_freeLaw_B19 (k19 : Int32 → Int32 → Mem → Option (Int32 × Mem)) (x1 : Int32) (x2 : Int32) (x3 : Int32) (x4 : Int32) (σ : Mem) : Option (Int32 × Mem) := (if (4 : Int32) ≤ x4 then some (x3, σ) else (bnd (p_X3_agree 1 x1 x2 x4 σ) fun v1 s2 => (if v1 = 0 then (p_X11_freeLaw_B42 k19 x1 x2) x3 x4 s2 else (p_X11_freeLaw_B42 k19 x1 x2) (x3 + (1 : Int32)) x4 s2)))
def p_X11_freeLaw_L19  (x1 : Int32) (x2 : Int32) : Nat → Int32 → Int32 → Mem → Option (Int32 × Mem)
  | 0 => fun _ _ _ => none
  | f + 1 => p_X11_freeLaw_B19 (p_X11_freeLaw_L19 x1 x2 f) x1 x2
def p_X11_freeLaw (x1 : Int32) (x2 : Int32) (σ : Mem) : Option (Int32 × Mem) := (bnd (p_X3_hasTwo 1 x1 x2 σ) fun v4 s5 => (if v4 = 0 then some ((-1 : Int32), s5) else (p_X11_freeLaw_L19 x1 x2 1000) (0 : Int32) (0 : Int32) s5))
set_option maxHeartbeats 4000000 in
set_option maxRecDepth 100000 in
theorem c_X11_freeLaw {G : Gl} {x1 : Int32} {x2 : Int32} {σ : Mem} {res : Int32 × Mem}  (h : p_X11_freeLaw x1 x2 σ = some res) : MetX G yX11_freeLaw cX11_freeLaw 5 (some .int) 3 [.ref (ga G 0), .int x1, .int x2] σ (some (.int res.1)) res.2 := by
  refine met_V (by decide +kernel) (Nat.le_of_ble_eq_true rfl) (fun X hC => ?_)
  have hC : Ok G 3 5 X cX11_freeLaw RX11 (some .int) := hC
  have hB42 : ∀ (k19 : Int32 → Int32 → Mem → Option (Int32 × Mem)), (∀ (x3 : Int32), ∀ (x4 : Int32), ∀ σ : Mem, k19 x3 x4 σ = some res → V G 3 5 X ((some (.int res.1)), res.2) σ [(0, .ref (ga G 0)), (1, .int x1), (2, .int x2), (3, .int x3), (4, .int x4)] [] 19) → ∀ (x3 : Int32), ∀ (x4 : Int32), ∀ σ : Mem, p_X11_freeLaw_B42 k19 x1 x2 x3 x4 σ = some res → V G 3 5 X ((some (.int res.1)), res.2) σ [(0, .ref (ga G 0)), (1, .int x1), (2, .int x2), (3, .int x3), (4, .int x4)] [] 42 := by
    intro k19 hk19 x3 x4 σ h
    unfold p_X11_freeLaw_B42 at h
    refine v_blk hC (is := [(.iinc 4 1, (1 : Int32))]) (pc' := 45) (ls' := [(4, .int (x4 + (1 : Int32))), (0, .ref (ga G 0)), (1, .int x1), (2, .int x2), (3, .int x3)]) (st' := []) (by decide +kernel) rfl ?_
    refine v_goto hC (off := (-26)) (tgt := 19) (by decide +kernel) (by decide) ?_
    refine v_sub [1, 2, 3, 4, 0] (ls' := [(0, .ref (ga G 0)), (1, .int x1), (2, .int x2), (3, .int x3), (4, .int (x4 + (1 : Int32)))]) rfl ?_
    exact hk19 _ _ _ h
  have hB19 : ∀ (k19 : Int32 → Int32 → Mem → Option (Int32 × Mem)), (∀ (x3 : Int32), ∀ (x4 : Int32), ∀ σ : Mem, k19 x3 x4 σ = some res → V G 3 5 X ((some (.int res.1)), res.2) σ [(0, .ref (ga G 0)), (1, .int x1), (2, .int x2), (3, .int x3), (4, .int x4)] [] 19) → ∀ (x3 : Int32), ∀ (x4 : Int32), ∀ σ : Mem, p_X11_freeLaw_B19 k19 x1 x2 x3 x4 σ = some res → V G 3 5 X ((some (.int res.1)), res.2) σ [(0, .ref (ga G 0)), (1, .int x1), (2, .int x2), (3, .int x3), (4, .int x4)] [] 19 := by
    intro k19 hk19 x3 x4 σ h
    unfold p_X11_freeLaw_B19 at h
    refine v_blk hC (is := [(.iload 4, 0), (.iconst 4, (4 : Int32))]) (pc' := 22) (ls' := [(0, .ref (ga G 0)), (1, .int x1), (2, .int x2), (3, .int x3), (4, .int x4)]) (st' := [.int (4 : Int32), .int x4]) (by decide +kernel) rfl ?_
    refine v_icmp_ge hC (off := 26) (tgt := 48) (by decide +kernel) (by decide) h (fun hq h => ?_) (fun hq h => ?_)
    · refine v_blk hC (is := [(.iload_n 3, 0)]) (pc' := 49) (ls' := [(0, .ref (ga G 0)), (1, .int x1), (2, .int x2), (3, .int x3), (4, .int x4)]) (st' := [.int x3]) (by decide +kernel) rfl ?_
      exact v_iret hC h (by decide +kernel)
    · refine v_blk hC (is := [(.aload_n 0, 0)]) (pc' := 26) (ls' := [(0, .ref (ga G 0)), (1, .int x1), (2, .int x2), (3, .int x3), (4, .int x4)]) (st' := [.ref (ga G 0)]) (by decide +kernel) rfl ?_
      refine gX11_0 hC lfX11_10 (by decide +kernel) ?_
      refine v_blk hC (is := [(.iload_n 1, 0), (.iload_n 2, 0), (.iload 4, 0)]) (pc' := 33) (ls' := [(0, .ref (ga G 0)), (1, .int x1), (2, .int x2), (3, .int x3), (4, .int x4)]) (st' := [.int x4, .int x2, .int x1, .ref (ga G 1)]) (by decide +kernel) rfl ?_
      obtain ⟨v1, s2, e3, h⟩ := bndI h
      refine v_cVN (idx := 131) hC ⟨List.mem_of_getElem? (i := 36) (by decide +kernel), tiX3_agree, tvX3_agree, tnX3_agree, tcX3_agree, tmX3_agree⟩ (isO_X3 cape1) rfl (c_X3_agree cape1 e3) (by decide) (by decide) (by decide +kernel) (rest := []) rfl rfl (Nat.le_of_ble_eq_true rfl) rfl ?_
      refine v_if_eq hC (off := 6) (tgt := 42) (by decide +kernel) (by decide) h (fun hq h => ?_) (fun hq h => ?_)
      · exact (hB42 _ hk19) _ _ _ h
      · refine v_blk hC (is := [(.iinc 3 1, (1 : Int32))]) (pc' := 42) (ls' := [(3, .int (x3 + (1 : Int32))), (0, .ref (ga G 0)), (1, .int x1), (2, .int x2), (4, .int x4)]) (st' := []) (by decide +kernel) rfl ?_
        refine v_sub [1, 2, 3, 0, 4] (ls' := [(0, .ref (ga G 0)), (1, .int x1), (2, .int x2), (3, .int (x3 + (1 : Int32))), (4, .int x4)]) rfl ?_
        exact (hB42 _ hk19) _ _ _ h
  have hL19 : ∀ f : Nat, ∀ (x3 : Int32), ∀ (x4 : Int32), ∀ σ : Mem, p_X11_freeLaw_L19 x1 x2 f x3 x4 σ = some res → V G 3 5 X ((some (.int res.1)), res.2) σ [(0, .ref (ga G 0)), (1, .int x1), (2, .int x2), (3, .int x3), (4, .int x4)] [] 19 := by
    intro  f
    induction f with
    | zero => intro x3 x4 σ h; exact none_some h
    | succ f ih => intro x3 x4 σ h; exact hB19 (p_X11_freeLaw_L19 x1 x2 f)  ih  x3 x4 σ h
  unfold p_X11_freeLaw at h
  show V G 3 5 X ((some (.int res.1)), res.2) σ [(0, .ref (ga G 0)), (1, .int x1), (2, .int x2)] [] 0
  refine v_blk hC (is := [(.aload_n 0, 0)]) (pc' := 1) (ls' := [(0, .ref (ga G 0)), (1, .int x1), (2, .int x2)]) (st' := [.ref (ga G 0)]) (by decide +kernel) rfl ?_
  refine gX11_0 hC lfX11_10 (by decide +kernel) ?_
  refine v_blk hC (is := [(.iload_n 1, 0), (.iload_n 2, 0)]) (pc' := 6) (ls' := [(0, .ref (ga G 0)), (1, .int x1), (2, .int x2)]) (st' := [.int x2, .int x1, .ref (ga G 1)]) (by decide +kernel) rfl ?_
  obtain ⟨v4, s5, e6, h⟩ := bndI h
  refine v_cVN (idx := 101) hC ⟨List.mem_of_getElem? (i := 30) (by decide +kernel), tiX3_hasTwo, tvX3_hasTwo, tnX3_hasTwo, tcX3_hasTwo, tmX3_hasTwo⟩ (isO_X3 cape1) rfl (c_X3_hasTwo cape1 e6) (by decide) (by decide) (by decide +kernel) (rest := []) rfl rfl (Nat.le_of_ble_eq_true rfl) rfl ?_
  refine v_if_ne hC (off := 5) (tgt := 14) (by decide +kernel) (by decide) h (fun hq h => ?_) (fun hq h => ?_)
  · refine v_blk hC (is := [(.iconst 0, (0 : Int32)), (.istore_n 3, 0), (.iconst 0, (0 : Int32)), (.istore 4, 0)]) (pc' := 19) (ls' := [(4, .int (0 : Int32)), (3, .int (0 : Int32)), (0, .ref (ga G 0)), (1, .int x1), (2, .int x2)]) (st' := []) (by decide +kernel) rfl ?_
    refine v_sub [2, 3, 4, 1, 0] (ls' := [(0, .ref (ga G 0)), (1, .int x1), (2, .int x2), (3, .int (0 : Int32)), (4, .int (0 : Int32))]) rfl ?_
    exact (hL19 1000) _ _ _ h
  · refine v_blk hC (is := [(.iconst (-1), (-1 : Int32))]) (pc' := 13) (ls' := [(0, .ref (ga G 0)), (1, .int x1), (2, .int x2)]) (st' := [.int (-1 : Int32)]) (by decide +kernel) rfl ?_
    exact v_iret hC h (by decide +kernel)

def p_X11_owed (x1 : Int32) (σ : Mem) : Option (Int32 × Mem) := (bnd (p_X3_has 1 x1 σ) fun v1 s2 => (if v1 = 0 then some ((-1 : Int32), s2) else (bnd (p_X3_savedBy 1 x1 s2) fun v4 s5 => (bnd (p_J6_bitCount_0f7a4 v4 s5) fun v7 s8 => some (v7, s8)))))
set_option maxHeartbeats 4000000 in
set_option maxRecDepth 100000 in
theorem c_X11_owed {G : Gl} {x1 : Int32} {σ : Mem} {res : Int32 × Mem}  (h : p_X11_owed x1 σ = some res) : MetX G yX11_owed cX11_owed 2 (some .int) 3 [.ref (ga G 0), .int x1] σ (some (.int res.1)) res.2 := by
  refine met_V (by decide +kernel) (Nat.le_of_ble_eq_true rfl) (fun X hC => ?_)
  have hC : Ok G 3 2 X cX11_owed RX11 (some .int) := hC
  unfold p_X11_owed at h
  show V G 3 2 X ((some (.int res.1)), res.2) σ [(0, .ref (ga G 0)), (1, .int x1)] [] 0
  refine v_blk hC (is := [(.aload_n 0, 0)]) (pc' := 1) (ls' := [(0, .ref (ga G 0)), (1, .int x1)]) (st' := [.ref (ga G 0)]) (by decide +kernel) rfl ?_
  refine gX11_0 hC lfX11_10 (by decide +kernel) ?_
  refine v_blk hC (is := [(.iload_n 1, 0)]) (pc' := 5) (ls' := [(0, .ref (ga G 0)), (1, .int x1)]) (st' := [.int x1, .ref (ga G 1)]) (by decide +kernel) rfl ?_
  obtain ⟨v1, s2, e3, h⟩ := bndI h
  refine v_cVN (idx := 63) hC ⟨List.mem_of_getElem? (i := 27) (by decide +kernel), tiX3_has, tvX3_has, tnX3_has, tcX3_has, tmX3_has⟩ (isO_X3 cape1) rfl (c_X3_has cape1 e3) (by decide) (by decide) (by decide +kernel) (rest := []) rfl rfl (Nat.le_of_ble_eq_true rfl) rfl ?_
  refine v_if_eq hC (off := 17) (tgt := 25) (by decide +kernel) (by decide) h (fun hq h => ?_) (fun hq h => ?_)
  · refine v_blk hC (is := [(.iconst (-1), (-1 : Int32))]) (pc' := 26) (ls' := [(0, .ref (ga G 0)), (1, .int x1)]) (st' := [.int (-1 : Int32)]) (by decide +kernel) rfl ?_
    exact v_iret hC h (by decide +kernel)
  · refine v_blk hC (is := [(.aload_n 0, 0)]) (pc' := 12) (ls' := [(0, .ref (ga G 0)), (1, .int x1)]) (st' := [.ref (ga G 0)]) (by decide +kernel) rfl ?_
    refine gX11_0 hC lfX11_10 (by decide +kernel) ?_
    refine v_blk hC (is := [(.iload_n 1, 0)]) (pc' := 16) (ls' := [(0, .ref (ga G 0)), (1, .int x1)]) (st' := [.int x1, .ref (ga G 1)]) (by decide +kernel) rfl ?_
    obtain ⟨v4, s5, e6, h⟩ := bndI h
    refine v_cVN (idx := 188) hC ⟨List.mem_of_getElem? (i := 53) (by decide +kernel), tiX3_savedBy, tvX3_savedBy, tnX3_savedBy, tcX3_savedBy, tmX3_savedBy⟩ (isO_X3 cape1) rfl (c_X3_savedBy cape1 e6) (by decide) (by decide) (by decide +kernel) (rest := []) rfl rfl (Nat.le_of_ble_eq_true rfl) rfl ?_
    obtain ⟨v7, s8, e9, h⟩ := bndI h
    refine v_cS (idx := 157) hC ⟨tt_at 626 (by decide +kernel) rfl, tsJ6_bitCount_0f7a4, tnJ6_bitCount_0f7a4, tcJ6_bitCount_0f7a4, tmJ6_bitCount_0f7a4⟩ (c_J6_bitCount_0f7a4 e9) (by decide) (by decide) (by decide +kernel) (rest := []) rfl rfl (Nat.le_of_ble_eq_true rfl) rfl ?_
    refine v_goto hC (off := 4) (tgt := 26) (by decide +kernel) (by decide) ?_
    exact v_iret hC h (by decide +kernel)

def p_X11_mostOwed_B42 (k7 : Int32 → Int32 → Int32 → Mem → Option (Int32 × Mem))  (x1 : Int32) (x2 : Int32) (x3 : Int32) (σ : Mem) : Option (Int32 × Mem) := k7 x1 x2 (x3 + (1 : Int32)) σ
def p_X11_mostOwed_B7 (k7 : Int32 → Int32 → Int32 → Mem → Option (Int32 × Mem))  (x1 : Int32) (x2 : Int32) (x3 : Int32) (σ : Mem) : Option (Int32 × Mem) := (lt (σ 1 5) fun v1 => (if v1 ≤ x3 then some (x1, σ) else (bnd (p_X3_savedBy 1 x3 σ) fun v2 s3 => (bnd (p_J6_bitCount_0f7a4 v2 s3) fun v5 s6 => (if v5 ≤ x2 then (p_X11_mostOwed_B42 k7) x1 x2 x3 s6 else (p_X11_mostOwed_B42 k7) x3 v5 x3 s6)))))
def p_X11_mostOwed_L7   : Nat → Int32 → Int32 → Int32 → Mem → Option (Int32 × Mem)
  | 0 => fun _ _ _ _ => none
  | f + 1 => p_X11_mostOwed_B7 (p_X11_mostOwed_L7 f)
def p_X11_mostOwed  (σ : Mem) : Option (Int32 × Mem) := (p_X11_mostOwed_L7 1000) (-4 : Int32) (0 : Int32) (0 : Int32) σ
set_option maxHeartbeats 4000000 in
set_option maxRecDepth 100000 in
theorem c_X11_mostOwed {G : Gl}  {σ : Mem} {res : Int32 × Mem}  (h : p_X11_mostOwed  σ = some res) : MetX G yX11_mostOwed cX11_mostOwed 5 (some .int) 3 [.ref (ga G 0)] σ (some (.int res.1)) res.2 := by
  refine met_V (by decide +kernel) (Nat.le_of_ble_eq_true rfl) (fun X hC => ?_)
  have hC : Ok G 3 5 X cX11_mostOwed RX11 (some .int) := hC
  have hB42 : ∀ (k7 : Int32 → Int32 → Int32 → Mem → Option (Int32 × Mem)), (∀ (x1 : Int32), ∀ (x2 : Int32), ∀ (x3 : Int32), ∀ σ : Mem, k7 x1 x2 x3 σ = some res → V G 3 5 X ((some (.int res.1)), res.2) σ [(0, .ref (ga G 0)), (1, .int x1), (2, .int x2), (3, .int x3)] [] 7) → ∀ (x1 : Int32), ∀ (x2 : Int32), ∀ (x3 : Int32), ∀ σ : Mem, p_X11_mostOwed_B42 k7  x1 x2 x3 σ = some res → V G 3 5 X ((some (.int res.1)), res.2) σ [(0, .ref (ga G 0)), (1, .int x1), (2, .int x2), (3, .int x3)] [] 42 := by
    intro k7 hk7 x1 x2 x3 σ h
    unfold p_X11_mostOwed_B42 at h
    refine v_blk hC (is := [(.iinc 3 1, (1 : Int32))]) (pc' := 45) (ls' := [(3, .int (x3 + (1 : Int32))), (0, .ref (ga G 0)), (1, .int x1), (2, .int x2)]) (st' := []) (by decide +kernel) rfl ?_
    refine v_goto hC (off := (-38)) (tgt := 7) (by decide +kernel) (by decide) ?_
    refine v_sub [1, 2, 3, 0] (ls' := [(0, .ref (ga G 0)), (1, .int x1), (2, .int x2), (3, .int (x3 + (1 : Int32)))]) rfl ?_
    exact hk7 _ _ _ _ h
  have hB7 : ∀ (k7 : Int32 → Int32 → Int32 → Mem → Option (Int32 × Mem)), (∀ (x1 : Int32), ∀ (x2 : Int32), ∀ (x3 : Int32), ∀ σ : Mem, k7 x1 x2 x3 σ = some res → V G 3 5 X ((some (.int res.1)), res.2) σ [(0, .ref (ga G 0)), (1, .int x1), (2, .int x2), (3, .int x3)] [] 7) → ∀ (x1 : Int32), ∀ (x2 : Int32), ∀ (x3 : Int32), ∀ σ : Mem, p_X11_mostOwed_B7 k7  x1 x2 x3 σ = some res → V G 3 5 X ((some (.int res.1)), res.2) σ [(0, .ref (ga G 0)), (1, .int x1), (2, .int x2), (3, .int x3)] [] 7 := by
    intro k7 hk7 x1 x2 x3 σ h
    unfold p_X11_mostOwed_B7 at h
    refine v_blk hC (is := [(.iload_n 3, 0), (.aload_n 0, 0)]) (pc' := 9) (ls' := [(0, .ref (ga G 0)), (1, .int x1), (2, .int x2), (3, .int x3)]) (st' := [.ref (ga G 0), .int x3]) (by decide +kernel) rfl ?_
    refine gX11_0 hC lfX11_10 (by decide +kernel) ?_
    refine gX3_5 hC cape1 lfX11_187 (by decide +kernel) h (fun v1 h => ?_)
    refine v_icmp_ge hC (off := 33) (tgt := 48) (by decide +kernel) (by decide) h (fun hq h => ?_) (fun hq h => ?_)
    · refine v_blk hC (is := [(.iload_n 1, 0)]) (pc' := 49) (ls' := [(0, .ref (ga G 0)), (1, .int x1), (2, .int x2), (3, .int x3)]) (st' := [.int x1]) (by decide +kernel) rfl ?_
      exact v_iret hC h (by decide +kernel)
    · refine v_blk hC (is := [(.aload_n 0, 0)]) (pc' := 19) (ls' := [(0, .ref (ga G 0)), (1, .int x1), (2, .int x2), (3, .int x3)]) (st' := [.ref (ga G 0)]) (by decide +kernel) rfl ?_
      refine gX11_0 hC lfX11_10 (by decide +kernel) ?_
      refine v_blk hC (is := [(.iload_n 3, 0)]) (pc' := 23) (ls' := [(0, .ref (ga G 0)), (1, .int x1), (2, .int x2), (3, .int x3)]) (st' := [.int x3, .ref (ga G 1)]) (by decide +kernel) rfl ?_
      obtain ⟨v2, s3, e4, h⟩ := bndI h
      refine v_cVN (idx := 188) hC ⟨List.mem_of_getElem? (i := 53) (by decide +kernel), tiX3_savedBy, tvX3_savedBy, tnX3_savedBy, tcX3_savedBy, tmX3_savedBy⟩ (isO_X3 cape1) rfl (c_X3_savedBy cape1 e4) (by decide) (by decide) (by decide +kernel) (rest := []) rfl rfl (Nat.le_of_ble_eq_true rfl) rfl ?_
      obtain ⟨v5, s6, e7, h⟩ := bndI h
      refine v_cS (idx := 157) hC ⟨tt_at 626 (by decide +kernel) rfl, tsJ6_bitCount_0f7a4, tnJ6_bitCount_0f7a4, tcJ6_bitCount_0f7a4, tmJ6_bitCount_0f7a4⟩ (c_J6_bitCount_0f7a4 e7) (by decide) (by decide) (by decide +kernel) (rest := []) rfl rfl (Nat.le_of_ble_eq_true rfl) rfl ?_
      refine v_blk hC (is := [(.istore 4, 0), (.iload 4, 0), (.iload_n 2, 0)]) (pc' := 34) (ls' := [(4, .int v5), (0, .ref (ga G 0)), (1, .int x1), (2, .int x2), (3, .int x3)]) (st' := [.int x2, .int v5]) (by decide +kernel) rfl ?_
      refine v_icmp_le hC (off := 8) (tgt := 42) (by decide +kernel) (by decide) h (fun hq h => ?_) (fun hq h => ?_)
      · refine v_sub [1, 2, 3, 4] (ls' := [(0, .ref (ga G 0)), (1, .int x1), (2, .int x2), (3, .int x3)]) rfl ?_
        exact (hB42 _ hk7) _ _ _ _ h
      · refine v_blk hC (is := [(.iload_n 3, 0), (.istore_n 1, 0), (.iload 4, 0), (.istore_n 2, 0)]) (pc' := 42) (ls' := [(2, .int v5), (1, .int x3), (4, .int v5), (0, .ref (ga G 0)), (3, .int x3)]) (st' := []) (by decide +kernel) rfl ?_
        refine v_sub [3, 1, 0, 4] (ls' := [(0, .ref (ga G 0)), (1, .int x3), (2, .int v5), (3, .int x3)]) rfl ?_
        exact (hB42 _ hk7) _ _ _ _ h
  have hL7 : ∀ f : Nat, ∀ (x1 : Int32), ∀ (x2 : Int32), ∀ (x3 : Int32), ∀ σ : Mem, p_X11_mostOwed_L7  f x1 x2 x3 σ = some res → V G 3 5 X ((some (.int res.1)), res.2) σ [(0, .ref (ga G 0)), (1, .int x1), (2, .int x2), (3, .int x3)] [] 7 := by
    intro  f
    induction f with
    | zero => intro x1 x2 x3 σ h; exact none_some h
    | succ f ih => intro x1 x2 x3 σ h; exact hB7 (p_X11_mostOwed_L7  f)  ih  x1 x2 x3 σ h
  unfold p_X11_mostOwed at h
  show V G 3 5 X ((some (.int res.1)), res.2) σ [(0, .ref (ga G 0))] [] 0
  refine v_blk hC (is := [(.bipush (-4), (-4 : Int32)), (.istore_n 1, 0), (.iconst 0, (0 : Int32)), (.istore_n 2, 0), (.iconst 0, (0 : Int32)), (.istore_n 3, 0)]) (pc' := 7) (ls' := [(3, .int (0 : Int32)), (2, .int (0 : Int32)), (1, .int (-4 : Int32)), (0, .ref (ga G 0))]) (st' := []) (by decide +kernel) rfl ?_
  refine v_sub [3, 2, 1, 0] (ls' := [(0, .ref (ga G 0)), (1, .int (-4 : Int32)), (2, .int (0 : Int32)), (3, .int (0 : Int32))]) rfl ?_
  exact (hL7 1000) _ _ _ _ h

def p_X11_owes (x1 : Int32) (σ : Mem) : Option (Int32 × Mem) := (bnd (p_X3_has 1 x1 σ) fun v1 s2 => (if v1 = 0 then some ((-1 : Int32), s2) else (bnd (p_X3_saversOf 1 x1 s2) fun v4 s5 => some (v4, s5))))
set_option maxHeartbeats 4000000 in
set_option maxRecDepth 100000 in
theorem c_X11_owes {G : Gl} {x1 : Int32} {σ : Mem} {res : Int32 × Mem}  (h : p_X11_owes x1 σ = some res) : MetX G yX11_owes cX11_owes 2 (some .int) 3 [.ref (ga G 0), .int x1] σ (some (.int res.1)) res.2 := by
  refine met_V (by decide +kernel) (Nat.le_of_ble_eq_true rfl) (fun X hC => ?_)
  have hC : Ok G 3 2 X cX11_owes RX11 (some .int) := hC
  unfold p_X11_owes at h
  show V G 3 2 X ((some (.int res.1)), res.2) σ [(0, .ref (ga G 0)), (1, .int x1)] [] 0
  refine v_blk hC (is := [(.aload_n 0, 0)]) (pc' := 1) (ls' := [(0, .ref (ga G 0)), (1, .int x1)]) (st' := [.ref (ga G 0)]) (by decide +kernel) rfl ?_
  refine gX11_0 hC lfX11_10 (by decide +kernel) ?_
  refine v_blk hC (is := [(.iload_n 1, 0)]) (pc' := 5) (ls' := [(0, .ref (ga G 0)), (1, .int x1)]) (st' := [.int x1, .ref (ga G 1)]) (by decide +kernel) rfl ?_
  obtain ⟨v1, s2, e3, h⟩ := bndI h
  refine v_cVN (idx := 63) hC ⟨List.mem_of_getElem? (i := 27) (by decide +kernel), tiX3_has, tvX3_has, tnX3_has, tcX3_has, tmX3_has⟩ (isO_X3 cape1) rfl (c_X3_has cape1 e3) (by decide) (by decide) (by decide +kernel) (rest := []) rfl rfl (Nat.le_of_ble_eq_true rfl) rfl ?_
  refine v_if_eq hC (off := 14) (tgt := 22) (by decide +kernel) (by decide) h (fun hq h => ?_) (fun hq h => ?_)
  · refine v_blk hC (is := [(.iconst (-1), (-1 : Int32))]) (pc' := 23) (ls' := [(0, .ref (ga G 0)), (1, .int x1)]) (st' := [.int (-1 : Int32)]) (by decide +kernel) rfl ?_
    exact v_iret hC h (by decide +kernel)
  · refine v_blk hC (is := [(.aload_n 0, 0)]) (pc' := 12) (ls' := [(0, .ref (ga G 0)), (1, .int x1)]) (st' := [.ref (ga G 0)]) (by decide +kernel) rfl ?_
    refine gX11_0 hC lfX11_10 (by decide +kernel) ?_
    refine v_blk hC (is := [(.iload_n 1, 0)]) (pc' := 16) (ls' := [(0, .ref (ga G 0)), (1, .int x1)]) (st' := [.int x1, .ref (ga G 1)]) (by decide +kernel) rfl ?_
    obtain ⟨v4, s5, e6, h⟩ := bndI h
    refine v_cVN (idx := 191) hC ⟨List.mem_of_getElem? (i := 54) (by decide +kernel), tiX3_saversOf, tvX3_saversOf, tnX3_saversOf, tcX3_saversOf, tmX3_saversOf⟩ (isO_X3 cape1) rfl (c_X3_saversOf cape1 e6) (by decide) (by decide) (by decide +kernel) (rest := []) rfl rfl (Nat.le_of_ble_eq_true rfl) rfl ?_
    refine v_goto hC (off := 4) (tgt := 23) (by decide +kernel) (by decide) ?_
    exact v_iret hC h (by decide +kernel)

def p_X11_rings_B109 (k35 : Int32 → Int32 → Int32 → Int32 → Mem → Option (Int32 × Mem)) (x1 : Int32) (x2 : Int32) (x3 : Int32) (x4 : Int32) (x5 : Int32) (σ : Mem) : Option (Int32 × Mem) := k35 x2 x3 x4 (x5 + (1 : Int32)) σ
def p_X11_rings_B105 (k35 : Int32 → Int32 → Int32 → Int32 → Mem → Option (Int32 × Mem)) (x1 : Int32) (x2 : Int32) (x4 : Int32) (x5 : Int32) (t0 : Int32) (σ : Mem) : Option (Int32 × Mem) := (p_X11_rings_B109 k35 x1) (x2 + (1 : Int32)) t0 x4 x5 σ
def p_X11_rings_B35 (k35 : Int32 → Int32 → Int32 → Int32 → Mem → Option (Int32 × Mem)) (k115 : Int32 → Int32 → Int32 → Mem → Option (Int32 × Mem)) (x1 : Int32) (x2 : Int32) (x3 : Int32) (x4 : Int32) (x5 : Int32) (σ : Mem) : Option (Int32 × Mem) := (lt (σ 1 5) fun v1 => (if v1 ≤ x5 then k115 x2 x3 x4 σ else (lt (σ 1 7) fun v2 => (bnd (p_X3_counts 1 x4 x5 v2 σ) fun v3 s4 => (if v3 = 0 then (p_X11_rings_B109 k35 x1) x2 x3 x4 x5 s4 else (lt (s4 1 7) fun v6 => (bnd (p_X3_counts 1 x5 x4 v6 s4) fun v7 s8 => (if v7 = 0 then (p_X11_rings_B109 k35 x1) x2 x3 x4 x5 s8 else (if x2 = 0 then (p_X11_rings_B105 k35 x1) x2 x4 x5 ((x4 * (10 : Int32)) + x5) s8 else (p_X11_rings_B105 k35 x1) x2 x4 x5 x3 s8)))))))))
def p_X11_rings_L35 (k115 : Int32 → Int32 → Int32 → Mem → Option (Int32 × Mem)) (x1 : Int32) : Nat → Int32 → Int32 → Int32 → Int32 → Mem → Option (Int32 × Mem)
  | 0 => fun _ _ _ _ _ => none
  | f + 1 => p_X11_rings_B35 (p_X11_rings_L35 k115 x1 f) k115 x1
def p_X11_rings_B17 (k17 : Int32 → Int32 → Int32 → Mem → Option (Int32 × Mem)) (k121 : Int32 → Int32 → Mem → Option (Int32 × Mem)) (x1 : Int32) (x2 : Int32) (x3 : Int32) (x4 : Int32) (σ : Mem) : Option (Int32 × Mem) := (lt (σ 1 5) fun v10 => (if v10 ≤ x4 then k121 x2 x3 σ else (p_X11_rings_L35 (fun (x2 : Int32) (x3 : Int32) (x4 : Int32) (m11 : Mem) => k17 x2 x3 (x4 + (1 : Int32)) m11) x1 1000) x2 x3 x4 (x4 + (1 : Int32)) σ))
def p_X11_rings_L17 (k121 : Int32 → Int32 → Mem → Option (Int32 × Mem)) (x1 : Int32) : Nat → Int32 → Int32 → Int32 → Mem → Option (Int32 × Mem)
  | 0 => fun _ _ _ _ => none
  | f + 1 => p_X11_rings_B17 (p_X11_rings_L17 k121 x1 f) k121 x1
def p_X11_rings (x1 : Int32) (σ : Mem) : Option (Int32 × Mem) := (bnd (p_X11_isPart x1 σ) fun v12 s13 => (if v12 = 0 then some ((-1 : Int32), s13) else (p_X11_rings_L17 (fun (x2 : Int32) (x3 : Int32) (m15 : Mem) => (if x1 = 0 then some (x2, m15) else some (x3, m15))) x1 1000) (0 : Int32) (-4 : Int32) (0 : Int32) s13))
set_option maxHeartbeats 4000000 in
set_option maxRecDepth 100000 in
theorem c_X11_rings {G : Gl} {x1 : Int32} {σ : Mem} {res : Int32 × Mem}  (h : p_X11_rings x1 σ = some res) : MetX G yX11_rings cX11_rings 6 (some .int) 3 [.ref (ga G 0), .int x1] σ (some (.int res.1)) res.2 := by
  refine met_V (by decide +kernel) (Nat.le_of_ble_eq_true rfl) (fun X hC => ?_)
  have hC : Ok G 3 6 X cX11_rings RX11 (some .int) := hC
  have hB109 : ∀ (k35 : Int32 → Int32 → Int32 → Int32 → Mem → Option (Int32 × Mem)), (∀ (x2 : Int32), ∀ (x3 : Int32), ∀ (x4 : Int32), ∀ (x5 : Int32), ∀ σ : Mem, k35 x2 x3 x4 x5 σ = some res → V G 3 6 X ((some (.int res.1)), res.2) σ [(0, .ref (ga G 0)), (1, .int x1), (2, .int x2), (3, .int x3), (4, .int x4), (5, .int x5)] [] 35) → ∀ (x2 : Int32), ∀ (x3 : Int32), ∀ (x4 : Int32), ∀ (x5 : Int32), ∀ σ : Mem, p_X11_rings_B109 k35 x1 x2 x3 x4 x5 σ = some res → V G 3 6 X ((some (.int res.1)), res.2) σ [(0, .ref (ga G 0)), (1, .int x1), (2, .int x2), (3, .int x3), (4, .int x4), (5, .int x5)] [] 109 := by
    intro k35 hk35 x2 x3 x4 x5 σ h
    unfold p_X11_rings_B109 at h
    refine v_blk hC (is := [(.iinc 5 1, (1 : Int32))]) (pc' := 112) (ls' := [(5, .int (x5 + (1 : Int32))), (0, .ref (ga G 0)), (1, .int x1), (2, .int x2), (3, .int x3), (4, .int x4)]) (st' := []) (by decide +kernel) rfl ?_
    refine v_goto hC (off := (-77)) (tgt := 35) (by decide +kernel) (by decide) ?_
    refine v_sub [1, 2, 3, 4, 5, 0] (ls' := [(0, .ref (ga G 0)), (1, .int x1), (2, .int x2), (3, .int x3), (4, .int x4), (5, .int (x5 + (1 : Int32)))]) rfl ?_
    exact hk35 _ _ _ _ _ h
  have hB105 : ∀ (k35 : Int32 → Int32 → Int32 → Int32 → Mem → Option (Int32 × Mem)), (∀ (x2 : Int32), ∀ (x3 : Int32), ∀ (x4 : Int32), ∀ (x5 : Int32), ∀ σ : Mem, k35 x2 x3 x4 x5 σ = some res → V G 3 6 X ((some (.int res.1)), res.2) σ [(0, .ref (ga G 0)), (1, .int x1), (2, .int x2), (3, .int x3), (4, .int x4), (5, .int x5)] [] 35) → ∀ (x2 : Int32), ∀ (x4 : Int32), ∀ (x5 : Int32), ∀ (t0 : Int32), ∀ σ : Mem, p_X11_rings_B105 k35 x1 x2 x4 x5 t0 σ = some res → V G 3 6 X ((some (.int res.1)), res.2) σ [(0, .ref (ga G 0)), (1, .int x1), (2, .int x2), (4, .int x4), (5, .int x5)] [.int t0] 105 := by
    intro k35 hk35 x2 x4 x5 t0 σ h
    unfold p_X11_rings_B105 at h
    refine v_blk hC (is := [(.istore_n 3, 0), (.iinc 2 1, (1 : Int32))]) (pc' := 109) (ls' := [(2, .int (x2 + (1 : Int32))), (3, .int t0), (0, .ref (ga G 0)), (1, .int x1), (4, .int x4), (5, .int x5)]) (st' := []) (by decide +kernel) rfl ?_
    refine v_sub [2, 3, 0, 1, 4, 5] (ls' := [(0, .ref (ga G 0)), (1, .int x1), (2, .int (x2 + (1 : Int32))), (3, .int t0), (4, .int x4), (5, .int x5)]) rfl ?_
    exact (hB109 _ hk35) _ _ _ _ _ h
  have hB35 : ∀ (k35 : Int32 → Int32 → Int32 → Int32 → Mem → Option (Int32 × Mem)), ∀ (k115 : Int32 → Int32 → Int32 → Mem → Option (Int32 × Mem)), (∀ (x2 : Int32), ∀ (x3 : Int32), ∀ (x4 : Int32), ∀ (x5 : Int32), ∀ σ : Mem, k35 x2 x3 x4 x5 σ = some res → V G 3 6 X ((some (.int res.1)), res.2) σ [(0, .ref (ga G 0)), (1, .int x1), (2, .int x2), (3, .int x3), (4, .int x4), (5, .int x5)] [] 35) → (∀ (x2 : Int32), ∀ (x3 : Int32), ∀ (x4 : Int32), ∀ σ : Mem, k115 x2 x3 x4 σ = some res → V G 3 6 X ((some (.int res.1)), res.2) σ [(0, .ref (ga G 0)), (1, .int x1), (2, .int x2), (3, .int x3), (4, .int x4)] [] 115) → ∀ (x2 : Int32), ∀ (x3 : Int32), ∀ (x4 : Int32), ∀ (x5 : Int32), ∀ σ : Mem, p_X11_rings_B35 k35 k115 x1 x2 x3 x4 x5 σ = some res → V G 3 6 X ((some (.int res.1)), res.2) σ [(0, .ref (ga G 0)), (1, .int x1), (2, .int x2), (3, .int x3), (4, .int x4), (5, .int x5)] [] 35 := by
    intro k35 k115 hk35 hk115 x2 x3 x4 x5 σ h
    unfold p_X11_rings_B35 at h
    refine v_blk hC (is := [(.iload 5, 0), (.aload_n 0, 0)]) (pc' := 38) (ls' := [(0, .ref (ga G 0)), (1, .int x1), (2, .int x2), (3, .int x3), (4, .int x4), (5, .int x5)]) (st' := [.ref (ga G 0), .int x5]) (by decide +kernel) rfl ?_
    refine gX11_0 hC lfX11_10 (by decide +kernel) ?_
    refine gX3_5 hC cape1 lfX11_187 (by decide +kernel) h (fun v1 h => ?_)
    refine v_icmp_ge hC (off := 71) (tgt := 115) (by decide +kernel) (by decide) h (fun hq h => ?_) (fun hq h => ?_)
    · refine v_sub [0, 1, 2, 3, 4] (ls' := [(0, .ref (ga G 0)), (1, .int x1), (2, .int x2), (3, .int x3), (4, .int x4)]) rfl ?_
      exact hk115 _ _ _ _ h
    · refine v_blk hC (is := [(.aload_n 0, 0)]) (pc' := 48) (ls' := [(0, .ref (ga G 0)), (1, .int x1), (2, .int x2), (3, .int x3), (4, .int x4), (5, .int x5)]) (st' := [.ref (ga G 0)]) (by decide +kernel) rfl ?_
      refine gX11_0 hC lfX11_10 (by decide +kernel) ?_
      refine v_blk hC (is := [(.iload 4, 0), (.iload 5, 0), (.aload_n 0, 0)]) (pc' := 56) (ls' := [(0, .ref (ga G 0)), (1, .int x1), (2, .int x2), (3, .int x3), (4, .int x4), (5, .int x5)]) (st' := [.ref (ga G 0), .int x5, .int x4, .ref (ga G 1)]) (by decide +kernel) rfl ?_
      refine gX11_0 hC lfX11_10 (by decide +kernel) ?_
      refine gX3_7 hC cape1 lfX11_128 (by decide +kernel) h (fun v2 h => ?_)
      obtain ⟨v3, s4, e5, h⟩ := bndI h
      refine v_cVN (idx := 194) hC ⟨List.mem_of_getElem? (i := 55) (by decide +kernel), tiX3_counts, tvX3_counts, tnX3_counts, tcX3_counts, tmX3_counts⟩ (isO_X3 cape1) rfl (c_X3_counts cape1 e5) (by decide) (by decide) (by decide +kernel) (rest := []) rfl rfl (Nat.le_of_ble_eq_true rfl) rfl ?_
      refine v_if_eq hC (off := 44) (tgt := 109) (by decide +kernel) (by decide) h (fun hq h => ?_) (fun hq h => ?_)
      · exact (hB109 _ hk35) _ _ _ _ _ h
      · refine v_blk hC (is := [(.aload_n 0, 0)]) (pc' := 69) (ls' := [(0, .ref (ga G 0)), (1, .int x1), (2, .int x2), (3, .int x3), (4, .int x4), (5, .int x5)]) (st' := [.ref (ga G 0)]) (by decide +kernel) rfl ?_
        refine gX11_0 hC lfX11_10 (by decide +kernel) ?_
        refine v_blk hC (is := [(.iload 5, 0), (.iload 4, 0), (.aload_n 0, 0)]) (pc' := 77) (ls' := [(0, .ref (ga G 0)), (1, .int x1), (2, .int x2), (3, .int x3), (4, .int x4), (5, .int x5)]) (st' := [.ref (ga G 0), .int x4, .int x5, .ref (ga G 1)]) (by decide +kernel) rfl ?_
        refine gX11_0 hC lfX11_10 (by decide +kernel) ?_
        refine gX3_7 hC cape1 lfX11_128 (by decide +kernel) h (fun v6 h => ?_)
        obtain ⟨v7, s8, e9, h⟩ := bndI h
        refine v_cVN (idx := 194) hC ⟨List.mem_of_getElem? (i := 55) (by decide +kernel), tiX3_counts, tvX3_counts, tnX3_counts, tcX3_counts, tmX3_counts⟩ (isO_X3 cape1) rfl (c_X3_counts cape1 e9) (by decide) (by decide) (by decide +kernel) (rest := []) rfl rfl (Nat.le_of_ble_eq_true rfl) rfl ?_
        refine v_if_eq hC (off := 23) (tgt := 109) (by decide +kernel) (by decide) h (fun hq h => ?_) (fun hq h => ?_)
        · exact (hB109 _ hk35) _ _ _ _ _ h
        · refine v_blk hC (is := [(.iload_n 2, 0)]) (pc' := 90) (ls' := [(0, .ref (ga G 0)), (1, .int x1), (2, .int x2), (3, .int x3), (4, .int x4), (5, .int x5)]) (st' := [.int x2]) (by decide +kernel) rfl ?_
          refine v_if_ne hC (off := 14) (tgt := 104) (by decide +kernel) (by decide) h (fun hq h => ?_) (fun hq h => ?_)
          · refine v_blk hC (is := [(.iload_n 3, 0)]) (pc' := 105) (ls' := [(0, .ref (ga G 0)), (1, .int x1), (2, .int x2), (3, .int x3), (4, .int x4), (5, .int x5)]) (st' := [.int x3]) (by decide +kernel) rfl ?_
            refine v_sub [0, 1, 2, 4, 5] (ls' := [(0, .ref (ga G 0)), (1, .int x1), (2, .int x2), (4, .int x4), (5, .int x5)]) rfl ?_
            exact (hB105 _ hk35) _ _ _ _ _ h
          · refine v_blk hC (is := [(.iload 4, 0), (.bipush 10, (10 : Int32)), (.imul, 0), (.iload 5, 0), (.iadd, 0)]) (pc' := 101) (ls' := [(0, .ref (ga G 0)), (1, .int x1), (2, .int x2), (3, .int x3), (4, .int x4), (5, .int x5)]) (st' := [.int ((x4 * (10 : Int32)) + x5)]) (by decide +kernel) rfl ?_
            refine v_goto hC (off := 4) (tgt := 105) (by decide +kernel) (by decide) ?_
            refine v_sub [0, 1, 2, 4, 5] (ls' := [(0, .ref (ga G 0)), (1, .int x1), (2, .int x2), (4, .int x4), (5, .int x5)]) rfl ?_
            exact (hB105 _ hk35) _ _ _ _ _ h
  have hL35 : ∀ (k115 : Int32 → Int32 → Int32 → Mem → Option (Int32 × Mem)), (∀ (x2 : Int32), ∀ (x3 : Int32), ∀ (x4 : Int32), ∀ σ : Mem, k115 x2 x3 x4 σ = some res → V G 3 6 X ((some (.int res.1)), res.2) σ [(0, .ref (ga G 0)), (1, .int x1), (2, .int x2), (3, .int x3), (4, .int x4)] [] 115) → ∀ f : Nat, ∀ (x2 : Int32), ∀ (x3 : Int32), ∀ (x4 : Int32), ∀ (x5 : Int32), ∀ σ : Mem, p_X11_rings_L35 k115 x1 f x2 x3 x4 x5 σ = some res → V G 3 6 X ((some (.int res.1)), res.2) σ [(0, .ref (ga G 0)), (1, .int x1), (2, .int x2), (3, .int x3), (4, .int x4), (5, .int x5)] [] 35 := by
    intro k115 hk115 f
    induction f with
    | zero => intro x2 x3 x4 x5 σ h; exact none_some h
    | succ f ih => intro x2 x3 x4 x5 σ h; exact hB35 (p_X11_rings_L35 k115 x1 f) k115 ih hk115 x2 x3 x4 x5 σ h
  have hB17 : ∀ (k17 : Int32 → Int32 → Int32 → Mem → Option (Int32 × Mem)), ∀ (k121 : Int32 → Int32 → Mem → Option (Int32 × Mem)), (∀ (x2 : Int32), ∀ (x3 : Int32), ∀ (x4 : Int32), ∀ σ : Mem, k17 x2 x3 x4 σ = some res → V G 3 6 X ((some (.int res.1)), res.2) σ [(0, .ref (ga G 0)), (1, .int x1), (2, .int x2), (3, .int x3), (4, .int x4)] [] 17) → (∀ (x2 : Int32), ∀ (x3 : Int32), ∀ σ : Mem, k121 x2 x3 σ = some res → V G 3 6 X ((some (.int res.1)), res.2) σ [(1, .int x1), (2, .int x2), (3, .int x3)] [] 121) → ∀ (x2 : Int32), ∀ (x3 : Int32), ∀ (x4 : Int32), ∀ σ : Mem, p_X11_rings_B17 k17 k121 x1 x2 x3 x4 σ = some res → V G 3 6 X ((some (.int res.1)), res.2) σ [(0, .ref (ga G 0)), (1, .int x1), (2, .int x2), (3, .int x3), (4, .int x4)] [] 17 := by
    intro k17 k121 hk17 hk121 x2 x3 x4 σ h
    unfold p_X11_rings_B17 at h
    refine v_blk hC (is := [(.iload 4, 0), (.aload_n 0, 0)]) (pc' := 20) (ls' := [(0, .ref (ga G 0)), (1, .int x1), (2, .int x2), (3, .int x3), (4, .int x4)]) (st' := [.ref (ga G 0), .int x4]) (by decide +kernel) rfl ?_
    refine gX11_0 hC lfX11_10 (by decide +kernel) ?_
    refine gX3_5 hC cape1 lfX11_187 (by decide +kernel) h (fun v10 h => ?_)
    refine v_icmp_ge hC (off := 95) (tgt := 121) (by decide +kernel) (by decide) h (fun hq h => ?_) (fun hq h => ?_)
    · refine v_sub [1, 2, 3] (ls' := [(1, .int x1), (2, .int x2), (3, .int x3)]) rfl ?_
      exact hk121 _ _ _ h
    · refine v_blk hC (is := [(.iload 4, 0), (.iconst 1, (1 : Int32)), (.iadd, 0), (.istore 5, 0)]) (pc' := 35) (ls' := [(5, .int (x4 + (1 : Int32))), (0, .ref (ga G 0)), (1, .int x1), (2, .int x2), (3, .int x3), (4, .int x4)]) (st' := []) (by decide +kernel) rfl ?_
      refine v_sub [1, 2, 3, 4, 5, 0] (ls' := [(0, .ref (ga G 0)), (1, .int x1), (2, .int x2), (3, .int x3), (4, .int x4), (5, .int (x4 + (1 : Int32)))]) rfl ?_
      exact (hL35 _ (fun x2 x3 x4  m11 h => by
            refine v_blk hC (is := [(.iinc 4 1, (1 : Int32))]) (pc' := 118) (ls' := [(4, .int (x4 + (1 : Int32))), (0, .ref (ga G 0)), (1, .int x1), (2, .int x2), (3, .int x3)]) (st' := []) (by decide +kernel) rfl ?_
            refine v_goto hC (off := (-101)) (tgt := 17) (by decide +kernel) (by decide) ?_
            refine v_sub [1, 2, 3, 4, 0] (ls' := [(0, .ref (ga G 0)), (1, .int x1), (2, .int x2), (3, .int x3), (4, .int (x4 + (1 : Int32)))]) rfl ?_
            exact hk17 _ _ _ _ h) 1000) _ _ _ _ _ h
  have hL17 : ∀ (k121 : Int32 → Int32 → Mem → Option (Int32 × Mem)), (∀ (x2 : Int32), ∀ (x3 : Int32), ∀ σ : Mem, k121 x2 x3 σ = some res → V G 3 6 X ((some (.int res.1)), res.2) σ [(1, .int x1), (2, .int x2), (3, .int x3)] [] 121) → ∀ f : Nat, ∀ (x2 : Int32), ∀ (x3 : Int32), ∀ (x4 : Int32), ∀ σ : Mem, p_X11_rings_L17 k121 x1 f x2 x3 x4 σ = some res → V G 3 6 X ((some (.int res.1)), res.2) σ [(0, .ref (ga G 0)), (1, .int x1), (2, .int x2), (3, .int x3), (4, .int x4)] [] 17 := by
    intro k121 hk121 f
    induction f with
    | zero => intro x2 x3 x4 σ h; exact none_some h
    | succ f ih => intro x2 x3 x4 σ h; exact hB17 (p_X11_rings_L17 k121 x1 f) k121 ih hk121 x2 x3 x4 σ h
  unfold p_X11_rings at h
  show V G 3 6 X ((some (.int res.1)), res.2) σ [(0, .ref (ga G 0)), (1, .int x1)] [] 0
  refine v_blk hC (is := [(.iload_n 1, 0)]) (pc' := 1) (ls' := [(0, .ref (ga G 0)), (1, .int x1)]) (st' := [.int x1]) (by decide +kernel) rfl ?_
  obtain ⟨v12, s13, e14, h⟩ := bndI h
  refine v_cS (idx := 151) hC ⟨tt_at 613 (by decide +kernel) rfl, tsX11_isPart, tnX11_isPart, tcX11_isPart, tmX11_isPart⟩ (c_X11_isPart e14) (by decide) (by decide) (by decide +kernel) (rest := []) rfl rfl (Nat.le_of_ble_eq_true rfl) rfl ?_
  refine v_if_ne hC (off := 5) (tgt := 9) (by decide +kernel) (by decide) h (fun hq h => ?_) (fun hq h => ?_)
  · refine v_blk hC (is := [(.iconst 0, (0 : Int32)), (.istore_n 2, 0), (.bipush (-4), (-4 : Int32)), (.istore_n 3, 0), (.iconst 0, (0 : Int32)), (.istore 4, 0)]) (pc' := 17) (ls' := [(4, .int (0 : Int32)), (3, .int (-4 : Int32)), (2, .int (0 : Int32)), (0, .ref (ga G 0)), (1, .int x1)]) (st' := []) (by decide +kernel) rfl ?_
    refine v_sub [3, 4, 2, 1, 0] (ls' := [(0, .ref (ga G 0)), (1, .int x1), (2, .int (0 : Int32)), (3, .int (-4 : Int32)), (4, .int (0 : Int32))]) rfl ?_
    exact (hL17 _ (fun x2 x3  m15 h => by
        refine v_blk hC (is := [(.iload_n 1, 0)]) (pc' := 122) (ls' := [(1, .int x1), (2, .int x2), (3, .int x3)]) (st' := [.int x1]) (by decide +kernel) rfl ?_
        refine v_if_ne hC (off := 7) (tgt := 129) (by decide +kernel) (by decide) h (fun hq h => ?_) (fun hq h => ?_)
        · refine v_blk hC (is := [(.iload_n 3, 0)]) (pc' := 130) (ls' := [(1, .int x1), (2, .int x2), (3, .int x3)]) (st' := [.int x3]) (by decide +kernel) rfl ?_
          exact v_iret hC h (by decide +kernel)
        · refine v_blk hC (is := [(.iload_n 2, 0)]) (pc' := 126) (ls' := [(1, .int x1), (2, .int x2), (3, .int x3)]) (st' := [.int x2]) (by decide +kernel) rfl ?_
          refine v_goto hC (off := 4) (tgt := 130) (by decide +kernel) (by decide) ?_
          exact v_iret hC h (by decide +kernel)) 1000) _ _ _ _ h
  · refine v_blk hC (is := [(.iconst (-1), (-1 : Int32))]) (pc' := 8) (ls' := [(0, .ref (ga G 0)), (1, .int x1)]) (st' := [.int (-1 : Int32)]) (by decide +kernel) rfl ?_
    exact v_iret hC h (by decide +kernel)

def p_X11_line_B75 (k39 : Int32 → Int32 → Int32 → Int32 → Mem → Option (Int32 × Mem)) (x1 : Int32) (x2 : Int32) (x3 : Int32) (x4 : Int32) (x6 : Int32) (t0 : Int32) (t1 : Int32) (σ : Mem) : Option (Int32 × Mem) := k39 x3 x4 (t0 ||| t1) (x6 + (1 : Int32)) σ
def p_X11_line_B39 (k39 : Int32 → Int32 → Int32 → Int32 → Mem → Option (Int32 × Mem)) (k84 : Int32 → Int32 → Mem → Option (Int32 × Mem)) (x1 : Int32) (x2 : Int32) (x3 : Int32) (x4 : Int32) (x5 : Int32) (x6 : Int32) (σ : Mem) : Option (Int32 × Mem) := (lt (σ 1 5) fun v1 => (if v1 ≤ x6 then k84 x4 x5 σ else (bnd (p_X11_holds x3 x6 σ) fun v2 s3 => (if v2 = 0 then (p_X11_line_B75 k39 x1 x2) x3 x4 x6 x5 (0 : Int32) s3 else (bnd (p_X3_savedBy 1 x6 s3) fun v5 s6 => (p_X11_line_B75 k39 x1 x2) x3 x4 x6 x5 v5 s6)))))
def p_X11_line_L39 (k84 : Int32 → Int32 → Mem → Option (Int32 × Mem)) (x1 : Int32) (x2 : Int32) : Nat → Int32 → Int32 → Int32 → Int32 → Mem → Option (Int32 × Mem)
  | 0 => fun _ _ _ _ _ => none
  | f + 1 => p_X11_line_B39 (p_X11_line_L39 k84 x1 x2 f) k84 x1 x2
def p_X11_line_B26 (k26 : Int32 → Int32 → Mem → Option (Int32 × Mem)) (k93 : Int32 → Mem → Option (Int32 × Mem)) (x1 : Int32) (x2 : Int32) (x3 : Int32) (x4 : Int32) (σ : Mem) : Option (Int32 × Mem) := (if (8 : Int32) ≤ x4 then k93 x3 σ else (p_X11_line_L39 (fun (x4 : Int32) (x5 : Int32) (m8 : Mem) => k26 x5 (x4 + (1 : Int32)) m8) x1 x2 1000) x3 x4 x3 (0 : Int32) σ)
def p_X11_line_L26 (k93 : Int32 → Mem → Option (Int32 × Mem)) (x1 : Int32) (x2 : Int32) : Nat → Int32 → Int32 → Mem → Option (Int32 × Mem)
  | 0 => fun _ _ _ => none
  | f + 1 => p_X11_line_B26 (p_X11_line_L26 k93 x1 x2 f) k93 x1 x2
def p_X11_line (x1 : Int32) (x2 : Int32) (σ : Mem) : Option (Int32 × Mem) := (bnd (p_X3_hasTwo 1 x1 x2 σ) fun v9 s10 => (if v9 = 0 then some ((-1 : Int32), s10) else (bnd (p_X3_savedBy 1 x1 s10) fun v12 s13 => (p_X11_line_L26 (fun (x3 : Int32) (m15 : Mem) => (bnd (p_X11_holds x3 x2 m15) fun v16 s17 => (if v16 = 0 then some ((0 : Int32), s17) else some ((1 : Int32), s17)))) x1 x2 1000) v12 (2 : Int32) s13)))
set_option maxHeartbeats 4000000 in
set_option maxRecDepth 100000 in
theorem c_X11_line {G : Gl} {x1 : Int32} {x2 : Int32} {σ : Mem} {res : Int32 × Mem}  (h : p_X11_line x1 x2 σ = some res) : MetX G yX11_line cX11_line 7 (some .int) 3 [.ref (ga G 0), .int x1, .int x2] σ (some (.int res.1)) res.2 := by
  refine met_V (by decide +kernel) (Nat.le_of_ble_eq_true rfl) (fun X hC => ?_)
  have hC : Ok G 3 7 X cX11_line RX11 (some .int) := hC
  have hB75 : ∀ (k39 : Int32 → Int32 → Int32 → Int32 → Mem → Option (Int32 × Mem)), (∀ (x3 : Int32), ∀ (x4 : Int32), ∀ (x5 : Int32), ∀ (x6 : Int32), ∀ σ : Mem, k39 x3 x4 x5 x6 σ = some res → V G 3 7 X ((some (.int res.1)), res.2) σ [(0, .ref (ga G 0)), (2, .int x2), (3, .int x3), (4, .int x4), (5, .int x5), (6, .int x6)] [] 39) → ∀ (x3 : Int32), ∀ (x4 : Int32), ∀ (x6 : Int32), ∀ (t0 : Int32), ∀ (t1 : Int32), ∀ σ : Mem, p_X11_line_B75 k39 x1 x2 x3 x4 x6 t0 t1 σ = some res → V G 3 7 X ((some (.int res.1)), res.2) σ [(0, .ref (ga G 0)), (2, .int x2), (3, .int x3), (4, .int x4), (6, .int x6)] [.int t1, .int t0] 75 := by
    intro k39 hk39 x3 x4 x6 t0 t1 σ h
    unfold p_X11_line_B75 at h
    refine v_blk hC (is := [(.ior, 0), (.istore 5, 0), (.iinc 6 1, (1 : Int32))]) (pc' := 81) (ls' := [(6, .int (x6 + (1 : Int32))), (5, .int (t0 ||| t1)), (0, .ref (ga G 0)), (2, .int x2), (3, .int x3), (4, .int x4)]) (st' := []) (by decide +kernel) rfl ?_
    refine v_goto hC (off := (-42)) (tgt := 39) (by decide +kernel) (by decide) ?_
    refine v_sub [2, 3, 4, 5, 1, 0] (ls' := [(0, .ref (ga G 0)), (2, .int x2), (3, .int x3), (4, .int x4), (5, .int (t0 ||| t1)), (6, .int (x6 + (1 : Int32)))]) rfl ?_
    exact hk39 _ _ _ _ _ h
  have hB39 : ∀ (k39 : Int32 → Int32 → Int32 → Int32 → Mem → Option (Int32 × Mem)), ∀ (k84 : Int32 → Int32 → Mem → Option (Int32 × Mem)), (∀ (x3 : Int32), ∀ (x4 : Int32), ∀ (x5 : Int32), ∀ (x6 : Int32), ∀ σ : Mem, k39 x3 x4 x5 x6 σ = some res → V G 3 7 X ((some (.int res.1)), res.2) σ [(0, .ref (ga G 0)), (2, .int x2), (3, .int x3), (4, .int x4), (5, .int x5), (6, .int x6)] [] 39) → (∀ (x4 : Int32), ∀ (x5 : Int32), ∀ σ : Mem, k84 x4 x5 σ = some res → V G 3 7 X ((some (.int res.1)), res.2) σ [(0, .ref (ga G 0)), (2, .int x2), (4, .int x4), (5, .int x5)] [] 84) → ∀ (x3 : Int32), ∀ (x4 : Int32), ∀ (x5 : Int32), ∀ (x6 : Int32), ∀ σ : Mem, p_X11_line_B39 k39 k84 x1 x2 x3 x4 x5 x6 σ = some res → V G 3 7 X ((some (.int res.1)), res.2) σ [(0, .ref (ga G 0)), (2, .int x2), (3, .int x3), (4, .int x4), (5, .int x5), (6, .int x6)] [] 39 := by
    intro k39 k84 hk39 hk84 x3 x4 x5 x6 σ h
    unfold p_X11_line_B39 at h
    refine v_blk hC (is := [(.iload 6, 0), (.aload_n 0, 0)]) (pc' := 42) (ls' := [(0, .ref (ga G 0)), (2, .int x2), (3, .int x3), (4, .int x4), (5, .int x5), (6, .int x6)]) (st' := [.ref (ga G 0), .int x6]) (by decide +kernel) rfl ?_
    refine gX11_0 hC lfX11_10 (by decide +kernel) ?_
    refine gX3_5 hC cape1 lfX11_187 (by decide +kernel) h (fun v1 h => ?_)
    refine v_icmp_ge hC (off := 36) (tgt := 84) (by decide +kernel) (by decide) h (fun hq h => ?_) (fun hq h => ?_)
    · refine v_sub [0, 1, 3, 4] (ls' := [(0, .ref (ga G 0)), (2, .int x2), (4, .int x4), (5, .int x5)]) rfl ?_
      exact hk84 _ _ _ h
    · refine v_blk hC (is := [(.iload 5, 0), (.iload_n 3, 0), (.iload 6, 0)]) (pc' := 56) (ls' := [(0, .ref (ga G 0)), (2, .int x2), (3, .int x3), (4, .int x4), (5, .int x5), (6, .int x6)]) (st' := [.int x6, .int x3, .int x5]) (by decide +kernel) rfl ?_
      obtain ⟨v2, s3, e4, h⟩ := bndI h
      refine v_cS (idx := 197) hC ⟨tt_at 723 (by decide +kernel) rfl, tsX11_holds, tnX11_holds, tcX11_holds, tmX11_holds⟩ (c_X11_holds e4) (by decide) (by decide) (by decide +kernel) (rest := [.int x5]) rfl rfl (Nat.le_of_ble_eq_true rfl) rfl ?_
      refine v_if_eq hC (off := 15) (tgt := 74) (by decide +kernel) (by decide) h (fun hq h => ?_) (fun hq h => ?_)
      · refine v_blk hC (is := [(.iconst 0, (0 : Int32))]) (pc' := 75) (ls' := [(0, .ref (ga G 0)), (2, .int x2), (3, .int x3), (4, .int x4), (5, .int x5), (6, .int x6)]) (st' := [.int (0 : Int32), .int x5]) (by decide +kernel) rfl ?_
        refine v_sub [0, 1, 2, 3, 5] (ls' := [(0, .ref (ga G 0)), (2, .int x2), (3, .int x3), (4, .int x4), (6, .int x6)]) rfl ?_
        exact (hB75 _ hk39) _ _ _ _ _ _ h
      · refine v_blk hC (is := [(.aload_n 0, 0)]) (pc' := 63) (ls' := [(0, .ref (ga G 0)), (2, .int x2), (3, .int x3), (4, .int x4), (5, .int x5), (6, .int x6)]) (st' := [.ref (ga G 0), .int x5]) (by decide +kernel) rfl ?_
        refine gX11_0 hC lfX11_10 (by decide +kernel) ?_
        refine v_blk hC (is := [(.iload 6, 0)]) (pc' := 68) (ls' := [(0, .ref (ga G 0)), (2, .int x2), (3, .int x3), (4, .int x4), (5, .int x5), (6, .int x6)]) (st' := [.int x6, .ref (ga G 1), .int x5]) (by decide +kernel) rfl ?_
        obtain ⟨v5, s6, e7, h⟩ := bndI h
        refine v_cVN (idx := 188) hC ⟨List.mem_of_getElem? (i := 53) (by decide +kernel), tiX3_savedBy, tvX3_savedBy, tnX3_savedBy, tcX3_savedBy, tmX3_savedBy⟩ (isO_X3 cape1) rfl (c_X3_savedBy cape1 e7) (by decide) (by decide) (by decide +kernel) (rest := [.int x5]) rfl rfl (Nat.le_of_ble_eq_true rfl) rfl ?_
        refine v_goto hC (off := 4) (tgt := 75) (by decide +kernel) (by decide) ?_
        refine v_sub [0, 1, 2, 3, 5] (ls' := [(0, .ref (ga G 0)), (2, .int x2), (3, .int x3), (4, .int x4), (6, .int x6)]) rfl ?_
        exact (hB75 _ hk39) _ _ _ _ _ _ h
  have hL39 : ∀ (k84 : Int32 → Int32 → Mem → Option (Int32 × Mem)), (∀ (x4 : Int32), ∀ (x5 : Int32), ∀ σ : Mem, k84 x4 x5 σ = some res → V G 3 7 X ((some (.int res.1)), res.2) σ [(0, .ref (ga G 0)), (2, .int x2), (4, .int x4), (5, .int x5)] [] 84) → ∀ f : Nat, ∀ (x3 : Int32), ∀ (x4 : Int32), ∀ (x5 : Int32), ∀ (x6 : Int32), ∀ σ : Mem, p_X11_line_L39 k84 x1 x2 f x3 x4 x5 x6 σ = some res → V G 3 7 X ((some (.int res.1)), res.2) σ [(0, .ref (ga G 0)), (2, .int x2), (3, .int x3), (4, .int x4), (5, .int x5), (6, .int x6)] [] 39 := by
    intro k84 hk84 f
    induction f with
    | zero => intro x3 x4 x5 x6 σ h; exact none_some h
    | succ f ih => intro x3 x4 x5 x6 σ h; exact hB39 (p_X11_line_L39 k84 x1 x2 f) k84 ih hk84 x3 x4 x5 x6 σ h
  have hB26 : ∀ (k26 : Int32 → Int32 → Mem → Option (Int32 × Mem)), ∀ (k93 : Int32 → Mem → Option (Int32 × Mem)), (∀ (x3 : Int32), ∀ (x4 : Int32), ∀ σ : Mem, k26 x3 x4 σ = some res → V G 3 7 X ((some (.int res.1)), res.2) σ [(0, .ref (ga G 0)), (2, .int x2), (3, .int x3), (4, .int x4)] [] 26) → (∀ (x3 : Int32), ∀ σ : Mem, k93 x3 σ = some res → V G 3 7 X ((some (.int res.1)), res.2) σ [(2, .int x2), (3, .int x3)] [] 93) → ∀ (x3 : Int32), ∀ (x4 : Int32), ∀ σ : Mem, p_X11_line_B26 k26 k93 x1 x2 x3 x4 σ = some res → V G 3 7 X ((some (.int res.1)), res.2) σ [(0, .ref (ga G 0)), (2, .int x2), (3, .int x3), (4, .int x4)] [] 26 := by
    intro k26 k93 hk26 hk93 x3 x4 σ h
    unfold p_X11_line_B26 at h
    refine v_blk hC (is := [(.iload 4, 0), (.bipush 8, (8 : Int32))]) (pc' := 30) (ls' := [(0, .ref (ga G 0)), (2, .int x2), (3, .int x3), (4, .int x4)]) (st' := [.int (8 : Int32), .int x4]) (by decide +kernel) rfl ?_
    refine v_icmp_ge hC (off := 63) (tgt := 93) (by decide +kernel) (by decide) h (fun hq h => ?_) (fun hq h => ?_)
    · refine v_sub [1, 2] (ls' := [(2, .int x2), (3, .int x3)]) rfl ?_
      exact hk93 _ _ h
    · refine v_blk hC (is := [(.iload_n 3, 0), (.istore 5, 0), (.iconst 0, (0 : Int32)), (.istore 6, 0)]) (pc' := 39) (ls' := [(6, .int (0 : Int32)), (5, .int x3), (0, .ref (ga G 0)), (2, .int x2), (3, .int x3), (4, .int x4)]) (st' := []) (by decide +kernel) rfl ?_
      refine v_sub [2, 3, 4, 5, 1, 0] (ls' := [(0, .ref (ga G 0)), (2, .int x2), (3, .int x3), (4, .int x4), (5, .int x3), (6, .int (0 : Int32))]) rfl ?_
      exact (hL39 _ (fun x4 x5  m8 h => by
            refine v_blk hC (is := [(.iload 5, 0), (.istore_n 3, 0), (.iinc 4 1, (1 : Int32))]) (pc' := 90) (ls' := [(4, .int (x4 + (1 : Int32))), (3, .int x5), (0, .ref (ga G 0)), (2, .int x2), (5, .int x5)]) (st' := []) (by decide +kernel) rfl ?_
            refine v_goto hC (off := (-64)) (tgt := 26) (by decide +kernel) (by decide) ?_
            refine v_sub [2, 3, 1, 0] (ls' := [(0, .ref (ga G 0)), (2, .int x2), (3, .int x5), (4, .int (x4 + (1 : Int32)))]) rfl ?_
            exact hk26 _ _ _ h) 1000) _ _ _ _ _ h
  have hL26 : ∀ (k93 : Int32 → Mem → Option (Int32 × Mem)), (∀ (x3 : Int32), ∀ σ : Mem, k93 x3 σ = some res → V G 3 7 X ((some (.int res.1)), res.2) σ [(2, .int x2), (3, .int x3)] [] 93) → ∀ f : Nat, ∀ (x3 : Int32), ∀ (x4 : Int32), ∀ σ : Mem, p_X11_line_L26 k93 x1 x2 f x3 x4 σ = some res → V G 3 7 X ((some (.int res.1)), res.2) σ [(0, .ref (ga G 0)), (2, .int x2), (3, .int x3), (4, .int x4)] [] 26 := by
    intro k93 hk93 f
    induction f with
    | zero => intro x3 x4 σ h; exact none_some h
    | succ f ih => intro x3 x4 σ h; exact hB26 (p_X11_line_L26 k93 x1 x2 f) k93 ih hk93 x3 x4 σ h
  unfold p_X11_line at h
  show V G 3 7 X ((some (.int res.1)), res.2) σ [(0, .ref (ga G 0)), (1, .int x1), (2, .int x2)] [] 0
  refine v_blk hC (is := [(.aload_n 0, 0)]) (pc' := 1) (ls' := [(0, .ref (ga G 0)), (1, .int x1), (2, .int x2)]) (st' := [.ref (ga G 0)]) (by decide +kernel) rfl ?_
  refine gX11_0 hC lfX11_10 (by decide +kernel) ?_
  refine v_blk hC (is := [(.iload_n 1, 0), (.iload_n 2, 0)]) (pc' := 6) (ls' := [(0, .ref (ga G 0)), (1, .int x1), (2, .int x2)]) (st' := [.int x2, .int x1, .ref (ga G 1)]) (by decide +kernel) rfl ?_
  obtain ⟨v9, s10, e11, h⟩ := bndI h
  refine v_cVN (idx := 101) hC ⟨List.mem_of_getElem? (i := 30) (by decide +kernel), tiX3_hasTwo, tvX3_hasTwo, tnX3_hasTwo, tcX3_hasTwo, tmX3_hasTwo⟩ (isO_X3 cape1) rfl (c_X3_hasTwo cape1 e11) (by decide) (by decide) (by decide +kernel) (rest := []) rfl rfl (Nat.le_of_ble_eq_true rfl) rfl ?_
  refine v_if_ne hC (off := 5) (tgt := 14) (by decide +kernel) (by decide) h (fun hq h => ?_) (fun hq h => ?_)
  · refine v_blk hC (is := [(.aload_n 0, 0)]) (pc' := 15) (ls' := [(0, .ref (ga G 0)), (1, .int x1), (2, .int x2)]) (st' := [.ref (ga G 0)]) (by decide +kernel) rfl ?_
    refine gX11_0 hC lfX11_10 (by decide +kernel) ?_
    refine v_blk hC (is := [(.iload_n 1, 0)]) (pc' := 19) (ls' := [(0, .ref (ga G 0)), (1, .int x1), (2, .int x2)]) (st' := [.int x1, .ref (ga G 1)]) (by decide +kernel) rfl ?_
    obtain ⟨v12, s13, e14, h⟩ := bndI h
    refine v_cVN (idx := 188) hC ⟨List.mem_of_getElem? (i := 53) (by decide +kernel), tiX3_savedBy, tvX3_savedBy, tnX3_savedBy, tcX3_savedBy, tmX3_savedBy⟩ (isO_X3 cape1) rfl (c_X3_savedBy cape1 e14) (by decide) (by decide) (by decide +kernel) (rest := []) rfl rfl (Nat.le_of_ble_eq_true rfl) rfl ?_
    refine v_blk hC (is := [(.istore_n 3, 0), (.iconst 2, (2 : Int32)), (.istore 4, 0)]) (pc' := 26) (ls' := [(4, .int (2 : Int32)), (3, .int v12), (0, .ref (ga G 0)), (1, .int x1), (2, .int x2)]) (st' := []) (by decide +kernel) rfl ?_
    refine v_sub [2, 4, 1, 0] (ls' := [(0, .ref (ga G 0)), (2, .int x2), (3, .int v12), (4, .int (2 : Int32))]) rfl ?_
    exact (hL26 _ (fun x3  m15 h => by
        refine v_blk hC (is := [(.iload_n 3, 0), (.iload_n 2, 0)]) (pc' := 95) (ls' := [(2, .int x2), (3, .int x3)]) (st' := [.int x2, .int x3]) (by decide +kernel) rfl ?_
        obtain ⟨v16, s17, e18, h⟩ := bndI h
        refine v_cS (idx := 197) hC ⟨tt_at 723 (by decide +kernel) rfl, tsX11_holds, tnX11_holds, tcX11_holds, tmX11_holds⟩ (c_X11_holds e18) (by decide) (by decide) (by decide +kernel) (rest := []) rfl rfl (Nat.le_of_ble_eq_true rfl) rfl ?_
        refine v_if_eq hC (off := 7) (tgt := 105) (by decide +kernel) (by decide) h (fun hq h => ?_) (fun hq h => ?_)
        · refine v_blk hC (is := [(.iconst 0, (0 : Int32))]) (pc' := 106) (ls' := [(2, .int x2), (3, .int x3)]) (st' := [.int (0 : Int32)]) (by decide +kernel) rfl ?_
          exact v_iret hC h (by decide +kernel)
        · refine v_blk hC (is := [(.iconst 1, (1 : Int32))]) (pc' := 102) (ls' := [(2, .int x2), (3, .int x3)]) (st' := [.int (1 : Int32)]) (by decide +kernel) rfl ?_
          refine v_goto hC (off := 4) (tgt := 106) (by decide +kernel) (by decide) ?_
          exact v_iret hC h (by decide +kernel)) 1000) _ _ _ h
  · refine v_blk hC (is := [(.iconst (-1), (-1 : Int32))]) (pc' := 13) (ls' := [(0, .ref (ga G 0)), (1, .int x1), (2, .int x2)]) (st' := [.int (-1 : Int32)]) (by decide +kernel) rfl ?_
    exact v_iret hC h (by decide +kernel)

def p_X11_behind (x1 : Int32) (x2 : Int32) (σ : Mem) : Option (Int32 × Mem) := (bnd (p_X3_has 1 x1 σ) fun v1 s2 => (if v1 = 0 then some ((-1 : Int32), s2) else (bnd (p_X11_within x2 (0 : Int32) (60 : Int32) s2) fun v4 s5 => (if v4 = 0 then some ((-1 : Int32), s5) else (bnd (p_X3_becomes 3 1 s5) fun (v7 : Unit) s8 => (bnd (p_X3_sails 3 x2 s8) fun (v10 : Unit) s11 => (bnd (p_X3_isLost 3 x1 s11) fun v13 s14 => (if v13 = 0 then (if x1 < 0 ∨ 8 ≤ (x1).toNatClampNeg then none else lt (s14 (30 + 3) (x1).toNatClampNeg) fun v16 => some (v16, s14)) else some ((-4 : Int32), s14)))))))))
set_option maxHeartbeats 4000000 in
set_option maxRecDepth 100000 in
theorem c_X11_behind {G : Gl} {x1 : Int32} {x2 : Int32} {σ : Mem} {res : Int32 × Mem}  (h : p_X11_behind x1 x2 σ = some res) : MetX G yX11_behind cX11_behind 3 (some .int) 6 [.ref (ga G 0), .int x1, .int x2] σ (some (.int res.1)) res.2 := by
  refine met_V (by decide +kernel) (Nat.le_of_ble_eq_true rfl) (fun X hC => ?_)
  have hC : Ok G 6 3 X cX11_behind RX11 (some .int) := hC
  unfold p_X11_behind at h
  show V G 6 3 X ((some (.int res.1)), res.2) σ [(0, .ref (ga G 0)), (1, .int x1), (2, .int x2)] [] 0
  refine v_blk hC (is := [(.aload_n 0, 0)]) (pc' := 1) (ls' := [(0, .ref (ga G 0)), (1, .int x1), (2, .int x2)]) (st' := [.ref (ga G 0)]) (by decide +kernel) rfl ?_
  refine gX11_0 hC lfX11_10 (by decide +kernel) ?_
  refine v_blk hC (is := [(.iload_n 1, 0)]) (pc' := 5) (ls' := [(0, .ref (ga G 0)), (1, .int x1), (2, .int x2)]) (st' := [.int x1, .ref (ga G 1)]) (by decide +kernel) rfl ?_
  obtain ⟨v1, s2, e3, h⟩ := bndI h
  refine v_cVN (idx := 63) hC ⟨List.mem_of_getElem? (i := 27) (by decide +kernel), tiX3_has, tvX3_has, tnX3_has, tcX3_has, tmX3_has⟩ (isO_X3 cape1) rfl (c_X3_has cape1 e3) (by decide) (by decide) (by decide +kernel) (rest := []) rfl rfl (Nat.le_of_ble_eq_true rfl) rfl ?_
  refine v_if_eq hC (off := 13) (tgt := 21) (by decide +kernel) (by decide) h (fun hq h => ?_) (fun hq h => ?_)
  · refine v_blk hC (is := [(.iconst (-1), (-1 : Int32))]) (pc' := 22) (ls' := [(0, .ref (ga G 0)), (1, .int x1), (2, .int x2)]) (st' := [.int (-1 : Int32)]) (by decide +kernel) rfl ?_
    exact v_iret hC h (by decide +kernel)
  · refine v_blk hC (is := [(.iload_n 2, 0), (.iconst 0, (0 : Int32)), (.bipush 60, (60 : Int32))]) (pc' := 15) (ls' := [(0, .ref (ga G 0)), (1, .int x1), (2, .int x2)]) (st' := [.int (60 : Int32), .int (0 : Int32), .int x2]) (by decide +kernel) rfl ?_
    obtain ⟨v4, s5, e6, h⟩ := bndI h
    refine v_cS (idx := 168) hC ⟨tt_at 300 (by decide +kernel) rfl, tsX11_within, tnX11_within, tcX11_within, tmX11_within⟩ (c_X11_within e6) (by decide) (by decide) (by decide +kernel) (rest := []) rfl rfl (Nat.le_of_ble_eq_true rfl) rfl ?_
    refine v_if_ne hC (off := 5) (tgt := 23) (by decide +kernel) (by decide) h (fun hq h => ?_) (fun hq h => ?_)
    · refine v_blk hC (is := [(.aload_n 0, 0)]) (pc' := 24) (ls' := [(0, .ref (ga G 0)), (1, .int x1), (2, .int x2)]) (st' := [.ref (ga G 0)]) (by decide +kernel) rfl ?_
      refine gX11_2 hC lfX11_19 (by decide +kernel) ?_
      refine v_blk hC (is := [(.aload_n 0, 0)]) (pc' := 28) (ls' := [(0, .ref (ga G 0)), (1, .int x1), (2, .int x2)]) (st' := [.ref (ga G 0), .ref (ga G 3)]) (by decide +kernel) rfl ?_
      refine gX11_0 hC lfX11_10 (by decide +kernel) ?_
      obtain ⟨v7, s8, e9, h⟩ := bndI h
      refine v_cVN (idx := 48) hC ⟨List.mem_of_getElem? (i := 19) (by decide +kernel), tiX3_becomes, tvX3_becomes, tnX3_becomes, tcX3_becomes, tmX3_becomes⟩ (isO_X3 cape3) rfl (c_X3_becomes cape3 cape1 e9) (by decide) (by decide) (by decide +kernel) (rest := []) rfl rfl (Nat.le_of_ble_eq_true rfl) rfl ?_
      refine v_blk hC (is := [(.aload_n 0, 0)]) (pc' := 35) (ls' := [(0, .ref (ga G 0)), (1, .int x1), (2, .int x2)]) (st' := [.ref (ga G 0)]) (by decide +kernel) rfl ?_
      refine gX11_2 hC lfX11_19 (by decide +kernel) ?_
      refine v_blk hC (is := [(.iload_n 2, 0)]) (pc' := 39) (ls' := [(0, .ref (ga G 0)), (1, .int x1), (2, .int x2)]) (st' := [.int x2, .ref (ga G 3)]) (by decide +kernel) rfl ?_
      obtain ⟨v10, s11, e12, h⟩ := bndI h
      refine v_cVN (idx := 200) hC ⟨List.mem_of_getElem? (i := 56) (by decide +kernel), tiX3_sails, tvX3_sails, tnX3_sails, tcX3_sails, tmX3_sails⟩ (isO_X3 cape3) rfl (c_X3_sails cape3 e12) (by decide) (by decide) (by decide +kernel) (rest := []) rfl rfl (Nat.le_of_ble_eq_true rfl) rfl ?_
      refine v_blk hC (is := [(.aload_n 0, 0)]) (pc' := 43) (ls' := [(0, .ref (ga G 0)), (1, .int x1), (2, .int x2)]) (st' := [.ref (ga G 0)]) (by decide +kernel) rfl ?_
      refine gX11_2 hC lfX11_19 (by decide +kernel) ?_
      refine v_blk hC (is := [(.iload_n 1, 0)]) (pc' := 47) (ls' := [(0, .ref (ga G 0)), (1, .int x1), (2, .int x2)]) (st' := [.int x1, .ref (ga G 3)]) (by decide +kernel) rfl ?_
      obtain ⟨v13, s14, e15, h⟩ := bndI h
      refine v_cVN (idx := 77) hC ⟨List.mem_of_getElem? (i := 28) (by decide +kernel), tiX3_isLost, tvX3_isLost, tnX3_isLost, tcX3_isLost, tmX3_isLost⟩ (isO_X3 cape3) rfl (c_X3_isLost cape3 e15) (by decide) (by decide) (by decide +kernel) (rest := []) rfl rfl (Nat.le_of_ble_eq_true rfl) rfl ?_
      refine v_if_eq hC (off := 8) (tgt := 58) (by decide +kernel) (by decide) h (fun hq h => ?_) (fun hq h => ?_)
      · refine v_blk hC (is := [(.aload_n 0, 0)]) (pc' := 59) (ls' := [(0, .ref (ga G 0)), (1, .int x1), (2, .int x2)]) (st' := [.ref (ga G 0)]) (by decide +kernel) rfl ?_
        refine gX11_2 hC lfX11_19 (by decide +kernel) ?_
        refine gX3_3 hC cape3 lfX11_74 (by decide +kernel) ?_
        refine v_blk hC (is := [(.iload_n 1, 0)]) (pc' := 66) (ls' := [(0, .ref (ga G 0)), (1, .int x1), (2, .int x2)]) (st' := [.int x1, .ref (ga G (30 + 3))]) (by decide +kernel) rfl ?_
        refine v_iald hC (isA_boat cape3) (al_boat cape3) (by decide +kernel) h (fun v16 h => ?_)
        exact v_iret hC h (by decide +kernel)
      · refine v_blk hC (is := [(.bipush (-4), (-4 : Int32))]) (pc' := 55) (ls' := [(0, .ref (ga G 0)), (1, .int x1), (2, .int x2)]) (st' := [.int (-4 : Int32)]) (by decide +kernel) rfl ?_
        refine v_goto hC (off := 12) (tgt := 67) (by decide +kernel) (by decide) ?_
        exact v_iret hC h (by decide +kernel)
    · refine v_blk hC (is := [(.iconst (-1), (-1 : Int32))]) (pc' := 22) (ls' := [(0, .ref (ga G 0)), (1, .int x1), (2, .int x2)]) (st' := [.int (-1 : Int32)]) (by decide +kernel) rfl ?_
      exact v_iret hC h (by decide +kernel)

def p_X11_lostIn (x1 : Int32) (σ : Mem) : Option (Int32 × Mem) := (bnd (p_X11_within x1 (0 : Int32) (60 : Int32) σ) fun v1 s2 => (if v1 = 0 then some ((-1 : Int32), s2) else (bnd (p_X3_becomes 3 1 s2) fun (v4 : Unit) s5 => (bnd (p_X3_sails 3 x1 s5) fun (v7 : Unit) s8 => (bnd (p_X3_lostOnes 3 s8) fun v10 s11 => some (v10, s11))))))
set_option maxHeartbeats 4000000 in
set_option maxRecDepth 100000 in
theorem c_X11_lostIn {G : Gl} {x1 : Int32} {σ : Mem} {res : Int32 × Mem}  (h : p_X11_lostIn x1 σ = some res) : MetX G yX11_lostIn cX11_lostIn 2 (some .int) 6 [.ref (ga G 0), .int x1] σ (some (.int res.1)) res.2 := by
  refine met_V (by decide +kernel) (Nat.le_of_ble_eq_true rfl) (fun X hC => ?_)
  have hC : Ok G 6 2 X cX11_lostIn RX11 (some .int) := hC
  unfold p_X11_lostIn at h
  show V G 6 2 X ((some (.int res.1)), res.2) σ [(0, .ref (ga G 0)), (1, .int x1)] [] 0
  refine v_blk hC (is := [(.iload_n 1, 0), (.iconst 0, (0 : Int32)), (.bipush 60, (60 : Int32))]) (pc' := 4) (ls' := [(0, .ref (ga G 0)), (1, .int x1)]) (st' := [.int (60 : Int32), .int (0 : Int32), .int x1]) (by decide +kernel) rfl ?_
  obtain ⟨v1, s2, e3, h⟩ := bndI h
  refine v_cS (idx := 168) hC ⟨tt_at 300 (by decide +kernel) rfl, tsX11_within, tnX11_within, tcX11_within, tmX11_within⟩ (c_X11_within e3) (by decide) (by decide) (by decide +kernel) (rest := []) rfl rfl (Nat.le_of_ble_eq_true rfl) rfl ?_
  refine v_if_ne hC (off := 5) (tgt := 12) (by decide +kernel) (by decide) h (fun hq h => ?_) (fun hq h => ?_)
  · refine v_blk hC (is := [(.aload_n 0, 0)]) (pc' := 13) (ls' := [(0, .ref (ga G 0)), (1, .int x1)]) (st' := [.ref (ga G 0)]) (by decide +kernel) rfl ?_
    refine gX11_2 hC lfX11_19 (by decide +kernel) ?_
    refine v_blk hC (is := [(.aload_n 0, 0)]) (pc' := 17) (ls' := [(0, .ref (ga G 0)), (1, .int x1)]) (st' := [.ref (ga G 0), .ref (ga G 3)]) (by decide +kernel) rfl ?_
    refine gX11_0 hC lfX11_10 (by decide +kernel) ?_
    obtain ⟨v4, s5, e6, h⟩ := bndI h
    refine v_cVN (idx := 48) hC ⟨List.mem_of_getElem? (i := 19) (by decide +kernel), tiX3_becomes, tvX3_becomes, tnX3_becomes, tcX3_becomes, tmX3_becomes⟩ (isO_X3 cape3) rfl (c_X3_becomes cape3 cape1 e6) (by decide) (by decide) (by decide +kernel) (rest := []) rfl rfl (Nat.le_of_ble_eq_true rfl) rfl ?_
    refine v_blk hC (is := [(.aload_n 0, 0)]) (pc' := 24) (ls' := [(0, .ref (ga G 0)), (1, .int x1)]) (st' := [.ref (ga G 0)]) (by decide +kernel) rfl ?_
    refine gX11_2 hC lfX11_19 (by decide +kernel) ?_
    refine v_blk hC (is := [(.iload_n 1, 0)]) (pc' := 28) (ls' := [(0, .ref (ga G 0)), (1, .int x1)]) (st' := [.int x1, .ref (ga G 3)]) (by decide +kernel) rfl ?_
    obtain ⟨v7, s8, e9, h⟩ := bndI h
    refine v_cVN (idx := 200) hC ⟨List.mem_of_getElem? (i := 56) (by decide +kernel), tiX3_sails, tvX3_sails, tnX3_sails, tcX3_sails, tmX3_sails⟩ (isO_X3 cape3) rfl (c_X3_sails cape3 e9) (by decide) (by decide) (by decide +kernel) (rest := []) rfl rfl (Nat.le_of_ble_eq_true rfl) rfl ?_
    refine v_blk hC (is := [(.aload_n 0, 0)]) (pc' := 32) (ls' := [(0, .ref (ga G 0)), (1, .int x1)]) (st' := [.ref (ga G 0)]) (by decide +kernel) rfl ?_
    refine gX11_2 hC lfX11_19 (by decide +kernel) ?_
    obtain ⟨v10, s11, e12, h⟩ := bndI h
    refine v_cVN (idx := 204) hC ⟨List.mem_of_getElem? (i := 57) (by decide +kernel), tiX3_lostOnes, tvX3_lostOnes, tnX3_lostOnes, tcX3_lostOnes, tmX3_lostOnes⟩ (isO_X3 cape3) rfl (c_X3_lostOnes cape3 e12) (by decide) (by decide) (by decide +kernel) (rest := []) rfl rfl (Nat.le_of_ble_eq_true rfl) rfl ?_
    exact v_iret hC h (by decide +kernel)
  · refine v_blk hC (is := [(.iconst (-1), (-1 : Int32))]) (pc' := 11) (ls' := [(0, .ref (ga G 0)), (1, .int x1)]) (st' := [.int (-1 : Int32)]) (by decide +kernel) rfl ?_
    exact v_iret hC h (by decide +kernel)

def p_X11_unmanned_B58 (k29 : Int32 → Int32 → Mem → Option (Int32 × Mem))  (x1 : Int32) (x2 : Int32) (σ : Mem) : Option (Int32 × Mem) := k29 x1 (x2 + (1 : Int32)) σ
def p_X11_unmanned_B29 (k29 : Int32 → Int32 → Mem → Option (Int32 × Mem)) (k64 : Int32 → Mem → Option (Int32 × Mem))  (x1 : Int32) (x2 : Int32) (σ : Mem) : Option (Int32 × Mem) := (if (3 : Int32) ≤ x2 then k64 x1 σ else (bnd (p_X3_crew 1 x2 σ) fun v1 s2 => (if v1 = 0 then (p_X11_unmanned_B58 k29) x1 x2 s2 else (bnd (p_X3_crew 3 x2 s2) fun v4 s5 => (if v4 = 0 then some (x1, s5) else (p_X11_unmanned_B58 k29) x1 x2 s5)))))
def p_X11_unmanned_L29 (k64 : Int32 → Mem → Option (Int32 × Mem))  : Nat → Int32 → Int32 → Mem → Option (Int32 × Mem)
  | 0 => fun _ _ _ => none
  | f + 1 => p_X11_unmanned_B29 (p_X11_unmanned_L29 k64 f) k64
def p_X11_unmanned_B13 (k13 : Int32 → Mem → Option (Int32 × Mem))  (x1 : Int32) (σ : Mem) : Option (Int32 × Mem) := (if (60 : Int32) < x1 then some ((-4 : Int32), σ) else (bnd (p_X3_sails 3 (1 : Int32) σ) fun (v7 : Unit) s8 => (p_X11_unmanned_L29 (fun (x1 : Int32) (m10 : Mem) => k13 (x1 + (1 : Int32)) m10) 1000) x1 (0 : Int32) s8))
def p_X11_unmanned_L13   : Nat → Int32 → Mem → Option (Int32 × Mem)
  | 0 => fun _ _ => none
  | f + 1 => p_X11_unmanned_B13 (p_X11_unmanned_L13 f)
def p_X11_unmanned  (σ : Mem) : Option (Int32 × Mem) := (bnd (p_X3_becomes 3 1 σ) fun (v11 : Unit) s12 => (p_X11_unmanned_L13 1000) (1 : Int32) s12)
set_option maxHeartbeats 4000000 in
set_option maxRecDepth 100000 in
theorem c_X11_unmanned {G : Gl}  {σ : Mem} {res : Int32 × Mem}  (h : p_X11_unmanned  σ = some res) : MetX G yX11_unmanned cX11_unmanned 3 (some .int) 6 [.ref (ga G 0)] σ (some (.int res.1)) res.2 := by
  refine met_V (by decide +kernel) (Nat.le_of_ble_eq_true rfl) (fun X hC => ?_)
  have hC : Ok G 6 3 X cX11_unmanned RX11 (some .int) := hC
  have hB58 : ∀ (k29 : Int32 → Int32 → Mem → Option (Int32 × Mem)), (∀ (x1 : Int32), ∀ (x2 : Int32), ∀ σ : Mem, k29 x1 x2 σ = some res → V G 6 3 X ((some (.int res.1)), res.2) σ [(0, .ref (ga G 0)), (1, .int x1), (2, .int x2)] [] 29) → ∀ (x1 : Int32), ∀ (x2 : Int32), ∀ σ : Mem, p_X11_unmanned_B58 k29  x1 x2 σ = some res → V G 6 3 X ((some (.int res.1)), res.2) σ [(0, .ref (ga G 0)), (1, .int x1), (2, .int x2)] [] 58 := by
    intro k29 hk29 x1 x2 σ h
    unfold p_X11_unmanned_B58 at h
    refine v_blk hC (is := [(.iinc 2 1, (1 : Int32))]) (pc' := 61) (ls' := [(2, .int (x2 + (1 : Int32))), (0, .ref (ga G 0)), (1, .int x1)]) (st' := []) (by decide +kernel) rfl ?_
    refine v_goto hC (off := (-32)) (tgt := 29) (by decide +kernel) (by decide) ?_
    refine v_sub [1, 2, 0] (ls' := [(0, .ref (ga G 0)), (1, .int x1), (2, .int (x2 + (1 : Int32)))]) rfl ?_
    exact hk29 _ _ _ h
  have hB29 : ∀ (k29 : Int32 → Int32 → Mem → Option (Int32 × Mem)), ∀ (k64 : Int32 → Mem → Option (Int32 × Mem)), (∀ (x1 : Int32), ∀ (x2 : Int32), ∀ σ : Mem, k29 x1 x2 σ = some res → V G 6 3 X ((some (.int res.1)), res.2) σ [(0, .ref (ga G 0)), (1, .int x1), (2, .int x2)] [] 29) → (∀ (x1 : Int32), ∀ σ : Mem, k64 x1 σ = some res → V G 6 3 X ((some (.int res.1)), res.2) σ [(0, .ref (ga G 0)), (1, .int x1)] [] 64) → ∀ (x1 : Int32), ∀ (x2 : Int32), ∀ σ : Mem, p_X11_unmanned_B29 k29 k64  x1 x2 σ = some res → V G 6 3 X ((some (.int res.1)), res.2) σ [(0, .ref (ga G 0)), (1, .int x1), (2, .int x2)] [] 29 := by
    intro k29 k64 hk29 hk64 x1 x2 σ h
    unfold p_X11_unmanned_B29 at h
    refine v_blk hC (is := [(.iload_n 2, 0), (.iconst 3, (3 : Int32))]) (pc' := 31) (ls' := [(0, .ref (ga G 0)), (1, .int x1), (2, .int x2)]) (st' := [.int (3 : Int32), .int x2]) (by decide +kernel) rfl ?_
    refine v_icmp_ge hC (off := 33) (tgt := 64) (by decide +kernel) (by decide) h (fun hq h => ?_) (fun hq h => ?_)
    · refine v_sub [0, 1] (ls' := [(0, .ref (ga G 0)), (1, .int x1)]) rfl ?_
      exact hk64 _ _ h
    · refine v_blk hC (is := [(.aload_n 0, 0)]) (pc' := 35) (ls' := [(0, .ref (ga G 0)), (1, .int x1), (2, .int x2)]) (st' := [.ref (ga G 0)]) (by decide +kernel) rfl ?_
      refine gX11_0 hC lfX11_10 (by decide +kernel) ?_
      refine v_blk hC (is := [(.iload_n 2, 0)]) (pc' := 39) (ls' := [(0, .ref (ga G 0)), (1, .int x1), (2, .int x2)]) (st' := [.int x2, .ref (ga G 1)]) (by decide +kernel) rfl ?_
      obtain ⟨v1, s2, e3, h⟩ := bndI h
      refine v_cVN (idx := 145) hC ⟨List.mem_of_getElem? (i := 41) (by decide +kernel), tiX3_crew, tvX3_crew, tnX3_crew, tcX3_crew, tmX3_crew⟩ (isO_X3 cape1) rfl (c_X3_crew cape1 e3) (by decide) (by decide) (by decide +kernel) (rest := []) rfl rfl (Nat.le_of_ble_eq_true rfl) rfl ?_
      refine v_if_eq hC (off := 16) (tgt := 58) (by decide +kernel) (by decide) h (fun hq h => ?_) (fun hq h => ?_)
      · exact (hB58 _ hk29) _ _ _ h
      · refine v_blk hC (is := [(.aload_n 0, 0)]) (pc' := 46) (ls' := [(0, .ref (ga G 0)), (1, .int x1), (2, .int x2)]) (st' := [.ref (ga G 0)]) (by decide +kernel) rfl ?_
        refine gX11_2 hC lfX11_19 (by decide +kernel) ?_
        refine v_blk hC (is := [(.iload_n 2, 0)]) (pc' := 50) (ls' := [(0, .ref (ga G 0)), (1, .int x1), (2, .int x2)]) (st' := [.int x2, .ref (ga G 3)]) (by decide +kernel) rfl ?_
        obtain ⟨v4, s5, e6, h⟩ := bndI h
        refine v_cVN (idx := 145) hC ⟨List.mem_of_getElem? (i := 41) (by decide +kernel), tiX3_crew, tvX3_crew, tnX3_crew, tcX3_crew, tmX3_crew⟩ (isO_X3 cape3) rfl (c_X3_crew cape3 e6) (by decide) (by decide) (by decide +kernel) (rest := []) rfl rfl (Nat.le_of_ble_eq_true rfl) rfl ?_
        refine v_if_ne hC (off := 5) (tgt := 58) (by decide +kernel) (by decide) h (fun hq h => ?_) (fun hq h => ?_)
        · exact (hB58 _ hk29) _ _ _ h
        · refine v_blk hC (is := [(.iload_n 1, 0)]) (pc' := 57) (ls' := [(0, .ref (ga G 0)), (1, .int x1), (2, .int x2)]) (st' := [.int x1]) (by decide +kernel) rfl ?_
          exact v_iret hC h (by decide +kernel)
  have hL29 : ∀ (k64 : Int32 → Mem → Option (Int32 × Mem)), (∀ (x1 : Int32), ∀ σ : Mem, k64 x1 σ = some res → V G 6 3 X ((some (.int res.1)), res.2) σ [(0, .ref (ga G 0)), (1, .int x1)] [] 64) → ∀ f : Nat, ∀ (x1 : Int32), ∀ (x2 : Int32), ∀ σ : Mem, p_X11_unmanned_L29 k64  f x1 x2 σ = some res → V G 6 3 X ((some (.int res.1)), res.2) σ [(0, .ref (ga G 0)), (1, .int x1), (2, .int x2)] [] 29 := by
    intro k64 hk64 f
    induction f with
    | zero => intro x1 x2 σ h; exact none_some h
    | succ f ih => intro x1 x2 σ h; exact hB29 (p_X11_unmanned_L29 k64  f) k64 ih hk64 x1 x2 σ h
  have hB13 : ∀ (k13 : Int32 → Mem → Option (Int32 × Mem)), (∀ (x1 : Int32), ∀ σ : Mem, k13 x1 σ = some res → V G 6 3 X ((some (.int res.1)), res.2) σ [(0, .ref (ga G 0)), (1, .int x1)] [] 13) → ∀ (x1 : Int32), ∀ σ : Mem, p_X11_unmanned_B13 k13  x1 σ = some res → V G 6 3 X ((some (.int res.1)), res.2) σ [(0, .ref (ga G 0)), (1, .int x1)] [] 13 := by
    intro k13 hk13 x1 σ h
    unfold p_X11_unmanned_B13 at h
    refine v_blk hC (is := [(.iload_n 1, 0), (.bipush 60, (60 : Int32))]) (pc' := 16) (ls' := [(0, .ref (ga G 0)), (1, .int x1)]) (st' := [.int (60 : Int32), .int x1]) (by decide +kernel) rfl ?_
    refine v_icmp_gt hC (off := 54) (tgt := 70) (by decide +kernel) (by decide) h (fun hq h => ?_) (fun hq h => ?_)
    · refine v_blk hC (is := [(.bipush (-4), (-4 : Int32))]) (pc' := 72) (ls' := [(0, .ref (ga G 0)), (1, .int x1)]) (st' := [.int (-4 : Int32)]) (by decide +kernel) rfl ?_
      exact v_iret hC h (by decide +kernel)
    · refine v_blk hC (is := [(.aload_n 0, 0)]) (pc' := 20) (ls' := [(0, .ref (ga G 0)), (1, .int x1)]) (st' := [.ref (ga G 0)]) (by decide +kernel) rfl ?_
      refine gX11_2 hC lfX11_19 (by decide +kernel) ?_
      refine v_blk hC (is := [(.iconst 1, (1 : Int32))]) (pc' := 24) (ls' := [(0, .ref (ga G 0)), (1, .int x1)]) (st' := [.int (1 : Int32), .ref (ga G 3)]) (by decide +kernel) rfl ?_
      obtain ⟨v7, s8, e9, h⟩ := bndI h
      refine v_cVN (idx := 200) hC ⟨List.mem_of_getElem? (i := 56) (by decide +kernel), tiX3_sails, tvX3_sails, tnX3_sails, tcX3_sails, tmX3_sails⟩ (isO_X3 cape3) rfl (c_X3_sails cape3 e9) (by decide) (by decide) (by decide +kernel) (rest := []) rfl rfl (Nat.le_of_ble_eq_true rfl) rfl ?_
      refine v_blk hC (is := [(.iconst 0, (0 : Int32)), (.istore_n 2, 0)]) (pc' := 29) (ls' := [(2, .int (0 : Int32)), (0, .ref (ga G 0)), (1, .int x1)]) (st' := []) (by decide +kernel) rfl ?_
      refine v_sub [1, 2, 0] (ls' := [(0, .ref (ga G 0)), (1, .int x1), (2, .int (0 : Int32))]) rfl ?_
      exact (hL29 _ (fun x1  m10 h => by
            refine v_blk hC (is := [(.iinc 1 1, (1 : Int32))]) (pc' := 67) (ls' := [(1, .int (x1 + (1 : Int32))), (0, .ref (ga G 0))]) (st' := []) (by decide +kernel) rfl ?_
            refine v_goto hC (off := (-54)) (tgt := 13) (by decide +kernel) (by decide) ?_
            refine v_sub [1, 0] (ls' := [(0, .ref (ga G 0)), (1, .int (x1 + (1 : Int32)))]) rfl ?_
            exact hk13 _ _ h) 1000) _ _ _ h
  have hL13 : ∀ f : Nat, ∀ (x1 : Int32), ∀ σ : Mem, p_X11_unmanned_L13  f x1 σ = some res → V G 6 3 X ((some (.int res.1)), res.2) σ [(0, .ref (ga G 0)), (1, .int x1)] [] 13 := by
    intro  f
    induction f with
    | zero => intro x1 σ h; exact none_some h
    | succ f ih => intro x1 σ h; exact hB13 (p_X11_unmanned_L13  f)  ih  x1 σ h
  unfold p_X11_unmanned at h
  show V G 6 3 X ((some (.int res.1)), res.2) σ [(0, .ref (ga G 0))] [] 0
  refine v_blk hC (is := [(.aload_n 0, 0)]) (pc' := 1) (ls' := [(0, .ref (ga G 0))]) (st' := [.ref (ga G 0)]) (by decide +kernel) rfl ?_
  refine gX11_2 hC lfX11_19 (by decide +kernel) ?_
  refine v_blk hC (is := [(.aload_n 0, 0)]) (pc' := 5) (ls' := [(0, .ref (ga G 0))]) (st' := [.ref (ga G 0), .ref (ga G 3)]) (by decide +kernel) rfl ?_
  refine gX11_0 hC lfX11_10 (by decide +kernel) ?_
  obtain ⟨v11, s12, e13, h⟩ := bndI h
  refine v_cVN (idx := 48) hC ⟨List.mem_of_getElem? (i := 19) (by decide +kernel), tiX3_becomes, tvX3_becomes, tnX3_becomes, tcX3_becomes, tmX3_becomes⟩ (isO_X3 cape3) rfl (c_X3_becomes cape3 cape1 e13) (by decide) (by decide) (by decide +kernel) (rest := []) rfl rfl (Nat.le_of_ble_eq_true rfl) rfl ?_
  refine v_blk hC (is := [(.iconst 1, (1 : Int32)), (.istore_n 1, 0)]) (pc' := 13) (ls' := [(1, .int (1 : Int32)), (0, .ref (ga G 0))]) (st' := []) (by decide +kernel) rfl ?_
  refine v_sub [1, 0] (ls' := [(0, .ref (ga G 0)), (1, .int (1 : Int32))]) rfl ?_
  exact (hL13 1000) _ _ h

def p_X11_falls (x1 : Int32) (x2 : Int32) (σ : Mem) : Option (Int32 × Mem) := (bnd (p_X11_isBoat x1 σ) fun v1 s2 => (if v1 = 0 then some ((-1 : Int32), s2) else (bnd (p_X11_isPart x2 s2) fun v4 s5 => (if v4 = 0 then some ((-1 : Int32), s5) else (lt (s5 1 9) fun v7 => (bnd (p_X3_faller 1 x1 (v7 + (1 : Int32)) s5) fun v8 s9 => (if v8 < 0 then some (v8, s9) else (if x2 = 0 then some (v8, s9) else (lt (s9 1 9) fun v11 => (bnd (p_X3_saver 1 v8 (v11 + (1 : Int32)) s9) fun v12 s13 => some (v12, s13)))))))))))
set_option maxHeartbeats 4000000 in
set_option maxRecDepth 100000 in
theorem c_X11_falls {G : Gl} {x1 : Int32} {x2 : Int32} {σ : Mem} {res : Int32 × Mem}  (h : p_X11_falls x1 x2 σ = some res) : MetX G yX11_falls cX11_falls 4 (some .int) 5 [.ref (ga G 0), .int x1, .int x2] σ (some (.int res.1)) res.2 := by
  refine met_V (by decide +kernel) (Nat.le_of_ble_eq_true rfl) (fun X hC => ?_)
  have hC : Ok G 5 4 X cX11_falls RX11 (some .int) := hC
  unfold p_X11_falls at h
  show V G 5 4 X ((some (.int res.1)), res.2) σ [(0, .ref (ga G 0)), (1, .int x1), (2, .int x2)] [] 0
  refine v_blk hC (is := [(.iload_n 1, 0)]) (pc' := 1) (ls' := [(0, .ref (ga G 0)), (1, .int x1), (2, .int x2)]) (st' := [.int x1]) (by decide +kernel) rfl ?_
  obtain ⟨v1, s2, e3, h⟩ := bndI h
  refine v_cS (idx := 138) hC ⟨tt_at 590 (by decide +kernel) rfl, tsX11_isBoat, tnX11_isBoat, tcX11_isBoat, tmX11_isBoat⟩ (c_X11_isBoat e3) (by decide) (by decide) (by decide +kernel) (rest := []) rfl rfl (Nat.le_of_ble_eq_true rfl) rfl ?_
  refine v_if_eq hC (off := 10) (tgt := 14) (by decide +kernel) (by decide) h (fun hq h => ?_) (fun hq h => ?_)
  · refine v_blk hC (is := [(.iconst (-1), (-1 : Int32))]) (pc' := 15) (ls' := [(0, .ref (ga G 0)), (1, .int x1), (2, .int x2)]) (st' := [.int (-1 : Int32)]) (by decide +kernel) rfl ?_
    exact v_iret hC h (by decide +kernel)
  · refine v_blk hC (is := [(.iload_n 2, 0)]) (pc' := 8) (ls' := [(0, .ref (ga G 0)), (1, .int x1), (2, .int x2)]) (st' := [.int x2]) (by decide +kernel) rfl ?_
    obtain ⟨v4, s5, e6, h⟩ := bndI h
    refine v_cS (idx := 151) hC ⟨tt_at 613 (by decide +kernel) rfl, tsX11_isPart, tnX11_isPart, tcX11_isPart, tmX11_isPart⟩ (c_X11_isPart e6) (by decide) (by decide) (by decide +kernel) (rest := []) rfl rfl (Nat.le_of_ble_eq_true rfl) rfl ?_
    refine v_if_ne hC (off := 5) (tgt := 16) (by decide +kernel) (by decide) h (fun hq h => ?_) (fun hq h => ?_)
    · refine v_blk hC (is := [(.aload_n 0, 0)]) (pc' := 17) (ls' := [(0, .ref (ga G 0)), (1, .int x1), (2, .int x2)]) (st' := [.ref (ga G 0)]) (by decide +kernel) rfl ?_
      refine gX11_0 hC lfX11_10 (by decide +kernel) ?_
      refine v_blk hC (is := [(.iload_n 1, 0), (.aload_n 0, 0)]) (pc' := 22) (ls' := [(0, .ref (ga G 0)), (1, .int x1), (2, .int x2)]) (st' := [.ref (ga G 0), .int x1, .ref (ga G 1)]) (by decide +kernel) rfl ?_
      refine gX11_0 hC lfX11_10 (by decide +kernel) ?_
      refine gX3_9 hC cape1 lfX11_89 (by decide +kernel) h (fun v7 h => ?_)
      refine v_blk hC (is := [(.iconst 1, (1 : Int32)), (.iadd, 0)]) (pc' := 30) (ls' := [(0, .ref (ga G 0)), (1, .int x1), (2, .int x2)]) (st' := [.int (v7 + (1 : Int32)), .int x1, .ref (ga G 1)]) (by decide +kernel) rfl ?_
      obtain ⟨v8, s9, e10, h⟩ := bndI h
      refine v_cVN (idx := 207) hC ⟨List.mem_of_getElem? (i := 58) (by decide +kernel), tiX3_faller, tvX3_faller, tnX3_faller, tcX3_faller, tmX3_faller⟩ (isO_X3 cape1) rfl (c_X3_faller cape1 e10) (by decide) (by decide) (by decide +kernel) (rest := []) rfl rfl (Nat.le_of_ble_eq_true rfl) rfl ?_
      refine v_blk hC (is := [(.istore_n 3, 0), (.iload_n 3, 0)]) (pc' := 35) (ls' := [(3, .int v8), (0, .ref (ga G 0)), (1, .int x1), (2, .int x2)]) (st' := [.int v8]) (by decide +kernel) rfl ?_
      refine v_if_lt hC (off := 7) (tgt := 42) (by decide +kernel) (by decide) h (fun hq h => ?_) (fun hq h => ?_)
      · refine v_blk hC (is := [(.iload_n 3, 0)]) (pc' := 43) (ls' := [(3, .int v8), (0, .ref (ga G 0)), (1, .int x1), (2, .int x2)]) (st' := [.int v8]) (by decide +kernel) rfl ?_
        exact v_iret hC h (by decide +kernel)
      · refine v_blk hC (is := [(.iload_n 2, 0)]) (pc' := 39) (ls' := [(3, .int v8), (0, .ref (ga G 0)), (1, .int x1), (2, .int x2)]) (st' := [.int x2]) (by decide +kernel) rfl ?_
        refine v_if_ne hC (off := 5) (tgt := 44) (by decide +kernel) (by decide) h (fun hq h => ?_) (fun hq h => ?_)
        · refine v_blk hC (is := [(.aload_n 0, 0)]) (pc' := 45) (ls' := [(3, .int v8), (0, .ref (ga G 0)), (1, .int x1), (2, .int x2)]) (st' := [.ref (ga G 0)]) (by decide +kernel) rfl ?_
          refine gX11_0 hC lfX11_10 (by decide +kernel) ?_
          refine v_blk hC (is := [(.iload_n 3, 0), (.aload_n 0, 0)]) (pc' := 50) (ls' := [(3, .int v8), (0, .ref (ga G 0)), (1, .int x1), (2, .int x2)]) (st' := [.ref (ga G 0), .int v8, .ref (ga G 1)]) (by decide +kernel) rfl ?_
          refine gX11_0 hC lfX11_10 (by decide +kernel) ?_
          refine gX3_9 hC cape1 lfX11_89 (by decide +kernel) h (fun v11 h => ?_)
          refine v_blk hC (is := [(.iconst 1, (1 : Int32)), (.iadd, 0)]) (pc' := 58) (ls' := [(3, .int v8), (0, .ref (ga G 0)), (1, .int x1), (2, .int x2)]) (st' := [.int (v11 + (1 : Int32)), .int v8, .ref (ga G 1)]) (by decide +kernel) rfl ?_
          obtain ⟨v12, s13, e14, h⟩ := bndI h
          refine v_cVN (idx := 210) hC ⟨List.mem_of_getElem? (i := 59) (by decide +kernel), tiX3_saver, tvX3_saver, tnX3_saver, tcX3_saver, tmX3_saver⟩ (isO_X3 cape1) rfl (c_X3_saver cape1 e14) (by decide) (by decide) (by decide +kernel) (rest := []) rfl rfl (Nat.le_of_ble_eq_true rfl) rfl ?_
          exact v_iret hC h (by decide +kernel)
        · refine v_blk hC (is := [(.iload_n 3, 0)]) (pc' := 43) (ls' := [(3, .int v8), (0, .ref (ga G 0)), (1, .int x1), (2, .int x2)]) (st' := [.int v8]) (by decide +kernel) rfl ?_
          exact v_iret hC h (by decide +kernel)
    · refine v_blk hC (is := [(.iconst (-1), (-1 : Int32))]) (pc' := 15) (ls' := [(0, .ref (ga G 0)), (1, .int x1), (2, .int x2)]) (st' := [.int (-1 : Int32)]) (by decide +kernel) rfl ?_
      exact v_iret hC h (by decide +kernel)

def p_X11_keepAshore_B126 (k45 : Int32 → Int32 → Int32 → Mem → Option (Int32 × Mem)) (x1 : Int32) (x2 : Int32) (x3 : Int32) (x4 : Int32) (σ : Mem) : Option (Int32 × Mem) := k45 x2 x3 (x4 + (1 : Int32)) σ
def p_X11_keepAshore_B45 (k45 : Int32 → Int32 → Int32 → Mem → Option (Int32 × Mem)) (x1 : Int32) (x2 : Int32) (x3 : Int32) (x4 : Int32) (σ : Mem) : Option (Int32 × Mem) := (lt (σ 1 5) fun v1 => (if v1 ≤ x4 then some (x3, σ) else (if x4 < 0 ∨ 8 ≤ (x4).toNatClampNeg then none else lt (σ (30 + 1) (x4).toNatClampNeg) fun v2 => (bnd (p_X11_isBoat v2 σ) fun v3 s4 => (if v3 = 0 then (p_X11_keepAshore_B126 k45 x1) x2 x3 x4 s4 else (bnd (p_X3_becomes 3 1 s4) fun (v6 : Unit) s7 => (if x4 < 0 ∨ 8 ≤ (x4).toNatClampNeg then none else wr s7 (30 + 3) (x4).toNatClampNeg (9 : Int32) fun s9 => (bnd (p_X3_sails 3 x1 s9) fun (v10 : Unit) s11 => (bnd (p_X3_lostOnes 3 s11) fun v13 s14 => (if x2 ≤ v13 then (p_X11_keepAshore_B126 k45 x1) x2 x3 x4 s14 else (bnd (p_X3_lostOnes 3 s14) fun v16 s17 => (p_X11_keepAshore_B126 k45 x1) v16 x4 x4 s17)))))))))))
def p_X11_keepAshore_L45  (x1 : Int32) : Nat → Int32 → Int32 → Int32 → Mem → Option (Int32 × Mem)
  | 0 => fun _ _ _ _ => none
  | f + 1 => p_X11_keepAshore_B45 (p_X11_keepAshore_L45 x1 f) x1
def p_X11_keepAshore (x1 : Int32) (σ : Mem) : Option (Int32 × Mem) := (bnd (p_X11_within x1 (0 : Int32) (60 : Int32) σ) fun v19 s20 => (if v19 = 0 then some ((-1 : Int32), s20) else (bnd (p_X3_becomes 3 1 s20) fun (v22 : Unit) s23 => (bnd (p_X3_sails 3 x1 s23) fun (v25 : Unit) s26 => (bnd (p_X3_lostOnes 3 s26) fun v28 s29 => (p_X11_keepAshore_L45 x1 1000) v28 (-4 : Int32) (0 : Int32) s29)))))
set_option maxHeartbeats 4000000 in
set_option maxRecDepth 100000 in
theorem c_X11_keepAshore {G : Gl} {x1 : Int32} {σ : Mem} {res : Int32 × Mem}  (h : p_X11_keepAshore x1 σ = some res) : MetX G yX11_keepAshore cX11_keepAshore 5 (some .int) 6 [.ref (ga G 0), .int x1] σ (some (.int res.1)) res.2 := by
  refine met_V (by decide +kernel) (Nat.le_of_ble_eq_true rfl) (fun X hC => ?_)
  have hC : Ok G 6 5 X cX11_keepAshore RX11 (some .int) := hC
  have hB126 : ∀ (k45 : Int32 → Int32 → Int32 → Mem → Option (Int32 × Mem)), (∀ (x2 : Int32), ∀ (x3 : Int32), ∀ (x4 : Int32), ∀ σ : Mem, k45 x2 x3 x4 σ = some res → V G 6 5 X ((some (.int res.1)), res.2) σ [(0, .ref (ga G 0)), (1, .int x1), (2, .int x2), (3, .int x3), (4, .int x4)] [] 45) → ∀ (x2 : Int32), ∀ (x3 : Int32), ∀ (x4 : Int32), ∀ σ : Mem, p_X11_keepAshore_B126 k45 x1 x2 x3 x4 σ = some res → V G 6 5 X ((some (.int res.1)), res.2) σ [(0, .ref (ga G 0)), (1, .int x1), (2, .int x2), (3, .int x3), (4, .int x4)] [] 126 := by
    intro k45 hk45 x2 x3 x4 σ h
    unfold p_X11_keepAshore_B126 at h
    refine v_blk hC (is := [(.iinc 4 1, (1 : Int32))]) (pc' := 129) (ls' := [(4, .int (x4 + (1 : Int32))), (0, .ref (ga G 0)), (1, .int x1), (2, .int x2), (3, .int x3)]) (st' := []) (by decide +kernel) rfl ?_
    refine v_goto hC (off := (-84)) (tgt := 45) (by decide +kernel) (by decide) ?_
    refine v_sub [1, 2, 3, 4, 0] (ls' := [(0, .ref (ga G 0)), (1, .int x1), (2, .int x2), (3, .int x3), (4, .int (x4 + (1 : Int32)))]) rfl ?_
    exact hk45 _ _ _ _ h
  have hB45 : ∀ (k45 : Int32 → Int32 → Int32 → Mem → Option (Int32 × Mem)), (∀ (x2 : Int32), ∀ (x3 : Int32), ∀ (x4 : Int32), ∀ σ : Mem, k45 x2 x3 x4 σ = some res → V G 6 5 X ((some (.int res.1)), res.2) σ [(0, .ref (ga G 0)), (1, .int x1), (2, .int x2), (3, .int x3), (4, .int x4)] [] 45) → ∀ (x2 : Int32), ∀ (x3 : Int32), ∀ (x4 : Int32), ∀ σ : Mem, p_X11_keepAshore_B45 k45 x1 x2 x3 x4 σ = some res → V G 6 5 X ((some (.int res.1)), res.2) σ [(0, .ref (ga G 0)), (1, .int x1), (2, .int x2), (3, .int x3), (4, .int x4)] [] 45 := by
    intro k45 hk45 x2 x3 x4 σ h
    unfold p_X11_keepAshore_B45 at h
    refine v_blk hC (is := [(.iload 4, 0), (.aload_n 0, 0)]) (pc' := 48) (ls' := [(0, .ref (ga G 0)), (1, .int x1), (2, .int x2), (3, .int x3), (4, .int x4)]) (st' := [.ref (ga G 0), .int x4]) (by decide +kernel) rfl ?_
    refine gX11_0 hC lfX11_10 (by decide +kernel) ?_
    refine gX3_5 hC cape1 lfX11_187 (by decide +kernel) h (fun v1 h => ?_)
    refine v_icmp_ge hC (off := 78) (tgt := 132) (by decide +kernel) (by decide) h (fun hq h => ?_) (fun hq h => ?_)
    · refine v_blk hC (is := [(.iload_n 3, 0)]) (pc' := 133) (ls' := [(0, .ref (ga G 0)), (1, .int x1), (2, .int x2), (3, .int x3), (4, .int x4)]) (st' := [.int x3]) (by decide +kernel) rfl ?_
      exact v_iret hC h (by decide +kernel)
    · refine v_blk hC (is := [(.aload_n 0, 0)]) (pc' := 58) (ls' := [(0, .ref (ga G 0)), (1, .int x1), (2, .int x2), (3, .int x3), (4, .int x4)]) (st' := [.ref (ga G 0)]) (by decide +kernel) rfl ?_
      refine gX11_0 hC lfX11_10 (by decide +kernel) ?_
      refine gX3_3 hC cape1 lfX11_74 (by decide +kernel) ?_
      refine v_blk hC (is := [(.iload 4, 0)]) (pc' := 66) (ls' := [(0, .ref (ga G 0)), (1, .int x1), (2, .int x2), (3, .int x3), (4, .int x4)]) (st' := [.int x4, .ref (ga G (30 + 1))]) (by decide +kernel) rfl ?_
      refine v_iald hC (isA_boat cape1) (al_boat cape1) (by decide +kernel) h (fun v2 h => ?_)
      obtain ⟨v3, s4, e5, h⟩ := bndI h
      refine v_cS (idx := 138) hC ⟨tt_at 590 (by decide +kernel) rfl, tsX11_isBoat, tnX11_isBoat, tcX11_isBoat, tmX11_isBoat⟩ (c_X11_isBoat e5) (by decide) (by decide) (by decide +kernel) (rest := []) rfl rfl (Nat.le_of_ble_eq_true rfl) rfl ?_
      refine v_if_eq hC (off := 56) (tgt := 126) (by decide +kernel) (by decide) h (fun hq h => ?_) (fun hq h => ?_)
      · exact (hB126 _ hk45) _ _ _ _ h
      · refine v_blk hC (is := [(.aload_n 0, 0)]) (pc' := 74) (ls' := [(0, .ref (ga G 0)), (1, .int x1), (2, .int x2), (3, .int x3), (4, .int x4)]) (st' := [.ref (ga G 0)]) (by decide +kernel) rfl ?_
        refine gX11_2 hC lfX11_19 (by decide +kernel) ?_
        refine v_blk hC (is := [(.aload_n 0, 0)]) (pc' := 78) (ls' := [(0, .ref (ga G 0)), (1, .int x1), (2, .int x2), (3, .int x3), (4, .int x4)]) (st' := [.ref (ga G 0), .ref (ga G 3)]) (by decide +kernel) rfl ?_
        refine gX11_0 hC lfX11_10 (by decide +kernel) ?_
        obtain ⟨v6, s7, e8, h⟩ := bndI h
        refine v_cVN (idx := 48) hC ⟨List.mem_of_getElem? (i := 19) (by decide +kernel), tiX3_becomes, tvX3_becomes, tnX3_becomes, tcX3_becomes, tmX3_becomes⟩ (isO_X3 cape3) rfl (c_X3_becomes cape3 cape1 e8) (by decide) (by decide) (by decide +kernel) (rest := []) rfl rfl (Nat.le_of_ble_eq_true rfl) rfl ?_
        refine v_blk hC (is := [(.aload_n 0, 0)]) (pc' := 85) (ls' := [(0, .ref (ga G 0)), (1, .int x1), (2, .int x2), (3, .int x3), (4, .int x4)]) (st' := [.ref (ga G 0)]) (by decide +kernel) rfl ?_
        refine gX11_2 hC lfX11_19 (by decide +kernel) ?_
        refine gX3_3 hC cape3 lfX11_74 (by decide +kernel) ?_
        refine v_blk hC (is := [(.iload 4, 0), (.bipush 9, (9 : Int32))]) (pc' := 95) (ls' := [(0, .ref (ga G 0)), (1, .int x1), (2, .int x2), (3, .int x3), (4, .int x4)]) (st' := [.int (9 : Int32), .int x4, .ref (ga G (30 + 3))]) (by decide +kernel) rfl ?_
        refine v_iast hC (isA_boat cape3) (al_boat cape3) (by decide +kernel) h (fun s9 h => ?_)
        refine v_blk hC (is := [(.aload_n 0, 0)]) (pc' := 97) (ls' := [(0, .ref (ga G 0)), (1, .int x1), (2, .int x2), (3, .int x3), (4, .int x4)]) (st' := [.ref (ga G 0)]) (by decide +kernel) rfl ?_
        refine gX11_2 hC lfX11_19 (by decide +kernel) ?_
        refine v_blk hC (is := [(.iload_n 1, 0)]) (pc' := 101) (ls' := [(0, .ref (ga G 0)), (1, .int x1), (2, .int x2), (3, .int x3), (4, .int x4)]) (st' := [.int x1, .ref (ga G 3)]) (by decide +kernel) rfl ?_
        obtain ⟨v10, s11, e12, h⟩ := bndI h
        refine v_cVN (idx := 200) hC ⟨List.mem_of_getElem? (i := 56) (by decide +kernel), tiX3_sails, tvX3_sails, tnX3_sails, tcX3_sails, tmX3_sails⟩ (isO_X3 cape3) rfl (c_X3_sails cape3 e12) (by decide) (by decide) (by decide +kernel) (rest := []) rfl rfl (Nat.le_of_ble_eq_true rfl) rfl ?_
        refine v_blk hC (is := [(.aload_n 0, 0)]) (pc' := 105) (ls' := [(0, .ref (ga G 0)), (1, .int x1), (2, .int x2), (3, .int x3), (4, .int x4)]) (st' := [.ref (ga G 0)]) (by decide +kernel) rfl ?_
        refine gX11_2 hC lfX11_19 (by decide +kernel) ?_
        obtain ⟨v13, s14, e15, h⟩ := bndI h
        refine v_cVN (idx := 204) hC ⟨List.mem_of_getElem? (i := 57) (by decide +kernel), tiX3_lostOnes, tvX3_lostOnes, tnX3_lostOnes, tcX3_lostOnes, tmX3_lostOnes⟩ (isO_X3 cape3) rfl (c_X3_lostOnes cape3 e15) (by decide) (by decide) (by decide +kernel) (rest := []) rfl rfl (Nat.le_of_ble_eq_true rfl) rfl ?_
        refine v_blk hC (is := [(.iload_n 2, 0)]) (pc' := 112) (ls' := [(0, .ref (ga G 0)), (1, .int x1), (2, .int x2), (3, .int x3), (4, .int x4)]) (st' := [.int x2, .int v13]) (by decide +kernel) rfl ?_
        refine v_icmp_ge hC (off := 14) (tgt := 126) (by decide +kernel) (by decide) h (fun hq h => ?_) (fun hq h => ?_)
        · exact (hB126 _ hk45) _ _ _ _ h
        · refine v_blk hC (is := [(.aload_n 0, 0)]) (pc' := 116) (ls' := [(0, .ref (ga G 0)), (1, .int x1), (2, .int x2), (3, .int x3), (4, .int x4)]) (st' := [.ref (ga G 0)]) (by decide +kernel) rfl ?_
          refine gX11_2 hC lfX11_19 (by decide +kernel) ?_
          obtain ⟨v16, s17, e18, h⟩ := bndI h
          refine v_cVN (idx := 204) hC ⟨List.mem_of_getElem? (i := 57) (by decide +kernel), tiX3_lostOnes, tvX3_lostOnes, tnX3_lostOnes, tcX3_lostOnes, tmX3_lostOnes⟩ (isO_X3 cape3) rfl (c_X3_lostOnes cape3 e18) (by decide) (by decide) (by decide +kernel) (rest := []) rfl rfl (Nat.le_of_ble_eq_true rfl) rfl ?_
          refine v_blk hC (is := [(.istore_n 2, 0), (.iload 4, 0), (.istore_n 3, 0)]) (pc' := 126) (ls' := [(3, .int x4), (2, .int v16), (0, .ref (ga G 0)), (1, .int x1), (4, .int x4)]) (st' := []) (by decide +kernel) rfl ?_
          refine v_sub [2, 3, 1, 0, 4] (ls' := [(0, .ref (ga G 0)), (1, .int x1), (2, .int v16), (3, .int x4), (4, .int x4)]) rfl ?_
          exact (hB126 _ hk45) _ _ _ _ h
  have hL45 : ∀ f : Nat, ∀ (x2 : Int32), ∀ (x3 : Int32), ∀ (x4 : Int32), ∀ σ : Mem, p_X11_keepAshore_L45 x1 f x2 x3 x4 σ = some res → V G 6 5 X ((some (.int res.1)), res.2) σ [(0, .ref (ga G 0)), (1, .int x1), (2, .int x2), (3, .int x3), (4, .int x4)] [] 45 := by
    intro  f
    induction f with
    | zero => intro x2 x3 x4 σ h; exact none_some h
    | succ f ih => intro x2 x3 x4 σ h; exact hB45 (p_X11_keepAshore_L45 x1 f)  ih  x2 x3 x4 σ h
  unfold p_X11_keepAshore at h
  show V G 6 5 X ((some (.int res.1)), res.2) σ [(0, .ref (ga G 0)), (1, .int x1)] [] 0
  refine v_blk hC (is := [(.iload_n 1, 0), (.iconst 0, (0 : Int32)), (.bipush 60, (60 : Int32))]) (pc' := 4) (ls' := [(0, .ref (ga G 0)), (1, .int x1)]) (st' := [.int (60 : Int32), .int (0 : Int32), .int x1]) (by decide +kernel) rfl ?_
  obtain ⟨v19, s20, e21, h⟩ := bndI h
  refine v_cS (idx := 168) hC ⟨tt_at 300 (by decide +kernel) rfl, tsX11_within, tnX11_within, tcX11_within, tmX11_within⟩ (c_X11_within e21) (by decide) (by decide) (by decide +kernel) (rest := []) rfl rfl (Nat.le_of_ble_eq_true rfl) rfl ?_
  refine v_if_ne hC (off := 5) (tgt := 12) (by decide +kernel) (by decide) h (fun hq h => ?_) (fun hq h => ?_)
  · refine v_blk hC (is := [(.aload_n 0, 0)]) (pc' := 13) (ls' := [(0, .ref (ga G 0)), (1, .int x1)]) (st' := [.ref (ga G 0)]) (by decide +kernel) rfl ?_
    refine gX11_2 hC lfX11_19 (by decide +kernel) ?_
    refine v_blk hC (is := [(.aload_n 0, 0)]) (pc' := 17) (ls' := [(0, .ref (ga G 0)), (1, .int x1)]) (st' := [.ref (ga G 0), .ref (ga G 3)]) (by decide +kernel) rfl ?_
    refine gX11_0 hC lfX11_10 (by decide +kernel) ?_
    obtain ⟨v22, s23, e24, h⟩ := bndI h
    refine v_cVN (idx := 48) hC ⟨List.mem_of_getElem? (i := 19) (by decide +kernel), tiX3_becomes, tvX3_becomes, tnX3_becomes, tcX3_becomes, tmX3_becomes⟩ (isO_X3 cape3) rfl (c_X3_becomes cape3 cape1 e24) (by decide) (by decide) (by decide +kernel) (rest := []) rfl rfl (Nat.le_of_ble_eq_true rfl) rfl ?_
    refine v_blk hC (is := [(.aload_n 0, 0)]) (pc' := 24) (ls' := [(0, .ref (ga G 0)), (1, .int x1)]) (st' := [.ref (ga G 0)]) (by decide +kernel) rfl ?_
    refine gX11_2 hC lfX11_19 (by decide +kernel) ?_
    refine v_blk hC (is := [(.iload_n 1, 0)]) (pc' := 28) (ls' := [(0, .ref (ga G 0)), (1, .int x1)]) (st' := [.int x1, .ref (ga G 3)]) (by decide +kernel) rfl ?_
    obtain ⟨v25, s26, e27, h⟩ := bndI h
    refine v_cVN (idx := 200) hC ⟨List.mem_of_getElem? (i := 56) (by decide +kernel), tiX3_sails, tvX3_sails, tnX3_sails, tcX3_sails, tmX3_sails⟩ (isO_X3 cape3) rfl (c_X3_sails cape3 e27) (by decide) (by decide) (by decide +kernel) (rest := []) rfl rfl (Nat.le_of_ble_eq_true rfl) rfl ?_
    refine v_blk hC (is := [(.aload_n 0, 0)]) (pc' := 32) (ls' := [(0, .ref (ga G 0)), (1, .int x1)]) (st' := [.ref (ga G 0)]) (by decide +kernel) rfl ?_
    refine gX11_2 hC lfX11_19 (by decide +kernel) ?_
    obtain ⟨v28, s29, e30, h⟩ := bndI h
    refine v_cVN (idx := 204) hC ⟨List.mem_of_getElem? (i := 57) (by decide +kernel), tiX3_lostOnes, tvX3_lostOnes, tnX3_lostOnes, tcX3_lostOnes, tmX3_lostOnes⟩ (isO_X3 cape3) rfl (c_X3_lostOnes cape3 e30) (by decide) (by decide) (by decide +kernel) (rest := []) rfl rfl (Nat.le_of_ble_eq_true rfl) rfl ?_
    refine v_blk hC (is := [(.istore_n 2, 0), (.bipush (-4), (-4 : Int32)), (.istore_n 3, 0), (.iconst 0, (0 : Int32)), (.istore 4, 0)]) (pc' := 45) (ls' := [(4, .int (0 : Int32)), (3, .int (-4 : Int32)), (2, .int v28), (0, .ref (ga G 0)), (1, .int x1)]) (st' := []) (by decide +kernel) rfl ?_
    refine v_sub [3, 4, 2, 1, 0] (ls' := [(0, .ref (ga G 0)), (1, .int x1), (2, .int v28), (3, .int (-4 : Int32)), (4, .int (0 : Int32))]) rfl ?_
    exact (hL45 1000) _ _ _ _ h
  · refine v_blk hC (is := [(.iconst (-1), (-1 : Int32))]) (pc' := 11) (ls' := [(0, .ref (ga G 0)), (1, .int x1)]) (st' := [.int (-1 : Int32)]) (by decide +kernel) rfl ?_
    exact v_iret hC h (by decide +kernel)

def p_X11_calm_B14 (k14 : Int32 → Mem → Option (Int32 × Mem)) (x1 : Int32) (x2 : Int32) (σ : Mem) : Option (Int32 × Mem) := (if (10 : Int32) ≤ x2 then some ((-4 : Int32), σ) else (bnd (p_X3_becomes 3 1 σ) fun (v1 : Unit) s2 => (wr s2 3 8 x2 fun s4 => (bnd (p_X3_sails 3 x1 s4) fun (v5 : Unit) s6 => (lt (s6 3 6) fun v8 => (lt (s6 1 6) fun v9 => (if v8 = v9 then some (x2, s6) else k14 (x2 + (1 : Int32)) s6)))))))
def p_X11_calm_L14  (x1 : Int32) : Nat → Int32 → Mem → Option (Int32 × Mem)
  | 0 => fun _ _ => none
  | f + 1 => p_X11_calm_B14 (p_X11_calm_L14 x1 f) x1
def p_X11_calm (x1 : Int32) (σ : Mem) : Option (Int32 × Mem) := (bnd (p_X11_within x1 (0 : Int32) (60 : Int32) σ) fun v10 s11 => (if v10 = 0 then some ((-1 : Int32), s11) else (p_X11_calm_L14 x1 1000) (0 : Int32) s11))
set_option maxHeartbeats 4000000 in
set_option maxRecDepth 100000 in
theorem c_X11_calm {G : Gl} {x1 : Int32} {σ : Mem} {res : Int32 × Mem}  (h : p_X11_calm x1 σ = some res) : MetX G yX11_calm cX11_calm 3 (some .int) 6 [.ref (ga G 0), .int x1] σ (some (.int res.1)) res.2 := by
  refine met_V (by decide +kernel) (Nat.le_of_ble_eq_true rfl) (fun X hC => ?_)
  have hC : Ok G 6 3 X cX11_calm RX11 (some .int) := hC
  have hB14 : ∀ (k14 : Int32 → Mem → Option (Int32 × Mem)), (∀ (x2 : Int32), ∀ σ : Mem, k14 x2 σ = some res → V G 6 3 X ((some (.int res.1)), res.2) σ [(0, .ref (ga G 0)), (1, .int x1), (2, .int x2)] [] 14) → ∀ (x2 : Int32), ∀ σ : Mem, p_X11_calm_B14 k14 x1 x2 σ = some res → V G 6 3 X ((some (.int res.1)), res.2) σ [(0, .ref (ga G 0)), (1, .int x1), (2, .int x2)] [] 14 := by
    intro k14 hk14 x2 σ h
    unfold p_X11_calm_B14 at h
    refine v_blk hC (is := [(.iload_n 2, 0), (.bipush 10, (10 : Int32))]) (pc' := 17) (ls' := [(0, .ref (ga G 0)), (1, .int x1), (2, .int x2)]) (st' := [.int (10 : Int32), .int x2]) (by decide +kernel) rfl ?_
    refine v_icmp_ge hC (off := 55) (tgt := 72) (by decide +kernel) (by decide) h (fun hq h => ?_) (fun hq h => ?_)
    · refine v_blk hC (is := [(.bipush (-4), (-4 : Int32))]) (pc' := 74) (ls' := [(0, .ref (ga G 0)), (1, .int x1), (2, .int x2)]) (st' := [.int (-4 : Int32)]) (by decide +kernel) rfl ?_
      exact v_iret hC h (by decide +kernel)
    · refine v_blk hC (is := [(.aload_n 0, 0)]) (pc' := 21) (ls' := [(0, .ref (ga G 0)), (1, .int x1), (2, .int x2)]) (st' := [.ref (ga G 0)]) (by decide +kernel) rfl ?_
      refine gX11_2 hC lfX11_19 (by decide +kernel) ?_
      refine v_blk hC (is := [(.aload_n 0, 0)]) (pc' := 25) (ls' := [(0, .ref (ga G 0)), (1, .int x1), (2, .int x2)]) (st' := [.ref (ga G 0), .ref (ga G 3)]) (by decide +kernel) rfl ?_
      refine gX11_0 hC lfX11_10 (by decide +kernel) ?_
      obtain ⟨v1, s2, e3, h⟩ := bndI h
      refine v_cVN (idx := 48) hC ⟨List.mem_of_getElem? (i := 19) (by decide +kernel), tiX3_becomes, tvX3_becomes, tnX3_becomes, tcX3_becomes, tmX3_becomes⟩ (isO_X3 cape3) rfl (c_X3_becomes cape3 cape1 e3) (by decide) (by decide) (by decide +kernel) (rest := []) rfl rfl (Nat.le_of_ble_eq_true rfl) rfl ?_
      refine v_blk hC (is := [(.aload_n 0, 0)]) (pc' := 32) (ls' := [(0, .ref (ga G 0)), (1, .int x1), (2, .int x2)]) (st' := [.ref (ga G 0)]) (by decide +kernel) rfl ?_
      refine gX11_2 hC lfX11_19 (by decide +kernel) ?_
      refine v_blk hC (is := [(.iload_n 2, 0)]) (pc' := 36) (ls' := [(0, .ref (ga G 0)), (1, .int x1), (2, .int x2)]) (st' := [.int x2, .ref (ga G 3)]) (by decide +kernel) rfl ?_
      refine pX3_8 hC cape3 lfX11_213 (by decide +kernel) h (fun s4 h => ?_)
      refine v_blk hC (is := [(.aload_n 0, 0)]) (pc' := 40) (ls' := [(0, .ref (ga G 0)), (1, .int x1), (2, .int x2)]) (st' := [.ref (ga G 0)]) (by decide +kernel) rfl ?_
      refine gX11_2 hC lfX11_19 (by decide +kernel) ?_
      refine v_blk hC (is := [(.iload_n 1, 0)]) (pc' := 44) (ls' := [(0, .ref (ga G 0)), (1, .int x1), (2, .int x2)]) (st' := [.int x1, .ref (ga G 3)]) (by decide +kernel) rfl ?_
      obtain ⟨v5, s6, e7, h⟩ := bndI h
      refine v_cVN (idx := 200) hC ⟨List.mem_of_getElem? (i := 56) (by decide +kernel), tiX3_sails, tvX3_sails, tnX3_sails, tcX3_sails, tmX3_sails⟩ (isO_X3 cape3) rfl (c_X3_sails cape3 e7) (by decide) (by decide) (by decide +kernel) (rest := []) rfl rfl (Nat.le_of_ble_eq_true rfl) rfl ?_
      refine v_blk hC (is := [(.aload_n 0, 0)]) (pc' := 48) (ls' := [(0, .ref (ga G 0)), (1, .int x1), (2, .int x2)]) (st' := [.ref (ga G 0)]) (by decide +kernel) rfl ?_
      refine gX11_2 hC lfX11_19 (by decide +kernel) ?_
      refine gX3_6 hC cape3 lfX11_216 (by decide +kernel) h (fun v8 h => ?_)
      refine v_blk hC (is := [(.aload_n 0, 0)]) (pc' := 55) (ls' := [(0, .ref (ga G 0)), (1, .int x1), (2, .int x2)]) (st' := [.ref (ga G 0), .int v8]) (by decide +kernel) rfl ?_
      refine gX11_0 hC lfX11_10 (by decide +kernel) ?_
      refine gX3_6 hC cape1 lfX11_216 (by decide +kernel) h (fun v9 h => ?_)
      refine v_icmp_ne hC (off := 5) (tgt := 66) (by decide +kernel) (by decide) h (fun hq h => ?_) (fun hq h => ?_)
      · refine v_blk hC (is := [(.iinc 2 1, (1 : Int32))]) (pc' := 69) (ls' := [(2, .int (x2 + (1 : Int32))), (0, .ref (ga G 0)), (1, .int x1)]) (st' := []) (by decide +kernel) rfl ?_
        refine v_goto hC (off := (-55)) (tgt := 14) (by decide +kernel) (by decide) ?_
        refine v_sub [1, 2, 0] (ls' := [(0, .ref (ga G 0)), (1, .int x1), (2, .int (x2 + (1 : Int32)))]) rfl ?_
        exact hk14 _ _ h
      · refine v_blk hC (is := [(.iload_n 2, 0)]) (pc' := 65) (ls' := [(0, .ref (ga G 0)), (1, .int x1), (2, .int x2)]) (st' := [.int x2]) (by decide +kernel) rfl ?_
        exact v_iret hC h (by decide +kernel)
  have hL14 : ∀ f : Nat, ∀ (x2 : Int32), ∀ σ : Mem, p_X11_calm_L14 x1 f x2 σ = some res → V G 6 3 X ((some (.int res.1)), res.2) σ [(0, .ref (ga G 0)), (1, .int x1), (2, .int x2)] [] 14 := by
    intro  f
    induction f with
    | zero => intro x2 σ h; exact none_some h
    | succ f ih => intro x2 σ h; exact hB14 (p_X11_calm_L14 x1 f)  ih  x2 σ h
  unfold p_X11_calm at h
  show V G 6 3 X ((some (.int res.1)), res.2) σ [(0, .ref (ga G 0)), (1, .int x1)] [] 0
  refine v_blk hC (is := [(.iload_n 1, 0), (.iconst 0, (0 : Int32)), (.bipush 60, (60 : Int32))]) (pc' := 4) (ls' := [(0, .ref (ga G 0)), (1, .int x1)]) (st' := [.int (60 : Int32), .int (0 : Int32), .int x1]) (by decide +kernel) rfl ?_
  obtain ⟨v10, s11, e12, h⟩ := bndI h
  refine v_cS (idx := 168) hC ⟨tt_at 300 (by decide +kernel) rfl, tsX11_within, tnX11_within, tcX11_within, tmX11_within⟩ (c_X11_within e12) (by decide) (by decide) (by decide +kernel) (rest := []) rfl rfl (Nat.le_of_ble_eq_true rfl) rfl ?_
  refine v_if_ne hC (off := 5) (tgt := 12) (by decide +kernel) (by decide) h (fun hq h => ?_) (fun hq h => ?_)
  · refine v_blk hC (is := [(.iconst 0, (0 : Int32)), (.istore_n 2, 0)]) (pc' := 14) (ls' := [(2, .int (0 : Int32)), (0, .ref (ga G 0)), (1, .int x1)]) (st' := []) (by decide +kernel) rfl ?_
    refine v_sub [1, 2, 0] (ls' := [(0, .ref (ga G 0)), (1, .int x1), (2, .int (0 : Int32))]) rfl ?_
    exact (hL14 1000) _ _ h
  · refine v_blk hC (is := [(.iconst (-1), (-1 : Int32))]) (pc' := 11) (ls' := [(0, .ref (ga G 0)), (1, .int x1)]) (st' := [.int (-1 : Int32)]) (by decide +kernel) rfl ?_
    exact v_iret hC h (by decide +kernel)

def p_X11_stranger_B103 (k56 : Int32 → Int32 → Int32 → Int32 → Mem → Option (Int32 × Mem)) (x1 : Int32) (x2 : Int32) (x3 : Int32) (x4 : Int32) (x5 : Int32) (x6 : Int32) (σ : Mem) : Option (Int32 × Mem) := k56 x3 x4 x5 (x6 + (1 : Int32)) σ
def p_X11_stranger_B118  (x1 : Int32) (x2 : Int32) (x4 : Int32) (σ : Mem) : Option (Int32 × Mem) := some (x4, σ)
def p_X11_stranger_B56 (k56 : Int32 → Int32 → Int32 → Int32 → Mem → Option (Int32 × Mem)) (k109 : Int32 → Int32 → Mem → Option (Int32 × Mem)) (x1 : Int32) (x2 : Int32) (x3 : Int32) (x4 : Int32) (x5 : Int32) (x6 : Int32) (σ : Mem) : Option (Int32 × Mem) := (if (3 : Int32) ≤ x6 then k109 x4 x5 σ else (bnd (p_X3_crew 1 x6 σ) fun v1 s2 => (if (v1 &&& (x3 ^^^ (-1 : Int32))) = 0 then (bnd (p_J6_bitCount_0f7a4 v1 s2) fun v4 s5 => (if v4 ≤ x5 then (p_X11_stranger_B103 k56 x1 x2) x3 x4 x5 x6 s5 else (bnd (p_J6_bitCount_0f7a4 v1 s5) fun v7 s8 => (p_X11_stranger_B103 k56 x1 x2) x3 x6 v7 x6 s8))) else (p_X11_stranger_B103 k56 x1 x2) x3 x4 x5 x6 s2)))
def p_X11_stranger_L56 (k109 : Int32 → Int32 → Mem → Option (Int32 × Mem)) (x1 : Int32) (x2 : Int32) : Nat → Int32 → Int32 → Int32 → Int32 → Mem → Option (Int32 × Mem)
  | 0 => fun _ _ _ _ _ => none
  | f + 1 => p_X11_stranger_B56 (p_X11_stranger_L56 k109 x1 x2 f) k109 x1 x2
def p_X11_stranger (x1 : Int32) (x2 : Int32) (σ : Mem) : Option (Int32 × Mem) := (bnd (p_X3_has 1 x1 σ) fun v10 s11 => (if v10 = 0 then some ((-1 : Int32), s11) else (bnd (p_X11_isPart x2 s11) fun v13 s14 => (if v13 = 0 then some ((-1 : Int32), s14) else (if x1 < 0 ∨ 8 ≤ (x1).toNatClampNeg then none else lt (s14 (30 + 1) (x1).toNatClampNeg) fun v16 => (if v16 = (9 : Int32) then (bnd (p_X3_friends 1 x1 s14) fun v17 s18 => (p_X11_stranger_L56 (fun (x4 : Int32) (x5 : Int32) (m20 : Mem) => (if x4 < 0 then (p_X11_stranger_B118 x1 x2) x4 m20 else (if x2 = 0 then (p_X11_stranger_B118 x1 x2) x4 m20 else some (x5, m20)))) x1 x2 1000) v17 (-4 : Int32) (0 : Int32) (0 : Int32) s18) else some ((-3 : Int32), s14)))))))
set_option maxHeartbeats 4000000 in
set_option maxRecDepth 100000 in
theorem c_X11_stranger {G : Gl} {x1 : Int32} {x2 : Int32} {σ : Mem} {res : Int32 × Mem}  (h : p_X11_stranger x1 x2 σ = some res) : MetX G yX11_stranger cX11_stranger 8 (some .int) 4 [.ref (ga G 0), .int x1, .int x2] σ (some (.int res.1)) res.2 := by
  refine met_V (by decide +kernel) (Nat.le_of_ble_eq_true rfl) (fun X hC => ?_)
  have hC : Ok G 4 8 X cX11_stranger RX11 (some .int) := hC
  have hB103 : ∀ (k56 : Int32 → Int32 → Int32 → Int32 → Mem → Option (Int32 × Mem)), (∀ (x3 : Int32), ∀ (x4 : Int32), ∀ (x5 : Int32), ∀ (x6 : Int32), ∀ σ : Mem, k56 x3 x4 x5 x6 σ = some res → V G 4 8 X ((some (.int res.1)), res.2) σ [(0, .ref (ga G 0)), (2, .int x2), (3, .int x3), (4, .int x4), (5, .int x5), (6, .int x6)] [] 56) → ∀ (x3 : Int32), ∀ (x4 : Int32), ∀ (x5 : Int32), ∀ (x6 : Int32), ∀ σ : Mem, p_X11_stranger_B103 k56 x1 x2 x3 x4 x5 x6 σ = some res → V G 4 8 X ((some (.int res.1)), res.2) σ [(0, .ref (ga G 0)), (2, .int x2), (3, .int x3), (4, .int x4), (5, .int x5), (6, .int x6)] [] 103 := by
    intro k56 hk56 x3 x4 x5 x6 σ h
    unfold p_X11_stranger_B103 at h
    refine v_blk hC (is := [(.iinc 6 1, (1 : Int32))]) (pc' := 106) (ls' := [(6, .int (x6 + (1 : Int32))), (0, .ref (ga G 0)), (2, .int x2), (3, .int x3), (4, .int x4), (5, .int x5)]) (st' := []) (by decide +kernel) rfl ?_
    refine v_goto hC (off := (-50)) (tgt := 56) (by decide +kernel) (by decide) ?_
    refine v_sub [1, 2, 3, 4, 5, 0] (ls' := [(0, .ref (ga G 0)), (2, .int x2), (3, .int x3), (4, .int x4), (5, .int x5), (6, .int (x6 + (1 : Int32)))]) rfl ?_
    exact hk56 _ _ _ _ _ h
  have hB118 : ∀ (x4 : Int32), ∀ σ : Mem, p_X11_stranger_B118 x1 x2 x4 σ = some res → V G 4 8 X ((some (.int res.1)), res.2) σ [(4, .int x4)] [] 118 := by
    intro x4 σ h
    unfold p_X11_stranger_B118 at h
    refine v_blk hC (is := [(.iload 4, 0)]) (pc' := 120) (ls' := [(4, .int x4)]) (st' := [.int x4]) (by decide +kernel) rfl ?_
    refine v_goto hC (off := 5) (tgt := 125) (by decide +kernel) (by decide) ?_
    exact v_iret hC h (by decide +kernel)
  have hB56 : ∀ (k56 : Int32 → Int32 → Int32 → Int32 → Mem → Option (Int32 × Mem)), ∀ (k109 : Int32 → Int32 → Mem → Option (Int32 × Mem)), (∀ (x3 : Int32), ∀ (x4 : Int32), ∀ (x5 : Int32), ∀ (x6 : Int32), ∀ σ : Mem, k56 x3 x4 x5 x6 σ = some res → V G 4 8 X ((some (.int res.1)), res.2) σ [(0, .ref (ga G 0)), (2, .int x2), (3, .int x3), (4, .int x4), (5, .int x5), (6, .int x6)] [] 56) → (∀ (x4 : Int32), ∀ (x5 : Int32), ∀ σ : Mem, k109 x4 x5 σ = some res → V G 4 8 X ((some (.int res.1)), res.2) σ [(2, .int x2), (4, .int x4), (5, .int x5)] [] 109) → ∀ (x3 : Int32), ∀ (x4 : Int32), ∀ (x5 : Int32), ∀ (x6 : Int32), ∀ σ : Mem, p_X11_stranger_B56 k56 k109 x1 x2 x3 x4 x5 x6 σ = some res → V G 4 8 X ((some (.int res.1)), res.2) σ [(0, .ref (ga G 0)), (2, .int x2), (3, .int x3), (4, .int x4), (5, .int x5), (6, .int x6)] [] 56 := by
    intro k56 k109 hk56 hk109 x3 x4 x5 x6 σ h
    unfold p_X11_stranger_B56 at h
    refine v_blk hC (is := [(.iload 6, 0), (.iconst 3, (3 : Int32))]) (pc' := 59) (ls' := [(0, .ref (ga G 0)), (2, .int x2), (3, .int x3), (4, .int x4), (5, .int x5), (6, .int x6)]) (st' := [.int (3 : Int32), .int x6]) (by decide +kernel) rfl ?_
    refine v_icmp_ge hC (off := 50) (tgt := 109) (by decide +kernel) (by decide) h (fun hq h => ?_) (fun hq h => ?_)
    · refine v_sub [1, 3, 4] (ls' := [(2, .int x2), (4, .int x4), (5, .int x5)]) rfl ?_
      exact hk109 _ _ _ h
    · refine v_blk hC (is := [(.aload_n 0, 0)]) (pc' := 63) (ls' := [(0, .ref (ga G 0)), (2, .int x2), (3, .int x3), (4, .int x4), (5, .int x5), (6, .int x6)]) (st' := [.ref (ga G 0)]) (by decide +kernel) rfl ?_
      refine gX11_0 hC lfX11_10 (by decide +kernel) ?_
      refine v_blk hC (is := [(.iload 6, 0)]) (pc' := 68) (ls' := [(0, .ref (ga G 0)), (2, .int x2), (3, .int x3), (4, .int x4), (5, .int x5), (6, .int x6)]) (st' := [.int x6, .ref (ga G 1)]) (by decide +kernel) rfl ?_
      obtain ⟨v1, s2, e3, h⟩ := bndI h
      refine v_cVN (idx := 145) hC ⟨List.mem_of_getElem? (i := 41) (by decide +kernel), tiX3_crew, tvX3_crew, tnX3_crew, tcX3_crew, tmX3_crew⟩ (isO_X3 cape1) rfl (c_X3_crew cape1 e3) (by decide) (by decide) (by decide +kernel) (rest := []) rfl rfl (Nat.le_of_ble_eq_true rfl) rfl ?_
      refine v_blk hC (is := [(.istore 7, 0), (.iload 7, 0), (.iload_n 3, 0), (.iconst (-1), (-1 : Int32)), (.ixor, 0), (.iand, 0)]) (pc' := 79) (ls' := [(7, .int v1), (0, .ref (ga G 0)), (2, .int x2), (3, .int x3), (4, .int x4), (5, .int x5), (6, .int x6)]) (st' := [.int (v1 &&& (x3 ^^^ (-1 : Int32)))]) (by decide +kernel) rfl ?_
      refine v_if_ne hC (off := 24) (tgt := 103) (by decide +kernel) (by decide) h (fun hq h => ?_) (fun hq h => ?_)
      · refine v_sub [1, 2, 3, 4, 5, 6] (ls' := [(0, .ref (ga G 0)), (2, .int x2), (3, .int x3), (4, .int x4), (5, .int x5), (6, .int x6)]) rfl ?_
        exact (hB103 _ hk56) _ _ _ _ _ h
      · refine v_blk hC (is := [(.iload 7, 0)]) (pc' := 84) (ls' := [(7, .int v1), (0, .ref (ga G 0)), (2, .int x2), (3, .int x3), (4, .int x4), (5, .int x5), (6, .int x6)]) (st' := [.int v1]) (by decide +kernel) rfl ?_
        obtain ⟨v4, s5, e6, h⟩ := bndI h
        refine v_cS (idx := 157) hC ⟨tt_at 626 (by decide +kernel) rfl, tsJ6_bitCount_0f7a4, tnJ6_bitCount_0f7a4, tcJ6_bitCount_0f7a4, tmJ6_bitCount_0f7a4⟩ (c_J6_bitCount_0f7a4 e6) (by decide) (by decide) (by decide +kernel) (rest := []) rfl rfl (Nat.le_of_ble_eq_true rfl) rfl ?_
        refine v_blk hC (is := [(.iload 5, 0)]) (pc' := 89) (ls' := [(7, .int v1), (0, .ref (ga G 0)), (2, .int x2), (3, .int x3), (4, .int x4), (5, .int x5), (6, .int x6)]) (st' := [.int x5, .int v4]) (by decide +kernel) rfl ?_
        refine v_icmp_le hC (off := 14) (tgt := 103) (by decide +kernel) (by decide) h (fun hq h => ?_) (fun hq h => ?_)
        · refine v_sub [1, 2, 3, 4, 5, 6] (ls' := [(0, .ref (ga G 0)), (2, .int x2), (3, .int x3), (4, .int x4), (5, .int x5), (6, .int x6)]) rfl ?_
          exact (hB103 _ hk56) _ _ _ _ _ h
        · refine v_blk hC (is := [(.iload 6, 0), (.istore 4, 0), (.iload 7, 0)]) (pc' := 98) (ls' := [(4, .int x6), (7, .int v1), (0, .ref (ga G 0)), (2, .int x2), (3, .int x3), (5, .int x5), (6, .int x6)]) (st' := [.int v1]) (by decide +kernel) rfl ?_
          obtain ⟨v7, s8, e9, h⟩ := bndI h
          refine v_cS (idx := 157) hC ⟨tt_at 626 (by decide +kernel) rfl, tsJ6_bitCount_0f7a4, tnJ6_bitCount_0f7a4, tcJ6_bitCount_0f7a4, tmJ6_bitCount_0f7a4⟩ (c_J6_bitCount_0f7a4 e9) (by decide) (by decide) (by decide +kernel) (rest := []) rfl rfl (Nat.le_of_ble_eq_true rfl) rfl ?_
          refine v_blk hC (is := [(.istore 5, 0)]) (pc' := 103) (ls' := [(5, .int v7), (4, .int x6), (7, .int v1), (0, .ref (ga G 0)), (2, .int x2), (3, .int x3), (6, .int x6)]) (st' := []) (by decide +kernel) rfl ?_
          refine v_sub [3, 4, 5, 1, 0, 6] (ls' := [(0, .ref (ga G 0)), (2, .int x2), (3, .int x3), (4, .int x6), (5, .int v7), (6, .int x6)]) rfl ?_
          exact (hB103 _ hk56) _ _ _ _ _ h
  have hL56 : ∀ (k109 : Int32 → Int32 → Mem → Option (Int32 × Mem)), (∀ (x4 : Int32), ∀ (x5 : Int32), ∀ σ : Mem, k109 x4 x5 σ = some res → V G 4 8 X ((some (.int res.1)), res.2) σ [(2, .int x2), (4, .int x4), (5, .int x5)] [] 109) → ∀ f : Nat, ∀ (x3 : Int32), ∀ (x4 : Int32), ∀ (x5 : Int32), ∀ (x6 : Int32), ∀ σ : Mem, p_X11_stranger_L56 k109 x1 x2 f x3 x4 x5 x6 σ = some res → V G 4 8 X ((some (.int res.1)), res.2) σ [(0, .ref (ga G 0)), (2, .int x2), (3, .int x3), (4, .int x4), (5, .int x5), (6, .int x6)] [] 56 := by
    intro k109 hk109 f
    induction f with
    | zero => intro x3 x4 x5 x6 σ h; exact none_some h
    | succ f ih => intro x3 x4 x5 x6 σ h; exact hB56 (p_X11_stranger_L56 k109 x1 x2 f) k109 ih hk109 x3 x4 x5 x6 σ h
  unfold p_X11_stranger at h
  show V G 4 8 X ((some (.int res.1)), res.2) σ [(0, .ref (ga G 0)), (1, .int x1), (2, .int x2)] [] 0
  refine v_blk hC (is := [(.aload_n 0, 0)]) (pc' := 1) (ls' := [(0, .ref (ga G 0)), (1, .int x1), (2, .int x2)]) (st' := [.ref (ga G 0)]) (by decide +kernel) rfl ?_
  refine gX11_0 hC lfX11_10 (by decide +kernel) ?_
  refine v_blk hC (is := [(.iload_n 1, 0)]) (pc' := 5) (ls' := [(0, .ref (ga G 0)), (1, .int x1), (2, .int x2)]) (st' := [.int x1, .ref (ga G 1)]) (by decide +kernel) rfl ?_
  obtain ⟨v10, s11, e12, h⟩ := bndI h
  refine v_cVN (idx := 63) hC ⟨List.mem_of_getElem? (i := 27) (by decide +kernel), tiX3_has, tvX3_has, tnX3_has, tcX3_has, tmX3_has⟩ (isO_X3 cape1) rfl (c_X3_has cape1 e12) (by decide) (by decide) (by decide +kernel) (rest := []) rfl rfl (Nat.le_of_ble_eq_true rfl) rfl ?_
  refine v_if_eq hC (off := 10) (tgt := 18) (by decide +kernel) (by decide) h (fun hq h => ?_) (fun hq h => ?_)
  · refine v_blk hC (is := [(.iconst (-1), (-1 : Int32))]) (pc' := 19) (ls' := [(0, .ref (ga G 0)), (1, .int x1), (2, .int x2)]) (st' := [.int (-1 : Int32)]) (by decide +kernel) rfl ?_
    exact v_iret hC h (by decide +kernel)
  · refine v_blk hC (is := [(.iload_n 2, 0)]) (pc' := 12) (ls' := [(0, .ref (ga G 0)), (1, .int x1), (2, .int x2)]) (st' := [.int x2]) (by decide +kernel) rfl ?_
    obtain ⟨v13, s14, e15, h⟩ := bndI h
    refine v_cS (idx := 151) hC ⟨tt_at 613 (by decide +kernel) rfl, tsX11_isPart, tnX11_isPart, tcX11_isPart, tmX11_isPart⟩ (c_X11_isPart e15) (by decide) (by decide) (by decide +kernel) (rest := []) rfl rfl (Nat.le_of_ble_eq_true rfl) rfl ?_
    refine v_if_ne hC (off := 5) (tgt := 20) (by decide +kernel) (by decide) h (fun hq h => ?_) (fun hq h => ?_)
    · refine v_blk hC (is := [(.aload_n 0, 0)]) (pc' := 21) (ls' := [(0, .ref (ga G 0)), (1, .int x1), (2, .int x2)]) (st' := [.ref (ga G 0)]) (by decide +kernel) rfl ?_
      refine gX11_0 hC lfX11_10 (by decide +kernel) ?_
      refine gX3_3 hC cape1 lfX11_74 (by decide +kernel) ?_
      refine v_blk hC (is := [(.iload_n 1, 0)]) (pc' := 28) (ls' := [(0, .ref (ga G 0)), (1, .int x1), (2, .int x2)]) (st' := [.int x1, .ref (ga G (30 + 1))]) (by decide +kernel) rfl ?_
      refine v_iald hC (isA_boat cape1) (al_boat cape1) (by decide +kernel) h (fun v16 h => ?_)
      refine v_blk hC (is := [(.bipush 9, (9 : Int32))]) (pc' := 31) (ls' := [(0, .ref (ga G 0)), (1, .int x1), (2, .int x2)]) (st' := [.int (9 : Int32), .int v16]) (by decide +kernel) rfl ?_
      refine v_icmp_eq hC (off := 6) (tgt := 37) (by decide +kernel) (by decide) h (fun hq h => ?_) (fun hq h => ?_)
      · refine v_blk hC (is := [(.aload_n 0, 0)]) (pc' := 38) (ls' := [(0, .ref (ga G 0)), (1, .int x1), (2, .int x2)]) (st' := [.ref (ga G 0)]) (by decide +kernel) rfl ?_
        refine gX11_0 hC lfX11_10 (by decide +kernel) ?_
        refine v_blk hC (is := [(.iload_n 1, 0)]) (pc' := 42) (ls' := [(0, .ref (ga G 0)), (1, .int x1), (2, .int x2)]) (st' := [.int x1, .ref (ga G 1)]) (by decide +kernel) rfl ?_
        obtain ⟨v17, s18, e19, h⟩ := bndI h
        refine v_cVN (idx := 135) hC ⟨List.mem_of_getElem? (i := 37) (by decide +kernel), tiX3_friends, tvX3_friends, tnX3_friends, tcX3_friends, tmX3_friends⟩ (isO_X3 cape1) rfl (c_X3_friends cape1 e19) (by decide) (by decide) (by decide +kernel) (rest := []) rfl rfl (Nat.le_of_ble_eq_true rfl) rfl ?_
        refine v_blk hC (is := [(.istore_n 3, 0), (.bipush (-4), (-4 : Int32)), (.istore 4, 0), (.iconst 0, (0 : Int32)), (.istore 5, 0), (.iconst 0, (0 : Int32)), (.istore 6, 0)]) (pc' := 56) (ls' := [(6, .int (0 : Int32)), (5, .int (0 : Int32)), (4, .int (-4 : Int32)), (3, .int v17), (0, .ref (ga G 0)), (1, .int x1), (2, .int x2)]) (st' := []) (by decide +kernel) rfl ?_
        refine v_sub [4, 6, 3, 2, 1, 0] (ls' := [(0, .ref (ga G 0)), (2, .int x2), (3, .int v17), (4, .int (-4 : Int32)), (5, .int (0 : Int32)), (6, .int (0 : Int32))]) rfl ?_
        exact (hL56 _ (fun x4 x5  m20 h => by
            refine v_blk hC (is := [(.iload 4, 0)]) (pc' := 111) (ls' := [(2, .int x2), (4, .int x4), (5, .int x5)]) (st' := [.int x4]) (by decide +kernel) rfl ?_
            refine v_if_lt hC (off := 7) (tgt := 118) (by decide +kernel) (by decide) h (fun hq h => ?_) (fun hq h => ?_)
            · refine v_sub [1] (ls' := [(4, .int x4)]) rfl ?_
              exact (hB118 ) _ _ h
            · refine v_blk hC (is := [(.iload_n 2, 0)]) (pc' := 115) (ls' := [(2, .int x2), (4, .int x4), (5, .int x5)]) (st' := [.int x2]) (by decide +kernel) rfl ?_
              refine v_if_ne hC (off := 8) (tgt := 123) (by decide +kernel) (by decide) h (fun hq h => ?_) (fun hq h => ?_)
              · refine v_blk hC (is := [(.iload 5, 0)]) (pc' := 125) (ls' := [(2, .int x2), (4, .int x4), (5, .int x5)]) (st' := [.int x5]) (by decide +kernel) rfl ?_
                exact v_iret hC h (by decide +kernel)
              · refine v_sub [1] (ls' := [(4, .int x4)]) rfl ?_
                exact (hB118 ) _ _ h) 1000) _ _ _ _ _ h
      · refine v_blk hC (is := [(.bipush (-3), (-3 : Int32))]) (pc' := 36) (ls' := [(0, .ref (ga G 0)), (1, .int x1), (2, .int x2)]) (st' := [.int (-3 : Int32)]) (by decide +kernel) rfl ?_
        exact v_iret hC h (by decide +kernel)
    · refine v_blk hC (is := [(.iconst (-1), (-1 : Int32))]) (pc' := 19) (ls' := [(0, .ref (ga G 0)), (1, .int x1), (2, .int x2)]) (st' := [.int (-1 : Int32)]) (by decide +kernel) rfl ?_
      exact v_iret hC h (by decide +kernel)

def p_X11_hire_B122 (k40 : Int32 → Int32 → Int32 → Mem → Option (Int32 × Mem)) (x1 : Int32) (x2 : Int32) (x3 : Int32) (x4 : Int32) (x5 : Int32) (x6 : Int32) (σ : Mem) : Option (Int32 × Mem) := k40 x4 x5 (x6 + (1 : Int32)) σ
def p_X11_hire_B40 (k40 : Int32 → Int32 → Int32 → Mem → Option (Int32 × Mem)) (x1 : Int32) (x2 : Int32) (x3 : Int32) (x4 : Int32) (x5 : Int32) (x6 : Int32) (σ : Mem) : Option (Int32 × Mem) := (if (8 : Int32) ≤ x6 then some (x4, σ) else (bnd (p_X3_becomes 3 1 σ) fun (v1 : Unit) s2 => (bnd (p_X3_adds 3 x6 x2 s2) fun v4 s5 => (if 0 ≤ v4 then (if v4 < 0 ∨ 8 ≤ (v4).toNatClampNeg then none else wr s5 (30 + 3) (v4).toNatClampNeg x1 fun s7 => (bnd (p_X3_sails 3 x3 s7) fun (v8 : Unit) s9 => (bnd (p_X3_lostOnes 3 s9) fun v11 s12 => (if x5 ≤ v11 then (p_X11_hire_B122 k40 x1 x2 x3) x4 x5 x6 s12 else (bnd (p_X3_lostOnes 3 s12) fun v14 s15 => (p_X11_hire_B122 k40 x1 x2 x3) x6 v14 x6 s15))))) else some ((-4 : Int32), s5)))))
def p_X11_hire_L40  (x1 : Int32) (x2 : Int32) (x3 : Int32) : Nat → Int32 → Int32 → Int32 → Mem → Option (Int32 × Mem)
  | 0 => fun _ _ _ _ => none
  | f + 1 => p_X11_hire_B40 (p_X11_hire_L40 x1 x2 x3 f) x1 x2 x3
def p_X11_hire (x1 : Int32) (x2 : Int32) (x3 : Int32) (σ : Mem) : Option (Int32 × Mem) := (bnd (p_X11_isBoat x1 σ) fun v17 s18 => (if v17 = 0 then some ((-1 : Int32), s18) else (bnd (p_X11_within x2 (0 : Int32) (9 : Int32) s18) fun v20 s21 => (if v20 = 0 then some ((-1 : Int32), s21) else (bnd (p_X11_within x3 (0 : Int32) (60 : Int32) s21) fun v23 s24 => (if v23 = 0 then some ((-1 : Int32), s24) else (p_X11_hire_L40 x1 x2 x3 1000) (-4 : Int32) (9 : Int32) (0 : Int32) s24))))))
set_option maxHeartbeats 4000000 in
set_option maxRecDepth 100000 in
theorem c_X11_hire {G : Gl} {x1 : Int32} {x2 : Int32} {x3 : Int32} {σ : Mem} {res : Int32 × Mem}  (h : p_X11_hire x1 x2 x3 σ = some res) : MetX G yX11_hire cX11_hire 8 (some .int) 6 [.ref (ga G 0), .int x1, .int x2, .int x3] σ (some (.int res.1)) res.2 := by
  refine met_V (by decide +kernel) (Nat.le_of_ble_eq_true rfl) (fun X hC => ?_)
  have hC : Ok G 6 8 X cX11_hire RX11 (some .int) := hC
  have hB122 : ∀ (k40 : Int32 → Int32 → Int32 → Mem → Option (Int32 × Mem)), (∀ (x4 : Int32), ∀ (x5 : Int32), ∀ (x6 : Int32), ∀ σ : Mem, k40 x4 x5 x6 σ = some res → V G 6 8 X ((some (.int res.1)), res.2) σ [(0, .ref (ga G 0)), (1, .int x1), (2, .int x2), (3, .int x3), (4, .int x4), (5, .int x5), (6, .int x6)] [] 40) → ∀ (x4 : Int32), ∀ (x5 : Int32), ∀ (x6 : Int32), ∀ σ : Mem, p_X11_hire_B122 k40 x1 x2 x3 x4 x5 x6 σ = some res → V G 6 8 X ((some (.int res.1)), res.2) σ [(0, .ref (ga G 0)), (1, .int x1), (2, .int x2), (3, .int x3), (4, .int x4), (5, .int x5), (6, .int x6)] [] 122 := by
    intro k40 hk40 x4 x5 x6 σ h
    unfold p_X11_hire_B122 at h
    refine v_blk hC (is := [(.iinc 6 1, (1 : Int32))]) (pc' := 125) (ls' := [(6, .int (x6 + (1 : Int32))), (0, .ref (ga G 0)), (1, .int x1), (2, .int x2), (3, .int x3), (4, .int x4), (5, .int x5)]) (st' := []) (by decide +kernel) rfl ?_
    refine v_goto hC (off := (-85)) (tgt := 40) (by decide +kernel) (by decide) ?_
    refine v_sub [1, 2, 3, 4, 5, 6, 0] (ls' := [(0, .ref (ga G 0)), (1, .int x1), (2, .int x2), (3, .int x3), (4, .int x4), (5, .int x5), (6, .int (x6 + (1 : Int32)))]) rfl ?_
    exact hk40 _ _ _ _ h
  have hB40 : ∀ (k40 : Int32 → Int32 → Int32 → Mem → Option (Int32 × Mem)), (∀ (x4 : Int32), ∀ (x5 : Int32), ∀ (x6 : Int32), ∀ σ : Mem, k40 x4 x5 x6 σ = some res → V G 6 8 X ((some (.int res.1)), res.2) σ [(0, .ref (ga G 0)), (1, .int x1), (2, .int x2), (3, .int x3), (4, .int x4), (5, .int x5), (6, .int x6)] [] 40) → ∀ (x4 : Int32), ∀ (x5 : Int32), ∀ (x6 : Int32), ∀ σ : Mem, p_X11_hire_B40 k40 x1 x2 x3 x4 x5 x6 σ = some res → V G 6 8 X ((some (.int res.1)), res.2) σ [(0, .ref (ga G 0)), (1, .int x1), (2, .int x2), (3, .int x3), (4, .int x4), (5, .int x5), (6, .int x6)] [] 40 := by
    intro k40 hk40 x4 x5 x6 σ h
    unfold p_X11_hire_B40 at h
    refine v_blk hC (is := [(.iload 6, 0), (.bipush 8, (8 : Int32))]) (pc' := 44) (ls' := [(0, .ref (ga G 0)), (1, .int x1), (2, .int x2), (3, .int x3), (4, .int x4), (5, .int x5), (6, .int x6)]) (st' := [.int (8 : Int32), .int x6]) (by decide +kernel) rfl ?_
    refine v_icmp_ge hC (off := 84) (tgt := 128) (by decide +kernel) (by decide) h (fun hq h => ?_) (fun hq h => ?_)
    · refine v_blk hC (is := [(.iload 4, 0)]) (pc' := 130) (ls' := [(0, .ref (ga G 0)), (1, .int x1), (2, .int x2), (3, .int x3), (4, .int x4), (5, .int x5), (6, .int x6)]) (st' := [.int x4]) (by decide +kernel) rfl ?_
      exact v_iret hC h (by decide +kernel)
    · refine v_blk hC (is := [(.aload_n 0, 0)]) (pc' := 48) (ls' := [(0, .ref (ga G 0)), (1, .int x1), (2, .int x2), (3, .int x3), (4, .int x4), (5, .int x5), (6, .int x6)]) (st' := [.ref (ga G 0)]) (by decide +kernel) rfl ?_
      refine gX11_2 hC lfX11_19 (by decide +kernel) ?_
      refine v_blk hC (is := [(.aload_n 0, 0)]) (pc' := 52) (ls' := [(0, .ref (ga G 0)), (1, .int x1), (2, .int x2), (3, .int x3), (4, .int x4), (5, .int x5), (6, .int x6)]) (st' := [.ref (ga G 0), .ref (ga G 3)]) (by decide +kernel) rfl ?_
      refine gX11_0 hC lfX11_10 (by decide +kernel) ?_
      obtain ⟨v1, s2, e3, h⟩ := bndI h
      refine v_cVN (idx := 48) hC ⟨List.mem_of_getElem? (i := 19) (by decide +kernel), tiX3_becomes, tvX3_becomes, tnX3_becomes, tcX3_becomes, tmX3_becomes⟩ (isO_X3 cape3) rfl (c_X3_becomes cape3 cape1 e3) (by decide) (by decide) (by decide +kernel) (rest := []) rfl rfl (Nat.le_of_ble_eq_true rfl) rfl ?_
      refine v_blk hC (is := [(.aload_n 0, 0)]) (pc' := 59) (ls' := [(0, .ref (ga G 0)), (1, .int x1), (2, .int x2), (3, .int x3), (4, .int x4), (5, .int x5), (6, .int x6)]) (st' := [.ref (ga G 0)]) (by decide +kernel) rfl ?_
      refine gX11_2 hC lfX11_19 (by decide +kernel) ?_
      refine v_blk hC (is := [(.iload 6, 0), (.iload_n 2, 0)]) (pc' := 65) (ls' := [(0, .ref (ga G 0)), (1, .int x1), (2, .int x2), (3, .int x3), (4, .int x4), (5, .int x5), (6, .int x6)]) (st' := [.int x2, .int x6, .ref (ga G 3)]) (by decide +kernel) rfl ?_
      obtain ⟨v4, s5, e6, h⟩ := bndI h
      refine v_cVN (idx := 112) hC ⟨List.mem_of_getElem? (i := 31) (by decide +kernel), tiX3_adds, tvX3_adds, tnX3_adds, tcX3_adds, tmX3_adds⟩ (isO_X3 cape3) rfl (c_X3_adds cape3 e6) (by decide) (by decide) (by decide +kernel) (rest := []) rfl rfl (Nat.le_of_ble_eq_true rfl) rfl ?_
      refine v_blk hC (is := [(.istore 7, 0), (.iload 7, 0)]) (pc' := 72) (ls' := [(7, .int v4), (0, .ref (ga G 0)), (1, .int x1), (2, .int x2), (3, .int x3), (4, .int x4), (5, .int x5), (6, .int x6)]) (st' := [.int v4]) (by decide +kernel) rfl ?_
      refine v_if_ge hC (off := 6) (tgt := 78) (by decide +kernel) (by decide) h (fun hq h => ?_) (fun hq h => ?_)
      · refine v_blk hC (is := [(.aload_n 0, 0)]) (pc' := 79) (ls' := [(7, .int v4), (0, .ref (ga G 0)), (1, .int x1), (2, .int x2), (3, .int x3), (4, .int x4), (5, .int x5), (6, .int x6)]) (st' := [.ref (ga G 0)]) (by decide +kernel) rfl ?_
        refine gX11_2 hC lfX11_19 (by decide +kernel) ?_
        refine gX3_3 hC cape3 lfX11_74 (by decide +kernel) ?_
        refine v_blk hC (is := [(.iload 7, 0), (.iload_n 1, 0)]) (pc' := 88) (ls' := [(7, .int v4), (0, .ref (ga G 0)), (1, .int x1), (2, .int x2), (3, .int x3), (4, .int x4), (5, .int x5), (6, .int x6)]) (st' := [.int x1, .int v4, .ref (ga G (30 + 3))]) (by decide +kernel) rfl ?_
        refine v_iast hC (isA_boat cape3) (al_boat cape3) (by decide +kernel) h (fun s7 h => ?_)
        refine v_blk hC (is := [(.aload_n 0, 0)]) (pc' := 90) (ls' := [(7, .int v4), (0, .ref (ga G 0)), (1, .int x1), (2, .int x2), (3, .int x3), (4, .int x4), (5, .int x5), (6, .int x6)]) (st' := [.ref (ga G 0)]) (by decide +kernel) rfl ?_
        refine gX11_2 hC lfX11_19 (by decide +kernel) ?_
        refine v_blk hC (is := [(.iload_n 3, 0)]) (pc' := 94) (ls' := [(7, .int v4), (0, .ref (ga G 0)), (1, .int x1), (2, .int x2), (3, .int x3), (4, .int x4), (5, .int x5), (6, .int x6)]) (st' := [.int x3, .ref (ga G 3)]) (by decide +kernel) rfl ?_
        obtain ⟨v8, s9, e10, h⟩ := bndI h
        refine v_cVN (idx := 200) hC ⟨List.mem_of_getElem? (i := 56) (by decide +kernel), tiX3_sails, tvX3_sails, tnX3_sails, tcX3_sails, tmX3_sails⟩ (isO_X3 cape3) rfl (c_X3_sails cape3 e10) (by decide) (by decide) (by decide +kernel) (rest := []) rfl rfl (Nat.le_of_ble_eq_true rfl) rfl ?_
        refine v_blk hC (is := [(.aload_n 0, 0)]) (pc' := 98) (ls' := [(7, .int v4), (0, .ref (ga G 0)), (1, .int x1), (2, .int x2), (3, .int x3), (4, .int x4), (5, .int x5), (6, .int x6)]) (st' := [.ref (ga G 0)]) (by decide +kernel) rfl ?_
        refine gX11_2 hC lfX11_19 (by decide +kernel) ?_
        obtain ⟨v11, s12, e13, h⟩ := bndI h
        refine v_cVN (idx := 204) hC ⟨List.mem_of_getElem? (i := 57) (by decide +kernel), tiX3_lostOnes, tvX3_lostOnes, tnX3_lostOnes, tcX3_lostOnes, tmX3_lostOnes⟩ (isO_X3 cape3) rfl (c_X3_lostOnes cape3 e13) (by decide) (by decide) (by decide +kernel) (rest := []) rfl rfl (Nat.le_of_ble_eq_true rfl) rfl ?_
        refine v_blk hC (is := [(.iload 5, 0)]) (pc' := 106) (ls' := [(7, .int v4), (0, .ref (ga G 0)), (1, .int x1), (2, .int x2), (3, .int x3), (4, .int x4), (5, .int x5), (6, .int x6)]) (st' := [.int x5, .int v11]) (by decide +kernel) rfl ?_
        refine v_icmp_ge hC (off := 16) (tgt := 122) (by decide +kernel) (by decide) h (fun hq h => ?_) (fun hq h => ?_)
        · refine v_sub [1, 2, 3, 4, 5, 6, 7] (ls' := [(0, .ref (ga G 0)), (1, .int x1), (2, .int x2), (3, .int x3), (4, .int x4), (5, .int x5), (6, .int x6)]) rfl ?_
          exact (hB122 _ hk40) _ _ _ _ h
        · refine v_blk hC (is := [(.iload 6, 0), (.istore 4, 0), (.aload_n 0, 0)]) (pc' := 114) (ls' := [(4, .int x6), (7, .int v4), (0, .ref (ga G 0)), (1, .int x1), (2, .int x2), (3, .int x3), (5, .int x5), (6, .int x6)]) (st' := [.ref (ga G 0)]) (by decide +kernel) rfl ?_
          refine gX11_2 hC lfX11_19 (by decide +kernel) ?_
          obtain ⟨v14, s15, e16, h⟩ := bndI h
          refine v_cVN (idx := 204) hC ⟨List.mem_of_getElem? (i := 57) (by decide +kernel), tiX3_lostOnes, tvX3_lostOnes, tnX3_lostOnes, tcX3_lostOnes, tmX3_lostOnes⟩ (isO_X3 cape3) rfl (c_X3_lostOnes cape3 e16) (by decide) (by decide) (by decide +kernel) (rest := []) rfl rfl (Nat.le_of_ble_eq_true rfl) rfl ?_
          refine v_blk hC (is := [(.istore 5, 0)]) (pc' := 122) (ls' := [(5, .int v14), (4, .int x6), (7, .int v4), (0, .ref (ga G 0)), (1, .int x1), (2, .int x2), (3, .int x3), (6, .int x6)]) (st' := []) (by decide +kernel) rfl ?_
          refine v_sub [3, 4, 5, 6, 1, 0, 7] (ls' := [(0, .ref (ga G 0)), (1, .int x1), (2, .int x2), (3, .int x3), (4, .int x6), (5, .int v14), (6, .int x6)]) rfl ?_
          exact (hB122 _ hk40) _ _ _ _ h
      · refine v_blk hC (is := [(.bipush (-4), (-4 : Int32))]) (pc' := 77) (ls' := [(7, .int v4), (0, .ref (ga G 0)), (1, .int x1), (2, .int x2), (3, .int x3), (4, .int x4), (5, .int x5), (6, .int x6)]) (st' := [.int (-4 : Int32)]) (by decide +kernel) rfl ?_
        exact v_iret hC h (by decide +kernel)
  have hL40 : ∀ f : Nat, ∀ (x4 : Int32), ∀ (x5 : Int32), ∀ (x6 : Int32), ∀ σ : Mem, p_X11_hire_L40 x1 x2 x3 f x4 x5 x6 σ = some res → V G 6 8 X ((some (.int res.1)), res.2) σ [(0, .ref (ga G 0)), (1, .int x1), (2, .int x2), (3, .int x3), (4, .int x4), (5, .int x5), (6, .int x6)] [] 40 := by
    intro  f
    induction f with
    | zero => intro x4 x5 x6 σ h; exact none_some h
    | succ f ih => intro x4 x5 x6 σ h; exact hB40 (p_X11_hire_L40 x1 x2 x3 f)  ih  x4 x5 x6 σ h
  unfold p_X11_hire at h
  show V G 6 8 X ((some (.int res.1)), res.2) σ [(0, .ref (ga G 0)), (1, .int x1), (2, .int x2), (3, .int x3)] [] 0
  refine v_blk hC (is := [(.iload_n 1, 0)]) (pc' := 1) (ls' := [(0, .ref (ga G 0)), (1, .int x1), (2, .int x2), (3, .int x3)]) (st' := [.int x1]) (by decide +kernel) rfl ?_
  obtain ⟨v17, s18, e19, h⟩ := bndI h
  refine v_cS (idx := 138) hC ⟨tt_at 590 (by decide +kernel) rfl, tsX11_isBoat, tnX11_isBoat, tcX11_isBoat, tmX11_isBoat⟩ (c_X11_isBoat e19) (by decide) (by decide) (by decide +kernel) (rest := []) rfl rfl (Nat.le_of_ble_eq_true rfl) rfl ?_
  refine v_if_eq hC (off := 23) (tgt := 27) (by decide +kernel) (by decide) h (fun hq h => ?_) (fun hq h => ?_)
  · refine v_blk hC (is := [(.iconst (-1), (-1 : Int32))]) (pc' := 28) (ls' := [(0, .ref (ga G 0)), (1, .int x1), (2, .int x2), (3, .int x3)]) (st' := [.int (-1 : Int32)]) (by decide +kernel) rfl ?_
    exact v_iret hC h (by decide +kernel)
  · refine v_blk hC (is := [(.iload_n 2, 0), (.iconst 0, (0 : Int32)), (.bipush 9, (9 : Int32))]) (pc' := 11) (ls' := [(0, .ref (ga G 0)), (1, .int x1), (2, .int x2), (3, .int x3)]) (st' := [.int (9 : Int32), .int (0 : Int32), .int x2]) (by decide +kernel) rfl ?_
    obtain ⟨v20, s21, e22, h⟩ := bndI h
    refine v_cS (idx := 168) hC ⟨tt_at 300 (by decide +kernel) rfl, tsX11_within, tnX11_within, tcX11_within, tmX11_within⟩ (c_X11_within e22) (by decide) (by decide) (by decide +kernel) (rest := []) rfl rfl (Nat.le_of_ble_eq_true rfl) rfl ?_
    refine v_if_eq hC (off := 13) (tgt := 27) (by decide +kernel) (by decide) h (fun hq h => ?_) (fun hq h => ?_)
    · refine v_blk hC (is := [(.iconst (-1), (-1 : Int32))]) (pc' := 28) (ls' := [(0, .ref (ga G 0)), (1, .int x1), (2, .int x2), (3, .int x3)]) (st' := [.int (-1 : Int32)]) (by decide +kernel) rfl ?_
      exact v_iret hC h (by decide +kernel)
    · refine v_blk hC (is := [(.iload_n 3, 0), (.iconst 0, (0 : Int32)), (.bipush 60, (60 : Int32))]) (pc' := 21) (ls' := [(0, .ref (ga G 0)), (1, .int x1), (2, .int x2), (3, .int x3)]) (st' := [.int (60 : Int32), .int (0 : Int32), .int x3]) (by decide +kernel) rfl ?_
      obtain ⟨v23, s24, e25, h⟩ := bndI h
      refine v_cS (idx := 168) hC ⟨tt_at 300 (by decide +kernel) rfl, tsX11_within, tnX11_within, tcX11_within, tmX11_within⟩ (c_X11_within e25) (by decide) (by decide) (by decide +kernel) (rest := []) rfl rfl (Nat.le_of_ble_eq_true rfl) rfl ?_
      refine v_if_ne hC (off := 5) (tgt := 29) (by decide +kernel) (by decide) h (fun hq h => ?_) (fun hq h => ?_)
      · refine v_blk hC (is := [(.bipush (-4), (-4 : Int32)), (.istore 4, 0), (.bipush 9, (9 : Int32)), (.istore 5, 0), (.iconst 0, (0 : Int32)), (.istore 6, 0)]) (pc' := 40) (ls' := [(6, .int (0 : Int32)), (5, .int (9 : Int32)), (4, .int (-4 : Int32)), (0, .ref (ga G 0)), (1, .int x1), (2, .int x2), (3, .int x3)]) (st' := []) (by decide +kernel) rfl ?_
        refine v_sub [3, 4, 5, 6, 2, 1, 0] (ls' := [(0, .ref (ga G 0)), (1, .int x1), (2, .int x2), (3, .int x3), (4, .int (-4 : Int32)), (5, .int (9 : Int32)), (6, .int (0 : Int32))]) rfl ?_
        exact (hL40 1000) _ _ _ _ h
      · refine v_blk hC (is := [(.iconst (-1), (-1 : Int32))]) (pc' := 28) (ls' := [(0, .ref (ga G 0)), (1, .int x1), (2, .int x2), (3, .int x3)]) (st' := [.int (-1 : Int32)]) (by decide +kernel) rfl ?_
        exact v_iret hC h (by decide +kernel)

def p_X11_two_B306  (x1 : Int32) (x2 : Int32) (x3 : Int32) (t0 : Int32) (t1 : Int32) (σ : Mem) : Option (Int32 × Mem) := some ((t0 + t1), σ)
def p_X11_two_B296  (x1 : Int32) (x2 : Int32) (x3 : Int32) (x8 : Int32) (t0 : Int32) (σ : Mem) : Option (Int32 × Mem) := (if x8 = 0 then (p_X11_two_B306 x1 x2 x3) t0 (0 : Int32) σ else (p_X11_two_B306 x1 x2 x3) t0 (1 : Int32) σ)
def p_X11_two_B308 (k89 : Int32 → Int32 → Int32 → Mem → Option (Int32 × Mem)) (x1 : Int32) (x2 : Int32) (x3 : Int32) (x4 : Int32) (x5 : Int32) (x6 : Int32) (σ : Mem) : Option (Int32 × Mem) := k89 x4 x5 (x6 + (1 : Int32)) σ
def p_X11_two_B273 (k89 : Int32 → Int32 → Int32 → Mem → Option (Int32 × Mem)) (k285 : Int32 → Int32 → Mem → Option (Int32 × Mem)) (x1 : Int32) (x2 : Int32) (x3 : Int32) (x4 : Int32) (x5 : Int32) (x6 : Int32) (x7 : Int32) (x8 : Int32) (x9 : Int32) (t0 : Int32) (σ : Mem) : Option (Int32 × Mem) := (if x9 = 0 then (p_X11_two_B308 k89 x1 x2 x3) x4 x5 x6 σ else (if t0 = 0 then (p_X11_two_B308 k89 x1 x2 x3) x4 x5 x6 σ else k285 x7 x8 σ))
def p_X11_two_B262 (k89 : Int32 → Int32 → Int32 → Mem → Option (Int32 × Mem)) (k285 : Int32 → Int32 → Mem → Option (Int32 × Mem)) (x1 : Int32) (x2 : Int32) (x3 : Int32) (x4 : Int32) (x5 : Int32) (x6 : Int32) (x7 : Int32) (x8 : Int32) (x9 : Int32) (t0 : Int32) (t1 : Int32) (t2 : Int32) (σ : Mem) : Option (Int32 × Mem) := (bnd (p_X11_gain t1 t2 σ) fun v1 s2 => (if t0 < v1 then (p_X11_two_B273 k89 k285 x1 x2 x3) x4 x5 x6 x7 x8 x9 (0 : Int32) s2 else (p_X11_two_B273 k89 k285 x1 x2 x3) x4 x5 x6 x7 x8 x9 (1 : Int32) s2))
def p_X11_two_B261 (k89 : Int32 → Int32 → Int32 → Mem → Option (Int32 × Mem)) (k285 : Int32 → Int32 → Mem → Option (Int32 × Mem)) (x1 : Int32) (x2 : Int32) (x3 : Int32) (x4 : Int32) (x5 : Int32) (x6 : Int32) (x7 : Int32) (x8 : Int32) (x9 : Int32) (t0 : Int32) (t1 : Int32) (σ : Mem) : Option (Int32 × Mem) := (p_X11_two_B262 k89 k285 x1 x2 x3) x4 x5 x6 x7 x8 x9 t0 t1 (0 : Int32) σ
def p_X11_two_B247 (k89 : Int32 → Int32 → Int32 → Mem → Option (Int32 × Mem)) (k285 : Int32 → Int32 → Mem → Option (Int32 × Mem)) (x1 : Int32) (x2 : Int32) (x3 : Int32) (x4 : Int32) (x5 : Int32) (x6 : Int32) (x7 : Int32) (x8 : Int32) (x9 : Int32) (t0 : Int32) (t1 : Int32) (σ : Mem) : Option (Int32 × Mem) := (if x7 = 0 then (p_X11_two_B261 k89 k285 x1 x2 x3) x4 x5 x6 x7 x8 x9 t0 t1 σ else (if x4 = 0 then (p_X11_two_B261 k89 k285 x1 x2 x3) x4 x5 x6 x7 x8 x9 t0 t1 σ else (p_X11_two_B262 k89 k285 x1 x2 x3) x4 x5 x6 x7 x8 x9 t0 t1 (1 : Int32) σ))
def p_X11_two_B246 (k89 : Int32 → Int32 → Int32 → Mem → Option (Int32 × Mem)) (k285 : Int32 → Int32 → Mem → Option (Int32 × Mem)) (x1 : Int32) (x2 : Int32) (x3 : Int32) (x4 : Int32) (x5 : Int32) (x6 : Int32) (x7 : Int32) (x8 : Int32) (x9 : Int32) (t0 : Int32) (σ : Mem) : Option (Int32 × Mem) := (p_X11_two_B247 k89 k285 x1 x2 x3) x4 x5 x6 x7 x8 x9 t0 (0 : Int32) σ
def p_X11_two_B229 (k89 : Int32 → Int32 → Int32 → Mem → Option (Int32 × Mem)) (k285 : Int32 → Int32 → Mem → Option (Int32 × Mem)) (x1 : Int32) (x2 : Int32) (x3 : Int32) (x4 : Int32) (x5 : Int32) (x6 : Int32) (x7 : Int32) (x8 : Int32) (x9 : Int32) (t0 : Int32) (t1 : Int32) (σ : Mem) : Option (Int32 × Mem) := (bnd (p_X11_gain t0 t1 σ) fun v4 s5 => (if x8 = 0 then (if x5 = 0 then (p_X11_two_B246 k89 k285 x1 x2 x3) x4 x5 x6 x7 x8 x9 v4 s5 else (p_X11_two_B247 k89 k285 x1 x2 x3) x4 x5 x6 x7 x8 x9 v4 (1 : Int32) s5) else (p_X11_two_B246 k89 k285 x1 x2 x3) x4 x5 x6 x7 x8 x9 v4 s5))
def p_X11_two_B228 (k89 : Int32 → Int32 → Int32 → Mem → Option (Int32 × Mem)) (k285 : Int32 → Int32 → Mem → Option (Int32 × Mem)) (x1 : Int32) (x2 : Int32) (x3 : Int32) (x4 : Int32) (x5 : Int32) (x6 : Int32) (x7 : Int32) (x8 : Int32) (x9 : Int32) (t0 : Int32) (σ : Mem) : Option (Int32 × Mem) := (p_X11_two_B229 k89 k285 x1 x2 x3) x4 x5 x6 x7 x8 x9 t0 (0 : Int32) σ
def p_X11_two_B214 (k89 : Int32 → Int32 → Int32 → Mem → Option (Int32 × Mem)) (k285 : Int32 → Int32 → Mem → Option (Int32 × Mem)) (x1 : Int32) (x2 : Int32) (x3 : Int32) (x4 : Int32) (x5 : Int32) (x6 : Int32) (x7 : Int32) (x8 : Int32) (x9 : Int32) (t0 : Int32) (σ : Mem) : Option (Int32 × Mem) := (if x7 = 0 then (p_X11_two_B228 k89 k285 x1 x2 x3) x4 x5 x6 x7 x8 x9 t0 σ else (if x4 = 0 then (p_X11_two_B228 k89 k285 x1 x2 x3) x4 x5 x6 x7 x8 x9 t0 σ else (p_X11_two_B229 k89 k285 x1 x2 x3) x4 x5 x6 x7 x8 x9 t0 (1 : Int32) σ))
def p_X11_two_B213 (k89 : Int32 → Int32 → Int32 → Mem → Option (Int32 × Mem)) (k285 : Int32 → Int32 → Mem → Option (Int32 × Mem)) (x1 : Int32) (x2 : Int32) (x3 : Int32) (x4 : Int32) (x5 : Int32) (x6 : Int32) (x7 : Int32) (x8 : Int32) (x9 : Int32) (σ : Mem) : Option (Int32 × Mem) := (p_X11_two_B214 k89 k285 x1 x2 x3) x4 x5 x6 x7 x8 x9 (0 : Int32) σ
def p_X11_two_B197 (k89 : Int32 → Int32 → Int32 → Mem → Option (Int32 × Mem)) (k285 : Int32 → Int32 → Mem → Option (Int32 × Mem)) (x1 : Int32) (x2 : Int32) (x3 : Int32) (x4 : Int32) (x5 : Int32) (x6 : Int32) (x7 : Int32) (x8 : Int32) (t0 : Int32) (σ : Mem) : Option (Int32 × Mem) := (if x8 = 0 then (p_X11_two_B213 k89 k285 x1 x2 x3) x4 x5 x6 x7 x8 t0 σ else (if x5 = 0 then (p_X11_two_B213 k89 k285 x1 x2 x3) x4 x5 x6 x7 x8 t0 σ else (p_X11_two_B214 k89 k285 x1 x2 x3) x4 x5 x6 x7 x8 t0 (1 : Int32) σ))
def p_X11_two_B186 (k89 : Int32 → Int32 → Int32 → Mem → Option (Int32 × Mem)) (k285 : Int32 → Int32 → Mem → Option (Int32 × Mem)) (x1 : Int32) (x2 : Int32) (x3 : Int32) (x4 : Int32) (x5 : Int32) (x6 : Int32) (x7 : Int32) (x8 : Int32) (t0 : Int32) (t1 : Int32) (t2 : Int32) (σ : Mem) : Option (Int32 × Mem) := (bnd (p_X11_gain t1 t2 σ) fun v7 s8 => (if t0 < v7 then (p_X11_two_B197 k89 k285 x1 x2 x3) x4 x5 x6 x7 x8 (0 : Int32) s8 else (p_X11_two_B197 k89 k285 x1 x2 x3) x4 x5 x6 x7 x8 (1 : Int32) s8))
def p_X11_two_B185 (k89 : Int32 → Int32 → Int32 → Mem → Option (Int32 × Mem)) (k285 : Int32 → Int32 → Mem → Option (Int32 × Mem)) (x1 : Int32) (x2 : Int32) (x3 : Int32) (x4 : Int32) (x5 : Int32) (x6 : Int32) (x7 : Int32) (x8 : Int32) (t0 : Int32) (t1 : Int32) (σ : Mem) : Option (Int32 × Mem) := (p_X11_two_B186 k89 k285 x1 x2 x3) x4 x5 x6 x7 x8 t0 t1 (0 : Int32) σ
def p_X11_two_B171 (k89 : Int32 → Int32 → Int32 → Mem → Option (Int32 × Mem)) (k285 : Int32 → Int32 → Mem → Option (Int32 × Mem)) (x1 : Int32) (x2 : Int32) (x3 : Int32) (x4 : Int32) (x5 : Int32) (x6 : Int32) (x7 : Int32) (x8 : Int32) (t0 : Int32) (t1 : Int32) (σ : Mem) : Option (Int32 × Mem) := (if x8 = 0 then (p_X11_two_B185 k89 k285 x1 x2 x3) x4 x5 x6 x7 x8 t0 t1 σ else (if x5 = 0 then (p_X11_two_B185 k89 k285 x1 x2 x3) x4 x5 x6 x7 x8 t0 t1 σ else (p_X11_two_B186 k89 k285 x1 x2 x3) x4 x5 x6 x7 x8 t0 t1 (1 : Int32) σ))
def p_X11_two_B170 (k89 : Int32 → Int32 → Int32 → Mem → Option (Int32 × Mem)) (k285 : Int32 → Int32 → Mem → Option (Int32 × Mem)) (x1 : Int32) (x2 : Int32) (x3 : Int32) (x4 : Int32) (x5 : Int32) (x6 : Int32) (x7 : Int32) (x8 : Int32) (t0 : Int32) (σ : Mem) : Option (Int32 × Mem) := (p_X11_two_B171 k89 k285 x1 x2 x3) x4 x5 x6 x7 x8 t0 (0 : Int32) σ
def p_X11_two_B153 (k89 : Int32 → Int32 → Int32 → Mem → Option (Int32 × Mem)) (k285 : Int32 → Int32 → Mem → Option (Int32 × Mem)) (x1 : Int32) (x2 : Int32) (x3 : Int32) (x4 : Int32) (x5 : Int32) (x6 : Int32) (x7 : Int32) (x8 : Int32) (t0 : Int32) (t1 : Int32) (σ : Mem) : Option (Int32 × Mem) := (bnd (p_X11_gain t0 t1 σ) fun v10 s11 => (if x7 = 0 then (if x4 = 0 then (p_X11_two_B170 k89 k285 x1 x2 x3) x4 x5 x6 x7 x8 v10 s11 else (p_X11_two_B171 k89 k285 x1 x2 x3) x4 x5 x6 x7 x8 v10 (1 : Int32) s11) else (p_X11_two_B170 k89 k285 x1 x2 x3) x4 x5 x6 x7 x8 v10 s11))
def p_X11_two_B152 (k89 : Int32 → Int32 → Int32 → Mem → Option (Int32 × Mem)) (k285 : Int32 → Int32 → Mem → Option (Int32 × Mem)) (x1 : Int32) (x2 : Int32) (x3 : Int32) (x4 : Int32) (x5 : Int32) (x6 : Int32) (x7 : Int32) (x8 : Int32) (t0 : Int32) (σ : Mem) : Option (Int32 × Mem) := (p_X11_two_B153 k89 k285 x1 x2 x3) x4 x5 x6 x7 x8 t0 (0 : Int32) σ
def p_X11_two_B138 (k89 : Int32 → Int32 → Int32 → Mem → Option (Int32 × Mem)) (k285 : Int32 → Int32 → Mem → Option (Int32 × Mem)) (x1 : Int32) (x2 : Int32) (x3 : Int32) (x4 : Int32) (x5 : Int32) (x6 : Int32) (x7 : Int32) (x8 : Int32) (t0 : Int32) (σ : Mem) : Option (Int32 × Mem) := (if x8 = 0 then (p_X11_two_B152 k89 k285 x1 x2 x3) x4 x5 x6 x7 x8 t0 σ else (if x5 = 0 then (p_X11_two_B152 k89 k285 x1 x2 x3) x4 x5 x6 x7 x8 t0 σ else (p_X11_two_B153 k89 k285 x1 x2 x3) x4 x5 x6 x7 x8 t0 (1 : Int32) σ))
def p_X11_two_B137 (k89 : Int32 → Int32 → Int32 → Mem → Option (Int32 × Mem)) (k285 : Int32 → Int32 → Mem → Option (Int32 × Mem)) (x1 : Int32) (x2 : Int32) (x3 : Int32) (x4 : Int32) (x5 : Int32) (x6 : Int32) (x7 : Int32) (x8 : Int32) (σ : Mem) : Option (Int32 × Mem) := (p_X11_two_B138 k89 k285 x1 x2 x3) x4 x5 x6 x7 x8 (0 : Int32) σ
def p_X11_two_B121 (k89 : Int32 → Int32 → Int32 → Mem → Option (Int32 × Mem)) (k285 : Int32 → Int32 → Mem → Option (Int32 × Mem)) (x1 : Int32) (x2 : Int32) (x3 : Int32) (x4 : Int32) (x5 : Int32) (x6 : Int32) (x7 : Int32) (t0 : Int32) (σ : Mem) : Option (Int32 × Mem) := (if x7 = 0 then (p_X11_two_B137 k89 k285 x1 x2 x3) x4 x5 x6 x7 t0 σ else (if x4 = 0 then (p_X11_two_B137 k89 k285 x1 x2 x3) x4 x5 x6 x7 t0 σ else (p_X11_two_B138 k89 k285 x1 x2 x3) x4 x5 x6 x7 t0 (1 : Int32) σ))
def p_X11_two_B106 (k89 : Int32 → Int32 → Int32 → Mem → Option (Int32 × Mem)) (k285 : Int32 → Int32 → Mem → Option (Int32 × Mem)) (x1 : Int32) (x2 : Int32) (x3 : Int32) (x4 : Int32) (x5 : Int32) (x6 : Int32) (t0 : Int32) (σ : Mem) : Option (Int32 × Mem) := (if (x6 - x6 / (2 : Int32) * (2 : Int32)) = (1 : Int32) then (p_X11_two_B121 k89 k285 x1 x2 x3) x4 x5 x6 t0 (1 : Int32) σ else (p_X11_two_B121 k89 k285 x1 x2 x3) x4 x5 x6 t0 (0 : Int32) σ)
def p_X11_two_B89 (k89 : Int32 → Int32 → Int32 → Mem → Option (Int32 × Mem)) (k285 : Int32 → Int32 → Mem → Option (Int32 × Mem)) (x1 : Int32) (x2 : Int32) (x3 : Int32) (x4 : Int32) (x5 : Int32) (x6 : Int32) (σ : Mem) : Option (Int32 × Mem) := (if (4 : Int32) ≤ x6 then some ((-4 : Int32), σ) else (if x6 < (2 : Int32) then (p_X11_two_B106 k89 k285 x1 x2 x3) x4 x5 x6 (0 : Int32) σ else (p_X11_two_B106 k89 k285 x1 x2 x3) x4 x5 x6 (1 : Int32) σ))
def p_X11_two_L89 (k285 : Int32 → Int32 → Mem → Option (Int32 × Mem)) (x1 : Int32) (x2 : Int32) (x3 : Int32) : Nat → Int32 → Int32 → Int32 → Mem → Option (Int32 × Mem)
  | 0 => fun _ _ _ _ => none
  | f + 1 => p_X11_two_B89 (p_X11_two_L89 k285 x1 x2 x3 f) k285 x1 x2 x3
def p_X11_two_B84  (x1 : Int32) (x2 : Int32) (x3 : Int32) (x4 : Int32) (t0 : Int32) (σ : Mem) : Option (Int32 × Mem) := (p_X11_two_L89 (fun (x7 : Int32) (x8 : Int32) (m13 : Mem) => (if x7 = 0 then (p_X11_two_B296 x1 x2 x3) x8 (0 : Int32) m13 else (p_X11_two_B296 x1 x2 x3) x8 (10 : Int32) m13)) x1 x2 x3 1000) x4 t0 (0 : Int32) σ
def p_X11_two_B53  (x1 : Int32) (x2 : Int32) (x3 : Int32) (t0 : Int32) (σ : Mem) : Option (Int32 × Mem) := (bnd (p_X3_kindOf 1 x2 σ) fun v14 s15 => (if x2 < 0 ∨ 8 ≤ (x2).toNatClampNeg then none else lt (s15 (27 + 1) (x2).toNatClampNeg) fun v17 => (bnd (p_K_reach v14 v17 s15) fun v18 s19 => (if v18 < x3 then (p_X11_two_B84 x1 x2 x3) t0 (0 : Int32) s19 else (p_X11_two_B84 x1 x2 x3) t0 (1 : Int32) s19))))
def p_X11_two (x1 : Int32) (x2 : Int32) (x3 : Int32) (σ : Mem) : Option (Int32 × Mem) := (bnd (p_X3_hasTwo 1 x1 x2 σ) fun v21 s22 => (if v21 = 0 then some ((-1 : Int32), s22) else (bnd (p_X11_within x3 (0 : Int32) (9 : Int32) s22) fun v24 s25 => (if v24 = 0 then some ((-1 : Int32), s25) else (bnd (p_X3_kindOf 1 x1 s25) fun v27 s28 => (if x1 < 0 ∨ 8 ≤ (x1).toNatClampNeg then none else lt (s28 (27 + 1) (x1).toNatClampNeg) fun v30 => (bnd (p_K_reach v27 v30 s28) fun v31 s32 => (if v31 < x3 then (p_X11_two_B53 x1 x2 x3) (0 : Int32) s32 else (p_X11_two_B53 x1 x2 x3) (1 : Int32) s32))))))))
set_option maxHeartbeats 4000000 in
set_option maxRecDepth 100000 in
theorem c_X11_two {G : Gl} {x1 : Int32} {x2 : Int32} {x3 : Int32} {σ : Mem} {res : Int32 × Mem}  (h : p_X11_two x1 x2 x3 σ = some res) : MetX G yX11_two cX11_two 11 (some .int) 4 [.ref (ga G 0), .int x1, .int x2, .int x3] σ (some (.int res.1)) res.2 := by
  refine met_V (by decide +kernel) (Nat.le_of_ble_eq_true rfl) (fun X hC => ?_)
  have hC : Ok G 4 11 X cX11_two RX11 (some .int) := hC
  have hB306 : ∀ (t0 : Int32), ∀ (t1 : Int32), ∀ σ : Mem, p_X11_two_B306 x1 x2 x3 t0 t1 σ = some res → V G 4 11 X ((some (.int res.1)), res.2) σ [] [.int t1, .int t0] 306 := by
    intro t0 t1 σ h
    unfold p_X11_two_B306 at h
    refine v_blk hC (is := [(.iadd, 0)]) (pc' := 307) (ls' := []) (st' := [.int (t0 + t1)]) (by decide +kernel) rfl ?_
    exact v_iret hC h (by decide +kernel)
  have hB296 : ∀ (x8 : Int32), ∀ (t0 : Int32), ∀ σ : Mem, p_X11_two_B296 x1 x2 x3 x8 t0 σ = some res → V G 4 11 X ((some (.int res.1)), res.2) σ [(8, .int x8)] [.int t0] 296 := by
    intro x8 t0 σ h
    unfold p_X11_two_B296 at h
    refine v_blk hC (is := [(.iload 8, 0)]) (pc' := 298) (ls' := [(8, .int x8)]) (st' := [.int x8, .int t0]) (by decide +kernel) rfl ?_
    refine v_if_eq hC (off := 7) (tgt := 305) (by decide +kernel) (by decide) h (fun hq h => ?_) (fun hq h => ?_)
    · refine v_blk hC (is := [(.iconst 0, (0 : Int32))]) (pc' := 306) (ls' := [(8, .int x8)]) (st' := [.int (0 : Int32), .int t0]) (by decide +kernel) rfl ?_
      refine v_sub [] (ls' := []) rfl ?_
      exact (hB306 ) _ _ _ h
    · refine v_blk hC (is := [(.iconst 1, (1 : Int32))]) (pc' := 302) (ls' := [(8, .int x8)]) (st' := [.int (1 : Int32), .int t0]) (by decide +kernel) rfl ?_
      refine v_goto hC (off := 4) (tgt := 306) (by decide +kernel) (by decide) ?_
      refine v_sub [] (ls' := []) rfl ?_
      exact (hB306 ) _ _ _ h
  have hB308 : ∀ (k89 : Int32 → Int32 → Int32 → Mem → Option (Int32 × Mem)), (∀ (x4 : Int32), ∀ (x5 : Int32), ∀ (x6 : Int32), ∀ σ : Mem, k89 x4 x5 x6 σ = some res → V G 4 11 X ((some (.int res.1)), res.2) σ [(4, .int x4), (5, .int x5), (6, .int x6)] [] 89) → ∀ (x4 : Int32), ∀ (x5 : Int32), ∀ (x6 : Int32), ∀ σ : Mem, p_X11_two_B308 k89 x1 x2 x3 x4 x5 x6 σ = some res → V G 4 11 X ((some (.int res.1)), res.2) σ [(4, .int x4), (5, .int x5), (6, .int x6)] [] 308 := by
    intro k89 hk89 x4 x5 x6 σ h
    unfold p_X11_two_B308 at h
    refine v_blk hC (is := [(.iinc 6 1, (1 : Int32))]) (pc' := 311) (ls' := [(6, .int (x6 + (1 : Int32))), (4, .int x4), (5, .int x5)]) (st' := []) (by decide +kernel) rfl ?_
    refine v_goto hC (off := (-222)) (tgt := 89) (by decide +kernel) (by decide) ?_
    refine v_sub [1, 2, 0] (ls' := [(4, .int x4), (5, .int x5), (6, .int (x6 + (1 : Int32)))]) rfl ?_
    exact hk89 _ _ _ _ h
  have hB273 : ∀ (k89 : Int32 → Int32 → Int32 → Mem → Option (Int32 × Mem)), ∀ (k285 : Int32 → Int32 → Mem → Option (Int32 × Mem)), (∀ (x4 : Int32), ∀ (x5 : Int32), ∀ (x6 : Int32), ∀ σ : Mem, k89 x4 x5 x6 σ = some res → V G 4 11 X ((some (.int res.1)), res.2) σ [(4, .int x4), (5, .int x5), (6, .int x6)] [] 89) → (∀ (x7 : Int32), ∀ (x8 : Int32), ∀ σ : Mem, k285 x7 x8 σ = some res → V G 4 11 X ((some (.int res.1)), res.2) σ [(7, .int x7), (8, .int x8)] [] 285) → ∀ (x4 : Int32), ∀ (x5 : Int32), ∀ (x6 : Int32), ∀ (x7 : Int32), ∀ (x8 : Int32), ∀ (x9 : Int32), ∀ (t0 : Int32), ∀ σ : Mem, p_X11_two_B273 k89 k285 x1 x2 x3 x4 x5 x6 x7 x8 x9 t0 σ = some res → V G 4 11 X ((some (.int res.1)), res.2) σ [(4, .int x4), (5, .int x5), (6, .int x6), (7, .int x7), (8, .int x8), (9, .int x9)] [.int t0] 273 := by
    intro k89 k285 hk89 hk285 x4 x5 x6 x7 x8 x9 t0 σ h
    unfold p_X11_two_B273 at h
    refine v_blk hC (is := [(.istore 10, 0), (.iload 9, 0)]) (pc' := 277) (ls' := [(10, .int t0), (4, .int x4), (5, .int x5), (6, .int x6), (7, .int x7), (8, .int x8), (9, .int x9)]) (st' := [.int x9]) (by decide +kernel) rfl ?_
    refine v_if_eq hC (off := 31) (tgt := 308) (by decide +kernel) (by decide) h (fun hq h => ?_) (fun hq h => ?_)
    · refine v_sub [1, 2, 3] (ls' := [(4, .int x4), (5, .int x5), (6, .int x6)]) rfl ?_
      exact (hB308 _ hk89) _ _ _ _ h
    · refine v_blk hC (is := [(.iload 10, 0)]) (pc' := 282) (ls' := [(10, .int t0), (4, .int x4), (5, .int x5), (6, .int x6), (7, .int x7), (8, .int x8), (9, .int x9)]) (st' := [.int t0]) (by decide +kernel) rfl ?_
      refine v_if_eq hC (off := 26) (tgt := 308) (by decide +kernel) (by decide) h (fun hq h => ?_) (fun hq h => ?_)
      · refine v_sub [1, 2, 3] (ls' := [(4, .int x4), (5, .int x5), (6, .int x6)]) rfl ?_
        exact (hB308 _ hk89) _ _ _ _ h
      · refine v_sub [4, 5] (ls' := [(7, .int x7), (8, .int x8)]) rfl ?_
        exact hk285 _ _ _ h
  have hB262 : ∀ (k89 : Int32 → Int32 → Int32 → Mem → Option (Int32 × Mem)), ∀ (k285 : Int32 → Int32 → Mem → Option (Int32 × Mem)), (∀ (x4 : Int32), ∀ (x5 : Int32), ∀ (x6 : Int32), ∀ σ : Mem, k89 x4 x5 x6 σ = some res → V G 4 11 X ((some (.int res.1)), res.2) σ [(4, .int x4), (5, .int x5), (6, .int x6)] [] 89) → (∀ (x7 : Int32), ∀ (x8 : Int32), ∀ σ : Mem, k285 x7 x8 σ = some res → V G 4 11 X ((some (.int res.1)), res.2) σ [(7, .int x7), (8, .int x8)] [] 285) → ∀ (x4 : Int32), ∀ (x5 : Int32), ∀ (x6 : Int32), ∀ (x7 : Int32), ∀ (x8 : Int32), ∀ (x9 : Int32), ∀ (t0 : Int32), ∀ (t1 : Int32), ∀ (t2 : Int32), ∀ σ : Mem, p_X11_two_B262 k89 k285 x1 x2 x3 x4 x5 x6 x7 x8 x9 t0 t1 t2 σ = some res → V G 4 11 X ((some (.int res.1)), res.2) σ [(4, .int x4), (5, .int x5), (6, .int x6), (7, .int x7), (8, .int x8), (9, .int x9)] [.int t2, .int t1, .int t0] 262 := by
    intro k89 k285 hk89 hk285 x4 x5 x6 x7 x8 x9 t0 t1 t2 σ h
    unfold p_X11_two_B262 at h
    obtain ⟨v1, s2, e3, h⟩ := bndI h
    refine v_cS (idx := 219) hC ⟨tt_at 764 (by decide +kernel) rfl, tsX11_gain, tnX11_gain, tcX11_gain, tmX11_gain⟩ (c_X11_gain e3) (by decide) (by decide) (by decide +kernel) (rest := [.int t0]) rfl rfl (Nat.le_of_ble_eq_true rfl) rfl ?_
    refine v_icmp_lt hC (off := 7) (tgt := 272) (by decide +kernel) (by decide) h (fun hq h => ?_) (fun hq h => ?_)
    · refine v_blk hC (is := [(.iconst 0, (0 : Int32))]) (pc' := 273) (ls' := [(4, .int x4), (5, .int x5), (6, .int x6), (7, .int x7), (8, .int x8), (9, .int x9)]) (st' := [.int (0 : Int32)]) (by decide +kernel) rfl ?_
      exact (hB273 _ _ hk89 hk285) _ _ _ _ _ _ _ _ h
    · refine v_blk hC (is := [(.iconst 1, (1 : Int32))]) (pc' := 269) (ls' := [(4, .int x4), (5, .int x5), (6, .int x6), (7, .int x7), (8, .int x8), (9, .int x9)]) (st' := [.int (1 : Int32)]) (by decide +kernel) rfl ?_
      refine v_goto hC (off := 4) (tgt := 273) (by decide +kernel) (by decide) ?_
      exact (hB273 _ _ hk89 hk285) _ _ _ _ _ _ _ _ h
  have hB261 : ∀ (k89 : Int32 → Int32 → Int32 → Mem → Option (Int32 × Mem)), ∀ (k285 : Int32 → Int32 → Mem → Option (Int32 × Mem)), (∀ (x4 : Int32), ∀ (x5 : Int32), ∀ (x6 : Int32), ∀ σ : Mem, k89 x4 x5 x6 σ = some res → V G 4 11 X ((some (.int res.1)), res.2) σ [(4, .int x4), (5, .int x5), (6, .int x6)] [] 89) → (∀ (x7 : Int32), ∀ (x8 : Int32), ∀ σ : Mem, k285 x7 x8 σ = some res → V G 4 11 X ((some (.int res.1)), res.2) σ [(7, .int x7), (8, .int x8)] [] 285) → ∀ (x4 : Int32), ∀ (x5 : Int32), ∀ (x6 : Int32), ∀ (x7 : Int32), ∀ (x8 : Int32), ∀ (x9 : Int32), ∀ (t0 : Int32), ∀ (t1 : Int32), ∀ σ : Mem, p_X11_two_B261 k89 k285 x1 x2 x3 x4 x5 x6 x7 x8 x9 t0 t1 σ = some res → V G 4 11 X ((some (.int res.1)), res.2) σ [(4, .int x4), (5, .int x5), (6, .int x6), (7, .int x7), (8, .int x8), (9, .int x9)] [.int t1, .int t0] 261 := by
    intro k89 k285 hk89 hk285 x4 x5 x6 x7 x8 x9 t0 t1 σ h
    unfold p_X11_two_B261 at h
    refine v_blk hC (is := [(.iconst 0, (0 : Int32))]) (pc' := 262) (ls' := [(4, .int x4), (5, .int x5), (6, .int x6), (7, .int x7), (8, .int x8), (9, .int x9)]) (st' := [.int (0 : Int32), .int t1, .int t0]) (by decide +kernel) rfl ?_
    exact (hB262 _ _ hk89 hk285) _ _ _ _ _ _ _ _ _ _ h
  have hB247 : ∀ (k89 : Int32 → Int32 → Int32 → Mem → Option (Int32 × Mem)), ∀ (k285 : Int32 → Int32 → Mem → Option (Int32 × Mem)), (∀ (x4 : Int32), ∀ (x5 : Int32), ∀ (x6 : Int32), ∀ σ : Mem, k89 x4 x5 x6 σ = some res → V G 4 11 X ((some (.int res.1)), res.2) σ [(4, .int x4), (5, .int x5), (6, .int x6)] [] 89) → (∀ (x7 : Int32), ∀ (x8 : Int32), ∀ σ : Mem, k285 x7 x8 σ = some res → V G 4 11 X ((some (.int res.1)), res.2) σ [(7, .int x7), (8, .int x8)] [] 285) → ∀ (x4 : Int32), ∀ (x5 : Int32), ∀ (x6 : Int32), ∀ (x7 : Int32), ∀ (x8 : Int32), ∀ (x9 : Int32), ∀ (t0 : Int32), ∀ (t1 : Int32), ∀ σ : Mem, p_X11_two_B247 k89 k285 x1 x2 x3 x4 x5 x6 x7 x8 x9 t0 t1 σ = some res → V G 4 11 X ((some (.int res.1)), res.2) σ [(4, .int x4), (5, .int x5), (6, .int x6), (7, .int x7), (8, .int x8), (9, .int x9)] [.int t1, .int t0] 247 := by
    intro k89 k285 hk89 hk285 x4 x5 x6 x7 x8 x9 t0 t1 σ h
    unfold p_X11_two_B247 at h
    refine v_blk hC (is := [(.iload 7, 0)]) (pc' := 249) (ls' := [(4, .int x4), (5, .int x5), (6, .int x6), (7, .int x7), (8, .int x8), (9, .int x9)]) (st' := [.int x7, .int t1, .int t0]) (by decide +kernel) rfl ?_
    refine v_if_eq hC (off := 12) (tgt := 261) (by decide +kernel) (by decide) h (fun hq h => ?_) (fun hq h => ?_)
    · exact (hB261 _ _ hk89 hk285) _ _ _ _ _ _ _ _ _ h
    · refine v_blk hC (is := [(.iload 4, 0)]) (pc' := 254) (ls' := [(4, .int x4), (5, .int x5), (6, .int x6), (7, .int x7), (8, .int x8), (9, .int x9)]) (st' := [.int x4, .int t1, .int t0]) (by decide +kernel) rfl ?_
      refine v_if_eq hC (off := 7) (tgt := 261) (by decide +kernel) (by decide) h (fun hq h => ?_) (fun hq h => ?_)
      · exact (hB261 _ _ hk89 hk285) _ _ _ _ _ _ _ _ _ h
      · refine v_blk hC (is := [(.iconst 1, (1 : Int32))]) (pc' := 258) (ls' := [(4, .int x4), (5, .int x5), (6, .int x6), (7, .int x7), (8, .int x8), (9, .int x9)]) (st' := [.int (1 : Int32), .int t1, .int t0]) (by decide +kernel) rfl ?_
        refine v_goto hC (off := 4) (tgt := 262) (by decide +kernel) (by decide) ?_
        exact (hB262 _ _ hk89 hk285) _ _ _ _ _ _ _ _ _ _ h
  have hB246 : ∀ (k89 : Int32 → Int32 → Int32 → Mem → Option (Int32 × Mem)), ∀ (k285 : Int32 → Int32 → Mem → Option (Int32 × Mem)), (∀ (x4 : Int32), ∀ (x5 : Int32), ∀ (x6 : Int32), ∀ σ : Mem, k89 x4 x5 x6 σ = some res → V G 4 11 X ((some (.int res.1)), res.2) σ [(4, .int x4), (5, .int x5), (6, .int x6)] [] 89) → (∀ (x7 : Int32), ∀ (x8 : Int32), ∀ σ : Mem, k285 x7 x8 σ = some res → V G 4 11 X ((some (.int res.1)), res.2) σ [(7, .int x7), (8, .int x8)] [] 285) → ∀ (x4 : Int32), ∀ (x5 : Int32), ∀ (x6 : Int32), ∀ (x7 : Int32), ∀ (x8 : Int32), ∀ (x9 : Int32), ∀ (t0 : Int32), ∀ σ : Mem, p_X11_two_B246 k89 k285 x1 x2 x3 x4 x5 x6 x7 x8 x9 t0 σ = some res → V G 4 11 X ((some (.int res.1)), res.2) σ [(4, .int x4), (5, .int x5), (6, .int x6), (7, .int x7), (8, .int x8), (9, .int x9)] [.int t0] 246 := by
    intro k89 k285 hk89 hk285 x4 x5 x6 x7 x8 x9 t0 σ h
    unfold p_X11_two_B246 at h
    refine v_blk hC (is := [(.iconst 0, (0 : Int32))]) (pc' := 247) (ls' := [(4, .int x4), (5, .int x5), (6, .int x6), (7, .int x7), (8, .int x8), (9, .int x9)]) (st' := [.int (0 : Int32), .int t0]) (by decide +kernel) rfl ?_
    exact (hB247 _ _ hk89 hk285) _ _ _ _ _ _ _ _ _ h
  have hB229 : ∀ (k89 : Int32 → Int32 → Int32 → Mem → Option (Int32 × Mem)), ∀ (k285 : Int32 → Int32 → Mem → Option (Int32 × Mem)), (∀ (x4 : Int32), ∀ (x5 : Int32), ∀ (x6 : Int32), ∀ σ : Mem, k89 x4 x5 x6 σ = some res → V G 4 11 X ((some (.int res.1)), res.2) σ [(4, .int x4), (5, .int x5), (6, .int x6)] [] 89) → (∀ (x7 : Int32), ∀ (x8 : Int32), ∀ σ : Mem, k285 x7 x8 σ = some res → V G 4 11 X ((some (.int res.1)), res.2) σ [(7, .int x7), (8, .int x8)] [] 285) → ∀ (x4 : Int32), ∀ (x5 : Int32), ∀ (x6 : Int32), ∀ (x7 : Int32), ∀ (x8 : Int32), ∀ (x9 : Int32), ∀ (t0 : Int32), ∀ (t1 : Int32), ∀ σ : Mem, p_X11_two_B229 k89 k285 x1 x2 x3 x4 x5 x6 x7 x8 x9 t0 t1 σ = some res → V G 4 11 X ((some (.int res.1)), res.2) σ [(4, .int x4), (5, .int x5), (6, .int x6), (7, .int x7), (8, .int x8), (9, .int x9)] [.int t1, .int t0] 229 := by
    intro k89 k285 hk89 hk285 x4 x5 x6 x7 x8 x9 t0 t1 σ h
    unfold p_X11_two_B229 at h
    obtain ⟨v4, s5, e6, h⟩ := bndI h
    refine v_cS (idx := 219) hC ⟨tt_at 764 (by decide +kernel) rfl, tsX11_gain, tnX11_gain, tcX11_gain, tmX11_gain⟩ (c_X11_gain e6) (by decide) (by decide) (by decide +kernel) (rest := []) rfl rfl (Nat.le_of_ble_eq_true rfl) rfl ?_
    refine v_blk hC (is := [(.iload 8, 0)]) (pc' := 234) (ls' := [(4, .int x4), (5, .int x5), (6, .int x6), (7, .int x7), (8, .int x8), (9, .int x9)]) (st' := [.int x8, .int v4]) (by decide +kernel) rfl ?_
    refine v_if_ne hC (off := 12) (tgt := 246) (by decide +kernel) (by decide) h (fun hq h => ?_) (fun hq h => ?_)
    · exact (hB246 _ _ hk89 hk285) _ _ _ _ _ _ _ _ h
    · refine v_blk hC (is := [(.iload 5, 0)]) (pc' := 239) (ls' := [(4, .int x4), (5, .int x5), (6, .int x6), (7, .int x7), (8, .int x8), (9, .int x9)]) (st' := [.int x5, .int v4]) (by decide +kernel) rfl ?_
      refine v_if_eq hC (off := 7) (tgt := 246) (by decide +kernel) (by decide) h (fun hq h => ?_) (fun hq h => ?_)
      · exact (hB246 _ _ hk89 hk285) _ _ _ _ _ _ _ _ h
      · refine v_blk hC (is := [(.iconst 1, (1 : Int32))]) (pc' := 243) (ls' := [(4, .int x4), (5, .int x5), (6, .int x6), (7, .int x7), (8, .int x8), (9, .int x9)]) (st' := [.int (1 : Int32), .int v4]) (by decide +kernel) rfl ?_
        refine v_goto hC (off := 4) (tgt := 247) (by decide +kernel) (by decide) ?_
        exact (hB247 _ _ hk89 hk285) _ _ _ _ _ _ _ _ _ h
  have hB228 : ∀ (k89 : Int32 → Int32 → Int32 → Mem → Option (Int32 × Mem)), ∀ (k285 : Int32 → Int32 → Mem → Option (Int32 × Mem)), (∀ (x4 : Int32), ∀ (x5 : Int32), ∀ (x6 : Int32), ∀ σ : Mem, k89 x4 x5 x6 σ = some res → V G 4 11 X ((some (.int res.1)), res.2) σ [(4, .int x4), (5, .int x5), (6, .int x6)] [] 89) → (∀ (x7 : Int32), ∀ (x8 : Int32), ∀ σ : Mem, k285 x7 x8 σ = some res → V G 4 11 X ((some (.int res.1)), res.2) σ [(7, .int x7), (8, .int x8)] [] 285) → ∀ (x4 : Int32), ∀ (x5 : Int32), ∀ (x6 : Int32), ∀ (x7 : Int32), ∀ (x8 : Int32), ∀ (x9 : Int32), ∀ (t0 : Int32), ∀ σ : Mem, p_X11_two_B228 k89 k285 x1 x2 x3 x4 x5 x6 x7 x8 x9 t0 σ = some res → V G 4 11 X ((some (.int res.1)), res.2) σ [(4, .int x4), (5, .int x5), (6, .int x6), (7, .int x7), (8, .int x8), (9, .int x9)] [.int t0] 228 := by
    intro k89 k285 hk89 hk285 x4 x5 x6 x7 x8 x9 t0 σ h
    unfold p_X11_two_B228 at h
    refine v_blk hC (is := [(.iconst 0, (0 : Int32))]) (pc' := 229) (ls' := [(4, .int x4), (5, .int x5), (6, .int x6), (7, .int x7), (8, .int x8), (9, .int x9)]) (st' := [.int (0 : Int32), .int t0]) (by decide +kernel) rfl ?_
    exact (hB229 _ _ hk89 hk285) _ _ _ _ _ _ _ _ _ h
  have hB214 : ∀ (k89 : Int32 → Int32 → Int32 → Mem → Option (Int32 × Mem)), ∀ (k285 : Int32 → Int32 → Mem → Option (Int32 × Mem)), (∀ (x4 : Int32), ∀ (x5 : Int32), ∀ (x6 : Int32), ∀ σ : Mem, k89 x4 x5 x6 σ = some res → V G 4 11 X ((some (.int res.1)), res.2) σ [(4, .int x4), (5, .int x5), (6, .int x6)] [] 89) → (∀ (x7 : Int32), ∀ (x8 : Int32), ∀ σ : Mem, k285 x7 x8 σ = some res → V G 4 11 X ((some (.int res.1)), res.2) σ [(7, .int x7), (8, .int x8)] [] 285) → ∀ (x4 : Int32), ∀ (x5 : Int32), ∀ (x6 : Int32), ∀ (x7 : Int32), ∀ (x8 : Int32), ∀ (x9 : Int32), ∀ (t0 : Int32), ∀ σ : Mem, p_X11_two_B214 k89 k285 x1 x2 x3 x4 x5 x6 x7 x8 x9 t0 σ = some res → V G 4 11 X ((some (.int res.1)), res.2) σ [(4, .int x4), (5, .int x5), (6, .int x6), (7, .int x7), (8, .int x8), (9, .int x9)] [.int t0] 214 := by
    intro k89 k285 hk89 hk285 x4 x5 x6 x7 x8 x9 t0 σ h
    unfold p_X11_two_B214 at h
    refine v_blk hC (is := [(.iload 7, 0)]) (pc' := 216) (ls' := [(4, .int x4), (5, .int x5), (6, .int x6), (7, .int x7), (8, .int x8), (9, .int x9)]) (st' := [.int x7, .int t0]) (by decide +kernel) rfl ?_
    refine v_if_eq hC (off := 12) (tgt := 228) (by decide +kernel) (by decide) h (fun hq h => ?_) (fun hq h => ?_)
    · exact (hB228 _ _ hk89 hk285) _ _ _ _ _ _ _ _ h
    · refine v_blk hC (is := [(.iload 4, 0)]) (pc' := 221) (ls' := [(4, .int x4), (5, .int x5), (6, .int x6), (7, .int x7), (8, .int x8), (9, .int x9)]) (st' := [.int x4, .int t0]) (by decide +kernel) rfl ?_
      refine v_if_eq hC (off := 7) (tgt := 228) (by decide +kernel) (by decide) h (fun hq h => ?_) (fun hq h => ?_)
      · exact (hB228 _ _ hk89 hk285) _ _ _ _ _ _ _ _ h
      · refine v_blk hC (is := [(.iconst 1, (1 : Int32))]) (pc' := 225) (ls' := [(4, .int x4), (5, .int x5), (6, .int x6), (7, .int x7), (8, .int x8), (9, .int x9)]) (st' := [.int (1 : Int32), .int t0]) (by decide +kernel) rfl ?_
        refine v_goto hC (off := 4) (tgt := 229) (by decide +kernel) (by decide) ?_
        exact (hB229 _ _ hk89 hk285) _ _ _ _ _ _ _ _ _ h
  have hB213 : ∀ (k89 : Int32 → Int32 → Int32 → Mem → Option (Int32 × Mem)), ∀ (k285 : Int32 → Int32 → Mem → Option (Int32 × Mem)), (∀ (x4 : Int32), ∀ (x5 : Int32), ∀ (x6 : Int32), ∀ σ : Mem, k89 x4 x5 x6 σ = some res → V G 4 11 X ((some (.int res.1)), res.2) σ [(4, .int x4), (5, .int x5), (6, .int x6)] [] 89) → (∀ (x7 : Int32), ∀ (x8 : Int32), ∀ σ : Mem, k285 x7 x8 σ = some res → V G 4 11 X ((some (.int res.1)), res.2) σ [(7, .int x7), (8, .int x8)] [] 285) → ∀ (x4 : Int32), ∀ (x5 : Int32), ∀ (x6 : Int32), ∀ (x7 : Int32), ∀ (x8 : Int32), ∀ (x9 : Int32), ∀ σ : Mem, p_X11_two_B213 k89 k285 x1 x2 x3 x4 x5 x6 x7 x8 x9 σ = some res → V G 4 11 X ((some (.int res.1)), res.2) σ [(4, .int x4), (5, .int x5), (6, .int x6), (7, .int x7), (8, .int x8), (9, .int x9)] [] 213 := by
    intro k89 k285 hk89 hk285 x4 x5 x6 x7 x8 x9 σ h
    unfold p_X11_two_B213 at h
    refine v_blk hC (is := [(.iconst 0, (0 : Int32))]) (pc' := 214) (ls' := [(4, .int x4), (5, .int x5), (6, .int x6), (7, .int x7), (8, .int x8), (9, .int x9)]) (st' := [.int (0 : Int32)]) (by decide +kernel) rfl ?_
    exact (hB214 _ _ hk89 hk285) _ _ _ _ _ _ _ _ h
  have hB197 : ∀ (k89 : Int32 → Int32 → Int32 → Mem → Option (Int32 × Mem)), ∀ (k285 : Int32 → Int32 → Mem → Option (Int32 × Mem)), (∀ (x4 : Int32), ∀ (x5 : Int32), ∀ (x6 : Int32), ∀ σ : Mem, k89 x4 x5 x6 σ = some res → V G 4 11 X ((some (.int res.1)), res.2) σ [(4, .int x4), (5, .int x5), (6, .int x6)] [] 89) → (∀ (x7 : Int32), ∀ (x8 : Int32), ∀ σ : Mem, k285 x7 x8 σ = some res → V G 4 11 X ((some (.int res.1)), res.2) σ [(7, .int x7), (8, .int x8)] [] 285) → ∀ (x4 : Int32), ∀ (x5 : Int32), ∀ (x6 : Int32), ∀ (x7 : Int32), ∀ (x8 : Int32), ∀ (t0 : Int32), ∀ σ : Mem, p_X11_two_B197 k89 k285 x1 x2 x3 x4 x5 x6 x7 x8 t0 σ = some res → V G 4 11 X ((some (.int res.1)), res.2) σ [(4, .int x4), (5, .int x5), (6, .int x6), (7, .int x7), (8, .int x8)] [.int t0] 197 := by
    intro k89 k285 hk89 hk285 x4 x5 x6 x7 x8 t0 σ h
    unfold p_X11_two_B197 at h
    refine v_blk hC (is := [(.istore 9, 0), (.iload 8, 0)]) (pc' := 201) (ls' := [(9, .int t0), (4, .int x4), (5, .int x5), (6, .int x6), (7, .int x7), (8, .int x8)]) (st' := [.int x8]) (by decide +kernel) rfl ?_
    refine v_if_eq hC (off := 12) (tgt := 213) (by decide +kernel) (by decide) h (fun hq h => ?_) (fun hq h => ?_)
    · refine v_sub [1, 2, 3, 4, 5, 0] (ls' := [(4, .int x4), (5, .int x5), (6, .int x6), (7, .int x7), (8, .int x8), (9, .int t0)]) rfl ?_
      exact (hB213 _ _ hk89 hk285) _ _ _ _ _ _ _ h
    · refine v_blk hC (is := [(.iload 5, 0)]) (pc' := 206) (ls' := [(9, .int t0), (4, .int x4), (5, .int x5), (6, .int x6), (7, .int x7), (8, .int x8)]) (st' := [.int x5]) (by decide +kernel) rfl ?_
      refine v_if_eq hC (off := 7) (tgt := 213) (by decide +kernel) (by decide) h (fun hq h => ?_) (fun hq h => ?_)
      · refine v_sub [1, 2, 3, 4, 5, 0] (ls' := [(4, .int x4), (5, .int x5), (6, .int x6), (7, .int x7), (8, .int x8), (9, .int t0)]) rfl ?_
        exact (hB213 _ _ hk89 hk285) _ _ _ _ _ _ _ h
      · refine v_blk hC (is := [(.iconst 1, (1 : Int32))]) (pc' := 210) (ls' := [(9, .int t0), (4, .int x4), (5, .int x5), (6, .int x6), (7, .int x7), (8, .int x8)]) (st' := [.int (1 : Int32)]) (by decide +kernel) rfl ?_
        refine v_goto hC (off := 4) (tgt := 214) (by decide +kernel) (by decide) ?_
        refine v_sub [1, 2, 3, 4, 5, 0] (ls' := [(4, .int x4), (5, .int x5), (6, .int x6), (7, .int x7), (8, .int x8), (9, .int t0)]) rfl ?_
        exact (hB214 _ _ hk89 hk285) _ _ _ _ _ _ _ _ h
  have hB186 : ∀ (k89 : Int32 → Int32 → Int32 → Mem → Option (Int32 × Mem)), ∀ (k285 : Int32 → Int32 → Mem → Option (Int32 × Mem)), (∀ (x4 : Int32), ∀ (x5 : Int32), ∀ (x6 : Int32), ∀ σ : Mem, k89 x4 x5 x6 σ = some res → V G 4 11 X ((some (.int res.1)), res.2) σ [(4, .int x4), (5, .int x5), (6, .int x6)] [] 89) → (∀ (x7 : Int32), ∀ (x8 : Int32), ∀ σ : Mem, k285 x7 x8 σ = some res → V G 4 11 X ((some (.int res.1)), res.2) σ [(7, .int x7), (8, .int x8)] [] 285) → ∀ (x4 : Int32), ∀ (x5 : Int32), ∀ (x6 : Int32), ∀ (x7 : Int32), ∀ (x8 : Int32), ∀ (t0 : Int32), ∀ (t1 : Int32), ∀ (t2 : Int32), ∀ σ : Mem, p_X11_two_B186 k89 k285 x1 x2 x3 x4 x5 x6 x7 x8 t0 t1 t2 σ = some res → V G 4 11 X ((some (.int res.1)), res.2) σ [(4, .int x4), (5, .int x5), (6, .int x6), (7, .int x7), (8, .int x8)] [.int t2, .int t1, .int t0] 186 := by
    intro k89 k285 hk89 hk285 x4 x5 x6 x7 x8 t0 t1 t2 σ h
    unfold p_X11_two_B186 at h
    obtain ⟨v7, s8, e9, h⟩ := bndI h
    refine v_cS (idx := 219) hC ⟨tt_at 764 (by decide +kernel) rfl, tsX11_gain, tnX11_gain, tcX11_gain, tmX11_gain⟩ (c_X11_gain e9) (by decide) (by decide) (by decide +kernel) (rest := [.int t0]) rfl rfl (Nat.le_of_ble_eq_true rfl) rfl ?_
    refine v_icmp_lt hC (off := 7) (tgt := 196) (by decide +kernel) (by decide) h (fun hq h => ?_) (fun hq h => ?_)
    · refine v_blk hC (is := [(.iconst 0, (0 : Int32))]) (pc' := 197) (ls' := [(4, .int x4), (5, .int x5), (6, .int x6), (7, .int x7), (8, .int x8)]) (st' := [.int (0 : Int32)]) (by decide +kernel) rfl ?_
      exact (hB197 _ _ hk89 hk285) _ _ _ _ _ _ _ h
    · refine v_blk hC (is := [(.iconst 1, (1 : Int32))]) (pc' := 193) (ls' := [(4, .int x4), (5, .int x5), (6, .int x6), (7, .int x7), (8, .int x8)]) (st' := [.int (1 : Int32)]) (by decide +kernel) rfl ?_
      refine v_goto hC (off := 4) (tgt := 197) (by decide +kernel) (by decide) ?_
      exact (hB197 _ _ hk89 hk285) _ _ _ _ _ _ _ h
  have hB185 : ∀ (k89 : Int32 → Int32 → Int32 → Mem → Option (Int32 × Mem)), ∀ (k285 : Int32 → Int32 → Mem → Option (Int32 × Mem)), (∀ (x4 : Int32), ∀ (x5 : Int32), ∀ (x6 : Int32), ∀ σ : Mem, k89 x4 x5 x6 σ = some res → V G 4 11 X ((some (.int res.1)), res.2) σ [(4, .int x4), (5, .int x5), (6, .int x6)] [] 89) → (∀ (x7 : Int32), ∀ (x8 : Int32), ∀ σ : Mem, k285 x7 x8 σ = some res → V G 4 11 X ((some (.int res.1)), res.2) σ [(7, .int x7), (8, .int x8)] [] 285) → ∀ (x4 : Int32), ∀ (x5 : Int32), ∀ (x6 : Int32), ∀ (x7 : Int32), ∀ (x8 : Int32), ∀ (t0 : Int32), ∀ (t1 : Int32), ∀ σ : Mem, p_X11_two_B185 k89 k285 x1 x2 x3 x4 x5 x6 x7 x8 t0 t1 σ = some res → V G 4 11 X ((some (.int res.1)), res.2) σ [(4, .int x4), (5, .int x5), (6, .int x6), (7, .int x7), (8, .int x8)] [.int t1, .int t0] 185 := by
    intro k89 k285 hk89 hk285 x4 x5 x6 x7 x8 t0 t1 σ h
    unfold p_X11_two_B185 at h
    refine v_blk hC (is := [(.iconst 0, (0 : Int32))]) (pc' := 186) (ls' := [(4, .int x4), (5, .int x5), (6, .int x6), (7, .int x7), (8, .int x8)]) (st' := [.int (0 : Int32), .int t1, .int t0]) (by decide +kernel) rfl ?_
    exact (hB186 _ _ hk89 hk285) _ _ _ _ _ _ _ _ _ h
  have hB171 : ∀ (k89 : Int32 → Int32 → Int32 → Mem → Option (Int32 × Mem)), ∀ (k285 : Int32 → Int32 → Mem → Option (Int32 × Mem)), (∀ (x4 : Int32), ∀ (x5 : Int32), ∀ (x6 : Int32), ∀ σ : Mem, k89 x4 x5 x6 σ = some res → V G 4 11 X ((some (.int res.1)), res.2) σ [(4, .int x4), (5, .int x5), (6, .int x6)] [] 89) → (∀ (x7 : Int32), ∀ (x8 : Int32), ∀ σ : Mem, k285 x7 x8 σ = some res → V G 4 11 X ((some (.int res.1)), res.2) σ [(7, .int x7), (8, .int x8)] [] 285) → ∀ (x4 : Int32), ∀ (x5 : Int32), ∀ (x6 : Int32), ∀ (x7 : Int32), ∀ (x8 : Int32), ∀ (t0 : Int32), ∀ (t1 : Int32), ∀ σ : Mem, p_X11_two_B171 k89 k285 x1 x2 x3 x4 x5 x6 x7 x8 t0 t1 σ = some res → V G 4 11 X ((some (.int res.1)), res.2) σ [(4, .int x4), (5, .int x5), (6, .int x6), (7, .int x7), (8, .int x8)] [.int t1, .int t0] 171 := by
    intro k89 k285 hk89 hk285 x4 x5 x6 x7 x8 t0 t1 σ h
    unfold p_X11_two_B171 at h
    refine v_blk hC (is := [(.iload 8, 0)]) (pc' := 173) (ls' := [(4, .int x4), (5, .int x5), (6, .int x6), (7, .int x7), (8, .int x8)]) (st' := [.int x8, .int t1, .int t0]) (by decide +kernel) rfl ?_
    refine v_if_eq hC (off := 12) (tgt := 185) (by decide +kernel) (by decide) h (fun hq h => ?_) (fun hq h => ?_)
    · exact (hB185 _ _ hk89 hk285) _ _ _ _ _ _ _ _ h
    · refine v_blk hC (is := [(.iload 5, 0)]) (pc' := 178) (ls' := [(4, .int x4), (5, .int x5), (6, .int x6), (7, .int x7), (8, .int x8)]) (st' := [.int x5, .int t1, .int t0]) (by decide +kernel) rfl ?_
      refine v_if_eq hC (off := 7) (tgt := 185) (by decide +kernel) (by decide) h (fun hq h => ?_) (fun hq h => ?_)
      · exact (hB185 _ _ hk89 hk285) _ _ _ _ _ _ _ _ h
      · refine v_blk hC (is := [(.iconst 1, (1 : Int32))]) (pc' := 182) (ls' := [(4, .int x4), (5, .int x5), (6, .int x6), (7, .int x7), (8, .int x8)]) (st' := [.int (1 : Int32), .int t1, .int t0]) (by decide +kernel) rfl ?_
        refine v_goto hC (off := 4) (tgt := 186) (by decide +kernel) (by decide) ?_
        exact (hB186 _ _ hk89 hk285) _ _ _ _ _ _ _ _ _ h
  have hB170 : ∀ (k89 : Int32 → Int32 → Int32 → Mem → Option (Int32 × Mem)), ∀ (k285 : Int32 → Int32 → Mem → Option (Int32 × Mem)), (∀ (x4 : Int32), ∀ (x5 : Int32), ∀ (x6 : Int32), ∀ σ : Mem, k89 x4 x5 x6 σ = some res → V G 4 11 X ((some (.int res.1)), res.2) σ [(4, .int x4), (5, .int x5), (6, .int x6)] [] 89) → (∀ (x7 : Int32), ∀ (x8 : Int32), ∀ σ : Mem, k285 x7 x8 σ = some res → V G 4 11 X ((some (.int res.1)), res.2) σ [(7, .int x7), (8, .int x8)] [] 285) → ∀ (x4 : Int32), ∀ (x5 : Int32), ∀ (x6 : Int32), ∀ (x7 : Int32), ∀ (x8 : Int32), ∀ (t0 : Int32), ∀ σ : Mem, p_X11_two_B170 k89 k285 x1 x2 x3 x4 x5 x6 x7 x8 t0 σ = some res → V G 4 11 X ((some (.int res.1)), res.2) σ [(4, .int x4), (5, .int x5), (6, .int x6), (7, .int x7), (8, .int x8)] [.int t0] 170 := by
    intro k89 k285 hk89 hk285 x4 x5 x6 x7 x8 t0 σ h
    unfold p_X11_two_B170 at h
    refine v_blk hC (is := [(.iconst 0, (0 : Int32))]) (pc' := 171) (ls' := [(4, .int x4), (5, .int x5), (6, .int x6), (7, .int x7), (8, .int x8)]) (st' := [.int (0 : Int32), .int t0]) (by decide +kernel) rfl ?_
    exact (hB171 _ _ hk89 hk285) _ _ _ _ _ _ _ _ h
  have hB153 : ∀ (k89 : Int32 → Int32 → Int32 → Mem → Option (Int32 × Mem)), ∀ (k285 : Int32 → Int32 → Mem → Option (Int32 × Mem)), (∀ (x4 : Int32), ∀ (x5 : Int32), ∀ (x6 : Int32), ∀ σ : Mem, k89 x4 x5 x6 σ = some res → V G 4 11 X ((some (.int res.1)), res.2) σ [(4, .int x4), (5, .int x5), (6, .int x6)] [] 89) → (∀ (x7 : Int32), ∀ (x8 : Int32), ∀ σ : Mem, k285 x7 x8 σ = some res → V G 4 11 X ((some (.int res.1)), res.2) σ [(7, .int x7), (8, .int x8)] [] 285) → ∀ (x4 : Int32), ∀ (x5 : Int32), ∀ (x6 : Int32), ∀ (x7 : Int32), ∀ (x8 : Int32), ∀ (t0 : Int32), ∀ (t1 : Int32), ∀ σ : Mem, p_X11_two_B153 k89 k285 x1 x2 x3 x4 x5 x6 x7 x8 t0 t1 σ = some res → V G 4 11 X ((some (.int res.1)), res.2) σ [(4, .int x4), (5, .int x5), (6, .int x6), (7, .int x7), (8, .int x8)] [.int t1, .int t0] 153 := by
    intro k89 k285 hk89 hk285 x4 x5 x6 x7 x8 t0 t1 σ h
    unfold p_X11_two_B153 at h
    obtain ⟨v10, s11, e12, h⟩ := bndI h
    refine v_cS (idx := 219) hC ⟨tt_at 764 (by decide +kernel) rfl, tsX11_gain, tnX11_gain, tcX11_gain, tmX11_gain⟩ (c_X11_gain e12) (by decide) (by decide) (by decide +kernel) (rest := []) rfl rfl (Nat.le_of_ble_eq_true rfl) rfl ?_
    refine v_blk hC (is := [(.iload 7, 0)]) (pc' := 158) (ls' := [(4, .int x4), (5, .int x5), (6, .int x6), (7, .int x7), (8, .int x8)]) (st' := [.int x7, .int v10]) (by decide +kernel) rfl ?_
    refine v_if_ne hC (off := 12) (tgt := 170) (by decide +kernel) (by decide) h (fun hq h => ?_) (fun hq h => ?_)
    · exact (hB170 _ _ hk89 hk285) _ _ _ _ _ _ _ h
    · refine v_blk hC (is := [(.iload 4, 0)]) (pc' := 163) (ls' := [(4, .int x4), (5, .int x5), (6, .int x6), (7, .int x7), (8, .int x8)]) (st' := [.int x4, .int v10]) (by decide +kernel) rfl ?_
      refine v_if_eq hC (off := 7) (tgt := 170) (by decide +kernel) (by decide) h (fun hq h => ?_) (fun hq h => ?_)
      · exact (hB170 _ _ hk89 hk285) _ _ _ _ _ _ _ h
      · refine v_blk hC (is := [(.iconst 1, (1 : Int32))]) (pc' := 167) (ls' := [(4, .int x4), (5, .int x5), (6, .int x6), (7, .int x7), (8, .int x8)]) (st' := [.int (1 : Int32), .int v10]) (by decide +kernel) rfl ?_
        refine v_goto hC (off := 4) (tgt := 171) (by decide +kernel) (by decide) ?_
        exact (hB171 _ _ hk89 hk285) _ _ _ _ _ _ _ _ h
  have hB152 : ∀ (k89 : Int32 → Int32 → Int32 → Mem → Option (Int32 × Mem)), ∀ (k285 : Int32 → Int32 → Mem → Option (Int32 × Mem)), (∀ (x4 : Int32), ∀ (x5 : Int32), ∀ (x6 : Int32), ∀ σ : Mem, k89 x4 x5 x6 σ = some res → V G 4 11 X ((some (.int res.1)), res.2) σ [(4, .int x4), (5, .int x5), (6, .int x6)] [] 89) → (∀ (x7 : Int32), ∀ (x8 : Int32), ∀ σ : Mem, k285 x7 x8 σ = some res → V G 4 11 X ((some (.int res.1)), res.2) σ [(7, .int x7), (8, .int x8)] [] 285) → ∀ (x4 : Int32), ∀ (x5 : Int32), ∀ (x6 : Int32), ∀ (x7 : Int32), ∀ (x8 : Int32), ∀ (t0 : Int32), ∀ σ : Mem, p_X11_two_B152 k89 k285 x1 x2 x3 x4 x5 x6 x7 x8 t0 σ = some res → V G 4 11 X ((some (.int res.1)), res.2) σ [(4, .int x4), (5, .int x5), (6, .int x6), (7, .int x7), (8, .int x8)] [.int t0] 152 := by
    intro k89 k285 hk89 hk285 x4 x5 x6 x7 x8 t0 σ h
    unfold p_X11_two_B152 at h
    refine v_blk hC (is := [(.iconst 0, (0 : Int32))]) (pc' := 153) (ls' := [(4, .int x4), (5, .int x5), (6, .int x6), (7, .int x7), (8, .int x8)]) (st' := [.int (0 : Int32), .int t0]) (by decide +kernel) rfl ?_
    exact (hB153 _ _ hk89 hk285) _ _ _ _ _ _ _ _ h
  have hB138 : ∀ (k89 : Int32 → Int32 → Int32 → Mem → Option (Int32 × Mem)), ∀ (k285 : Int32 → Int32 → Mem → Option (Int32 × Mem)), (∀ (x4 : Int32), ∀ (x5 : Int32), ∀ (x6 : Int32), ∀ σ : Mem, k89 x4 x5 x6 σ = some res → V G 4 11 X ((some (.int res.1)), res.2) σ [(4, .int x4), (5, .int x5), (6, .int x6)] [] 89) → (∀ (x7 : Int32), ∀ (x8 : Int32), ∀ σ : Mem, k285 x7 x8 σ = some res → V G 4 11 X ((some (.int res.1)), res.2) σ [(7, .int x7), (8, .int x8)] [] 285) → ∀ (x4 : Int32), ∀ (x5 : Int32), ∀ (x6 : Int32), ∀ (x7 : Int32), ∀ (x8 : Int32), ∀ (t0 : Int32), ∀ σ : Mem, p_X11_two_B138 k89 k285 x1 x2 x3 x4 x5 x6 x7 x8 t0 σ = some res → V G 4 11 X ((some (.int res.1)), res.2) σ [(4, .int x4), (5, .int x5), (6, .int x6), (7, .int x7), (8, .int x8)] [.int t0] 138 := by
    intro k89 k285 hk89 hk285 x4 x5 x6 x7 x8 t0 σ h
    unfold p_X11_two_B138 at h
    refine v_blk hC (is := [(.iload 8, 0)]) (pc' := 140) (ls' := [(4, .int x4), (5, .int x5), (6, .int x6), (7, .int x7), (8, .int x8)]) (st' := [.int x8, .int t0]) (by decide +kernel) rfl ?_
    refine v_if_eq hC (off := 12) (tgt := 152) (by decide +kernel) (by decide) h (fun hq h => ?_) (fun hq h => ?_)
    · exact (hB152 _ _ hk89 hk285) _ _ _ _ _ _ _ h
    · refine v_blk hC (is := [(.iload 5, 0)]) (pc' := 145) (ls' := [(4, .int x4), (5, .int x5), (6, .int x6), (7, .int x7), (8, .int x8)]) (st' := [.int x5, .int t0]) (by decide +kernel) rfl ?_
      refine v_if_eq hC (off := 7) (tgt := 152) (by decide +kernel) (by decide) h (fun hq h => ?_) (fun hq h => ?_)
      · exact (hB152 _ _ hk89 hk285) _ _ _ _ _ _ _ h
      · refine v_blk hC (is := [(.iconst 1, (1 : Int32))]) (pc' := 149) (ls' := [(4, .int x4), (5, .int x5), (6, .int x6), (7, .int x7), (8, .int x8)]) (st' := [.int (1 : Int32), .int t0]) (by decide +kernel) rfl ?_
        refine v_goto hC (off := 4) (tgt := 153) (by decide +kernel) (by decide) ?_
        exact (hB153 _ _ hk89 hk285) _ _ _ _ _ _ _ _ h
  have hB137 : ∀ (k89 : Int32 → Int32 → Int32 → Mem → Option (Int32 × Mem)), ∀ (k285 : Int32 → Int32 → Mem → Option (Int32 × Mem)), (∀ (x4 : Int32), ∀ (x5 : Int32), ∀ (x6 : Int32), ∀ σ : Mem, k89 x4 x5 x6 σ = some res → V G 4 11 X ((some (.int res.1)), res.2) σ [(4, .int x4), (5, .int x5), (6, .int x6)] [] 89) → (∀ (x7 : Int32), ∀ (x8 : Int32), ∀ σ : Mem, k285 x7 x8 σ = some res → V G 4 11 X ((some (.int res.1)), res.2) σ [(7, .int x7), (8, .int x8)] [] 285) → ∀ (x4 : Int32), ∀ (x5 : Int32), ∀ (x6 : Int32), ∀ (x7 : Int32), ∀ (x8 : Int32), ∀ σ : Mem, p_X11_two_B137 k89 k285 x1 x2 x3 x4 x5 x6 x7 x8 σ = some res → V G 4 11 X ((some (.int res.1)), res.2) σ [(4, .int x4), (5, .int x5), (6, .int x6), (7, .int x7), (8, .int x8)] [] 137 := by
    intro k89 k285 hk89 hk285 x4 x5 x6 x7 x8 σ h
    unfold p_X11_two_B137 at h
    refine v_blk hC (is := [(.iconst 0, (0 : Int32))]) (pc' := 138) (ls' := [(4, .int x4), (5, .int x5), (6, .int x6), (7, .int x7), (8, .int x8)]) (st' := [.int (0 : Int32)]) (by decide +kernel) rfl ?_
    exact (hB138 _ _ hk89 hk285) _ _ _ _ _ _ _ h
  have hB121 : ∀ (k89 : Int32 → Int32 → Int32 → Mem → Option (Int32 × Mem)), ∀ (k285 : Int32 → Int32 → Mem → Option (Int32 × Mem)), (∀ (x4 : Int32), ∀ (x5 : Int32), ∀ (x6 : Int32), ∀ σ : Mem, k89 x4 x5 x6 σ = some res → V G 4 11 X ((some (.int res.1)), res.2) σ [(4, .int x4), (5, .int x5), (6, .int x6)] [] 89) → (∀ (x7 : Int32), ∀ (x8 : Int32), ∀ σ : Mem, k285 x7 x8 σ = some res → V G 4 11 X ((some (.int res.1)), res.2) σ [(7, .int x7), (8, .int x8)] [] 285) → ∀ (x4 : Int32), ∀ (x5 : Int32), ∀ (x6 : Int32), ∀ (x7 : Int32), ∀ (t0 : Int32), ∀ σ : Mem, p_X11_two_B121 k89 k285 x1 x2 x3 x4 x5 x6 x7 t0 σ = some res → V G 4 11 X ((some (.int res.1)), res.2) σ [(4, .int x4), (5, .int x5), (6, .int x6), (7, .int x7)] [.int t0] 121 := by
    intro k89 k285 hk89 hk285 x4 x5 x6 x7 t0 σ h
    unfold p_X11_two_B121 at h
    refine v_blk hC (is := [(.istore 8, 0), (.iload 7, 0)]) (pc' := 125) (ls' := [(8, .int t0), (4, .int x4), (5, .int x5), (6, .int x6), (7, .int x7)]) (st' := [.int x7]) (by decide +kernel) rfl ?_
    refine v_if_eq hC (off := 12) (tgt := 137) (by decide +kernel) (by decide) h (fun hq h => ?_) (fun hq h => ?_)
    · refine v_sub [1, 2, 3, 4, 0] (ls' := [(4, .int x4), (5, .int x5), (6, .int x6), (7, .int x7), (8, .int t0)]) rfl ?_
      exact (hB137 _ _ hk89 hk285) _ _ _ _ _ _ h
    · refine v_blk hC (is := [(.iload 4, 0)]) (pc' := 130) (ls' := [(8, .int t0), (4, .int x4), (5, .int x5), (6, .int x6), (7, .int x7)]) (st' := [.int x4]) (by decide +kernel) rfl ?_
      refine v_if_eq hC (off := 7) (tgt := 137) (by decide +kernel) (by decide) h (fun hq h => ?_) (fun hq h => ?_)
      · refine v_sub [1, 2, 3, 4, 0] (ls' := [(4, .int x4), (5, .int x5), (6, .int x6), (7, .int x7), (8, .int t0)]) rfl ?_
        exact (hB137 _ _ hk89 hk285) _ _ _ _ _ _ h
      · refine v_blk hC (is := [(.iconst 1, (1 : Int32))]) (pc' := 134) (ls' := [(8, .int t0), (4, .int x4), (5, .int x5), (6, .int x6), (7, .int x7)]) (st' := [.int (1 : Int32)]) (by decide +kernel) rfl ?_
        refine v_goto hC (off := 4) (tgt := 138) (by decide +kernel) (by decide) ?_
        refine v_sub [1, 2, 3, 4, 0] (ls' := [(4, .int x4), (5, .int x5), (6, .int x6), (7, .int x7), (8, .int t0)]) rfl ?_
        exact (hB138 _ _ hk89 hk285) _ _ _ _ _ _ _ h
  have hB106 : ∀ (k89 : Int32 → Int32 → Int32 → Mem → Option (Int32 × Mem)), ∀ (k285 : Int32 → Int32 → Mem → Option (Int32 × Mem)), (∀ (x4 : Int32), ∀ (x5 : Int32), ∀ (x6 : Int32), ∀ σ : Mem, k89 x4 x5 x6 σ = some res → V G 4 11 X ((some (.int res.1)), res.2) σ [(4, .int x4), (5, .int x5), (6, .int x6)] [] 89) → (∀ (x7 : Int32), ∀ (x8 : Int32), ∀ σ : Mem, k285 x7 x8 σ = some res → V G 4 11 X ((some (.int res.1)), res.2) σ [(7, .int x7), (8, .int x8)] [] 285) → ∀ (x4 : Int32), ∀ (x5 : Int32), ∀ (x6 : Int32), ∀ (t0 : Int32), ∀ σ : Mem, p_X11_two_B106 k89 k285 x1 x2 x3 x4 x5 x6 t0 σ = some res → V G 4 11 X ((some (.int res.1)), res.2) σ [(4, .int x4), (5, .int x5), (6, .int x6)] [.int t0] 106 := by
    intro k89 k285 hk89 hk285 x4 x5 x6 t0 σ h
    unfold p_X11_two_B106 at h
    refine v_blk hC (is := [(.istore 7, 0), (.iload 6, 0), (.iconst 2, (2 : Int32))]) (pc' := 111) (ls' := [(7, .int t0), (4, .int x4), (5, .int x5), (6, .int x6)]) (st' := [.int (2 : Int32), .int x6]) (by decide +kernel) rfl ?_
    refine v_irem hC (by decide +kernel) (by decide) ?_
    refine v_blk hC (is := [(.iconst 1, (1 : Int32))]) (pc' := 113) (ls' := [(7, .int t0), (4, .int x4), (5, .int x5), (6, .int x6)]) (st' := [.int (1 : Int32), .int (x6 - x6 / (2 : Int32) * (2 : Int32))]) (by decide +kernel) rfl ?_
    refine v_icmp_ne hC (off := 7) (tgt := 120) (by decide +kernel) (by decide) h (fun hq h => ?_) (fun hq h => ?_)
    · refine v_blk hC (is := [(.iconst 0, (0 : Int32))]) (pc' := 121) (ls' := [(7, .int t0), (4, .int x4), (5, .int x5), (6, .int x6)]) (st' := [.int (0 : Int32)]) (by decide +kernel) rfl ?_
      refine v_sub [1, 2, 3, 0] (ls' := [(4, .int x4), (5, .int x5), (6, .int x6), (7, .int t0)]) rfl ?_
      exact (hB121 _ _ hk89 hk285) _ _ _ _ _ _ h
    · refine v_blk hC (is := [(.iconst 1, (1 : Int32))]) (pc' := 117) (ls' := [(7, .int t0), (4, .int x4), (5, .int x5), (6, .int x6)]) (st' := [.int (1 : Int32)]) (by decide +kernel) rfl ?_
      refine v_goto hC (off := 4) (tgt := 121) (by decide +kernel) (by decide) ?_
      refine v_sub [1, 2, 3, 0] (ls' := [(4, .int x4), (5, .int x5), (6, .int x6), (7, .int t0)]) rfl ?_
      exact (hB121 _ _ hk89 hk285) _ _ _ _ _ _ h
  have hB89 : ∀ (k89 : Int32 → Int32 → Int32 → Mem → Option (Int32 × Mem)), ∀ (k285 : Int32 → Int32 → Mem → Option (Int32 × Mem)), (∀ (x4 : Int32), ∀ (x5 : Int32), ∀ (x6 : Int32), ∀ σ : Mem, k89 x4 x5 x6 σ = some res → V G 4 11 X ((some (.int res.1)), res.2) σ [(4, .int x4), (5, .int x5), (6, .int x6)] [] 89) → (∀ (x7 : Int32), ∀ (x8 : Int32), ∀ σ : Mem, k285 x7 x8 σ = some res → V G 4 11 X ((some (.int res.1)), res.2) σ [(7, .int x7), (8, .int x8)] [] 285) → ∀ (x4 : Int32), ∀ (x5 : Int32), ∀ (x6 : Int32), ∀ σ : Mem, p_X11_two_B89 k89 k285 x1 x2 x3 x4 x5 x6 σ = some res → V G 4 11 X ((some (.int res.1)), res.2) σ [(4, .int x4), (5, .int x5), (6, .int x6)] [] 89 := by
    intro k89 k285 hk89 hk285 x4 x5 x6 σ h
    unfold p_X11_two_B89 at h
    refine v_blk hC (is := [(.iload 6, 0), (.iconst 4, (4 : Int32))]) (pc' := 92) (ls' := [(4, .int x4), (5, .int x5), (6, .int x6)]) (st' := [.int (4 : Int32), .int x6]) (by decide +kernel) rfl ?_
    refine v_icmp_ge hC (off := 222) (tgt := 314) (by decide +kernel) (by decide) h (fun hq h => ?_) (fun hq h => ?_)
    · refine v_blk hC (is := [(.bipush (-4), (-4 : Int32))]) (pc' := 316) (ls' := [(4, .int x4), (5, .int x5), (6, .int x6)]) (st' := [.int (-4 : Int32)]) (by decide +kernel) rfl ?_
      exact v_iret hC h (by decide +kernel)
    · refine v_blk hC (is := [(.iload 6, 0), (.iconst 2, (2 : Int32))]) (pc' := 98) (ls' := [(4, .int x4), (5, .int x5), (6, .int x6)]) (st' := [.int (2 : Int32), .int x6]) (by decide +kernel) rfl ?_
      refine v_icmp_lt hC (off := 7) (tgt := 105) (by decide +kernel) (by decide) h (fun hq h => ?_) (fun hq h => ?_)
      · refine v_blk hC (is := [(.iconst 0, (0 : Int32))]) (pc' := 106) (ls' := [(4, .int x4), (5, .int x5), (6, .int x6)]) (st' := [.int (0 : Int32)]) (by decide +kernel) rfl ?_
        exact (hB106 _ _ hk89 hk285) _ _ _ _ _ h
      · refine v_blk hC (is := [(.iconst 1, (1 : Int32))]) (pc' := 102) (ls' := [(4, .int x4), (5, .int x5), (6, .int x6)]) (st' := [.int (1 : Int32)]) (by decide +kernel) rfl ?_
        refine v_goto hC (off := 4) (tgt := 106) (by decide +kernel) (by decide) ?_
        exact (hB106 _ _ hk89 hk285) _ _ _ _ _ h
  have hL89 : ∀ (k285 : Int32 → Int32 → Mem → Option (Int32 × Mem)), (∀ (x7 : Int32), ∀ (x8 : Int32), ∀ σ : Mem, k285 x7 x8 σ = some res → V G 4 11 X ((some (.int res.1)), res.2) σ [(7, .int x7), (8, .int x8)] [] 285) → ∀ f : Nat, ∀ (x4 : Int32), ∀ (x5 : Int32), ∀ (x6 : Int32), ∀ σ : Mem, p_X11_two_L89 k285 x1 x2 x3 f x4 x5 x6 σ = some res → V G 4 11 X ((some (.int res.1)), res.2) σ [(4, .int x4), (5, .int x5), (6, .int x6)] [] 89 := by
    intro k285 hk285 f
    induction f with
    | zero => intro x4 x5 x6 σ h; exact none_some h
    | succ f ih => intro x4 x5 x6 σ h; exact hB89 (p_X11_two_L89 k285 x1 x2 x3 f) k285 ih hk285 x4 x5 x6 σ h
  have hB84 : ∀ (x4 : Int32), ∀ (t0 : Int32), ∀ σ : Mem, p_X11_two_B84 x1 x2 x3 x4 t0 σ = some res → V G 4 11 X ((some (.int res.1)), res.2) σ [(4, .int x4)] [.int t0] 84 := by
    intro x4 t0 σ h
    unfold p_X11_two_B84 at h
    refine v_blk hC (is := [(.istore 5, 0), (.iconst 0, (0 : Int32)), (.istore 6, 0)]) (pc' := 89) (ls' := [(6, .int (0 : Int32)), (5, .int t0), (4, .int x4)]) (st' := []) (by decide +kernel) rfl ?_
    refine v_sub [2, 1, 0] (ls' := [(4, .int x4), (5, .int t0), (6, .int (0 : Int32))]) rfl ?_
    exact (hL89 _ (fun x7 x8  m13 h => by
          refine v_blk hC (is := [(.iload 7, 0)]) (pc' := 287) (ls' := [(7, .int x7), (8, .int x8)]) (st' := [.int x7]) (by decide +kernel) rfl ?_
          refine v_if_eq hC (off := 8) (tgt := 295) (by decide +kernel) (by decide) h (fun hq h => ?_) (fun hq h => ?_)
          · refine v_blk hC (is := [(.iconst 0, (0 : Int32))]) (pc' := 296) (ls' := [(7, .int x7), (8, .int x8)]) (st' := [.int (0 : Int32)]) (by decide +kernel) rfl ?_
            refine v_sub [1] (ls' := [(8, .int x8)]) rfl ?_
            exact (hB296 ) _ _ _ h
          · refine v_blk hC (is := [(.bipush 10, (10 : Int32))]) (pc' := 292) (ls' := [(7, .int x7), (8, .int x8)]) (st' := [.int (10 : Int32)]) (by decide +kernel) rfl ?_
            refine v_goto hC (off := 4) (tgt := 296) (by decide +kernel) (by decide) ?_
            refine v_sub [1] (ls' := [(8, .int x8)]) rfl ?_
            exact (hB296 ) _ _ _ h) 1000) _ _ _ _ h
  have hB53 : ∀ (t0 : Int32), ∀ σ : Mem, p_X11_two_B53 x1 x2 x3 t0 σ = some res → V G 4 11 X ((some (.int res.1)), res.2) σ [(0, .ref (ga G 0)), (2, .int x2), (3, .int x3)] [.int t0] 53 := by
    intro t0 σ h
    unfold p_X11_two_B53 at h
    refine v_blk hC (is := [(.istore 4, 0), (.aload_n 0, 0)]) (pc' := 56) (ls' := [(4, .int t0), (0, .ref (ga G 0)), (2, .int x2), (3, .int x3)]) (st' := [.ref (ga G 0)]) (by decide +kernel) rfl ?_
    refine gX11_0 hC lfX11_10 (by decide +kernel) ?_
    refine v_blk hC (is := [(.iload_n 2, 0)]) (pc' := 60) (ls' := [(4, .int t0), (0, .ref (ga G 0)), (2, .int x2), (3, .int x3)]) (st' := [.int x2, .ref (ga G 1)]) (by decide +kernel) rfl ?_
    obtain ⟨v14, s15, e16, h⟩ := bndI h
    refine v_cVN (idx := 80) hC ⟨List.mem_of_getElem? (i := 29) (by decide +kernel), tiX3_kindOf, tvX3_kindOf, tnX3_kindOf, tcX3_kindOf, tmX3_kindOf⟩ (isO_X3 cape1) rfl (c_X3_kindOf cape1 e16) (by decide) (by decide) (by decide +kernel) (rest := []) rfl rfl (Nat.le_of_ble_eq_true rfl) rfl ?_
    refine v_blk hC (is := [(.aload_n 0, 0)]) (pc' := 64) (ls' := [(4, .int t0), (0, .ref (ga G 0)), (2, .int x2), (3, .int x3)]) (st' := [.ref (ga G 0), .ref (ga G v14)]) (by decide +kernel) rfl ?_
    refine gX11_0 hC lfX11_10 (by decide +kernel) ?_
    refine gX3_2 hC cape1 lfX11_71 (by decide +kernel) ?_
    refine v_blk hC (is := [(.iload_n 2, 0)]) (pc' := 71) (ls' := [(4, .int t0), (0, .ref (ga G 0)), (2, .int x2), (3, .int x3)]) (st' := [.int x2, .ref (ga G (27 + 1)), .ref (ga G v14)]) (by decide +kernel) rfl ?_
    refine v_iald hC (isA_figure cape1) (al_figure cape1) (by decide +kernel) h (fun v17 h => ?_)
    obtain ⟨v18, s19, e20, h⟩ := bndI h
    refine kX11_reach hC e20 (by decide) (by decide +kernel) (rest := []) rfl (Nat.le_of_ble_eq_true rfl) rfl ?_
    refine v_blk hC (is := [(.iload_n 3, 0)]) (pc' := 76) (ls' := [(4, .int t0), (0, .ref (ga G 0)), (2, .int x2), (3, .int x3)]) (st' := [.int x3, .int v18]) (by decide +kernel) rfl ?_
    refine v_icmp_lt hC (off := 7) (tgt := 83) (by decide +kernel) (by decide) h (fun hq h => ?_) (fun hq h => ?_)
    · refine v_blk hC (is := [(.iconst 0, (0 : Int32))]) (pc' := 84) (ls' := [(4, .int t0), (0, .ref (ga G 0)), (2, .int x2), (3, .int x3)]) (st' := [.int (0 : Int32)]) (by decide +kernel) rfl ?_
      refine v_sub [0] (ls' := [(4, .int t0)]) rfl ?_
      exact (hB84 ) _ _ _ h
    · refine v_blk hC (is := [(.iconst 1, (1 : Int32))]) (pc' := 80) (ls' := [(4, .int t0), (0, .ref (ga G 0)), (2, .int x2), (3, .int x3)]) (st' := [.int (1 : Int32)]) (by decide +kernel) rfl ?_
      refine v_goto hC (off := 4) (tgt := 84) (by decide +kernel) (by decide) ?_
      refine v_sub [0] (ls' := [(4, .int t0)]) rfl ?_
      exact (hB84 ) _ _ _ h
  unfold p_X11_two at h
  show V G 4 11 X ((some (.int res.1)), res.2) σ [(0, .ref (ga G 0)), (1, .int x1), (2, .int x2), (3, .int x3)] [] 0
  refine v_blk hC (is := [(.aload_n 0, 0)]) (pc' := 1) (ls' := [(0, .ref (ga G 0)), (1, .int x1), (2, .int x2), (3, .int x3)]) (st' := [.ref (ga G 0)]) (by decide +kernel) rfl ?_
  refine gX11_0 hC lfX11_10 (by decide +kernel) ?_
  refine v_blk hC (is := [(.iload_n 1, 0), (.iload_n 2, 0)]) (pc' := 6) (ls' := [(0, .ref (ga G 0)), (1, .int x1), (2, .int x2), (3, .int x3)]) (st' := [.int x2, .int x1, .ref (ga G 1)]) (by decide +kernel) rfl ?_
  obtain ⟨v21, s22, e23, h⟩ := bndI h
  refine v_cVN (idx := 101) hC ⟨List.mem_of_getElem? (i := 30) (by decide +kernel), tiX3_hasTwo, tvX3_hasTwo, tnX3_hasTwo, tcX3_hasTwo, tmX3_hasTwo⟩ (isO_X3 cape1) rfl (c_X3_hasTwo cape1 e23) (by decide) (by decide) (by decide +kernel) (rest := []) rfl rfl (Nat.le_of_ble_eq_true rfl) rfl ?_
  refine v_if_eq hC (off := 13) (tgt := 22) (by decide +kernel) (by decide) h (fun hq h => ?_) (fun hq h => ?_)
  · refine v_blk hC (is := [(.iconst (-1), (-1 : Int32))]) (pc' := 23) (ls' := [(0, .ref (ga G 0)), (1, .int x1), (2, .int x2), (3, .int x3)]) (st' := [.int (-1 : Int32)]) (by decide +kernel) rfl ?_
    exact v_iret hC h (by decide +kernel)
  · refine v_blk hC (is := [(.iload_n 3, 0), (.iconst 0, (0 : Int32)), (.bipush 9, (9 : Int32))]) (pc' := 16) (ls' := [(0, .ref (ga G 0)), (1, .int x1), (2, .int x2), (3, .int x3)]) (st' := [.int (9 : Int32), .int (0 : Int32), .int x3]) (by decide +kernel) rfl ?_
    obtain ⟨v24, s25, e26, h⟩ := bndI h
    refine v_cS (idx := 168) hC ⟨tt_at 300 (by decide +kernel) rfl, tsX11_within, tnX11_within, tcX11_within, tmX11_within⟩ (c_X11_within e26) (by decide) (by decide) (by decide +kernel) (rest := []) rfl rfl (Nat.le_of_ble_eq_true rfl) rfl ?_
    refine v_if_ne hC (off := 5) (tgt := 24) (by decide +kernel) (by decide) h (fun hq h => ?_) (fun hq h => ?_)
    · refine v_blk hC (is := [(.aload_n 0, 0)]) (pc' := 25) (ls' := [(0, .ref (ga G 0)), (1, .int x1), (2, .int x2), (3, .int x3)]) (st' := [.ref (ga G 0)]) (by decide +kernel) rfl ?_
      refine gX11_0 hC lfX11_10 (by decide +kernel) ?_
      refine v_blk hC (is := [(.iload_n 1, 0)]) (pc' := 29) (ls' := [(0, .ref (ga G 0)), (1, .int x1), (2, .int x2), (3, .int x3)]) (st' := [.int x1, .ref (ga G 1)]) (by decide +kernel) rfl ?_
      obtain ⟨v27, s28, e29, h⟩ := bndI h
      refine v_cVN (idx := 80) hC ⟨List.mem_of_getElem? (i := 29) (by decide +kernel), tiX3_kindOf, tvX3_kindOf, tnX3_kindOf, tcX3_kindOf, tmX3_kindOf⟩ (isO_X3 cape1) rfl (c_X3_kindOf cape1 e29) (by decide) (by decide) (by decide +kernel) (rest := []) rfl rfl (Nat.le_of_ble_eq_true rfl) rfl ?_
      refine v_blk hC (is := [(.aload_n 0, 0)]) (pc' := 33) (ls' := [(0, .ref (ga G 0)), (1, .int x1), (2, .int x2), (3, .int x3)]) (st' := [.ref (ga G 0), .ref (ga G v27)]) (by decide +kernel) rfl ?_
      refine gX11_0 hC lfX11_10 (by decide +kernel) ?_
      refine gX3_2 hC cape1 lfX11_71 (by decide +kernel) ?_
      refine v_blk hC (is := [(.iload_n 1, 0)]) (pc' := 40) (ls' := [(0, .ref (ga G 0)), (1, .int x1), (2, .int x2), (3, .int x3)]) (st' := [.int x1, .ref (ga G (27 + 1)), .ref (ga G v27)]) (by decide +kernel) rfl ?_
      refine v_iald hC (isA_figure cape1) (al_figure cape1) (by decide +kernel) h (fun v30 h => ?_)
      obtain ⟨v31, s32, e33, h⟩ := bndI h
      refine kX11_reach hC e33 (by decide) (by decide +kernel) (rest := []) rfl (Nat.le_of_ble_eq_true rfl) rfl ?_
      refine v_blk hC (is := [(.iload_n 3, 0)]) (pc' := 45) (ls' := [(0, .ref (ga G 0)), (1, .int x1), (2, .int x2), (3, .int x3)]) (st' := [.int x3, .int v31]) (by decide +kernel) rfl ?_
      refine v_icmp_lt hC (off := 7) (tgt := 52) (by decide +kernel) (by decide) h (fun hq h => ?_) (fun hq h => ?_)
      · refine v_blk hC (is := [(.iconst 0, (0 : Int32))]) (pc' := 53) (ls' := [(0, .ref (ga G 0)), (1, .int x1), (2, .int x2), (3, .int x3)]) (st' := [.int (0 : Int32)]) (by decide +kernel) rfl ?_
        refine v_sub [0, 2, 3] (ls' := [(0, .ref (ga G 0)), (2, .int x2), (3, .int x3)]) rfl ?_
        exact (hB53 ) _ _ h
      · refine v_blk hC (is := [(.iconst 1, (1 : Int32))]) (pc' := 49) (ls' := [(0, .ref (ga G 0)), (1, .int x1), (2, .int x2), (3, .int x3)]) (st' := [.int (1 : Int32)]) (by decide +kernel) rfl ?_
        refine v_goto hC (off := 4) (tgt := 53) (by decide +kernel) (by decide) ?_
        refine v_sub [0, 2, 3] (ls' := [(0, .ref (ga G 0)), (2, .int x2), (3, .int x3)]) rfl ?_
        exact (hB53 ) _ _ h
    · refine v_blk hC (is := [(.iconst (-1), (-1 : Int32))]) (pc' := 23) (ls' := [(0, .ref (ga G 0)), (1, .int x1), (2, .int x2), (3, .int x3)]) (st' := [.int (-1 : Int32)]) (by decide +kernel) rfl ?_
      exact v_iret hC h (by decide +kernel)

def p_X11_chances_B66 (k17 : Int64 → Int32 → Mem → Option (Int64 × Mem)) (x1 : Int32) (x2 : Int32) (x3 : Int32) (x4 : Int32) (x5 : Int64) (x7 : Int32) (σ : Mem) : Option (Int64 × Mem) := k17 x5 (x7 + (1 : Int32)) σ
def p_X11_chances_B17 (k17 : Int64 → Int32 → Mem → Option (Int64 × Mem)) (k72 : Int64 → Mem → Option (Int64 × Mem)) (x1 : Int32) (x2 : Int32) (x3 : Int32) (x4 : Int32) (x5 : Int64) (x7 : Int32) (σ : Mem) : Option (Int64 × Mem) := (if x2 ≤ x7 then k72 x5 σ else (bnd (p_X11_holds x4 x7 σ) fun v1 s2 => (if v1 = 0 then (bnd (p_X3_sails 3 (1 : Int32) s2) fun (v4 : Unit) s5 => (p_X11_chances_B66 k17 x1 x2 x3 x4) (x5 * (Int32.toInt64 (x3 - (1 : Int32)))) x7 s5) else (lt (s2 3 9) fun v7 => (wr s2 3 9 (v7 + (1 : Int32)) fun s8 => (p_X11_chances_B66 k17 x1 x2 x3 x4) x5 x7 s8)))))
def p_X11_chances_L17 (k72 : Int64 → Mem → Option (Int64 × Mem)) (x1 : Int32) (x2 : Int32) (x3 : Int32) (x4 : Int32) : Nat → Int64 → Int32 → Mem → Option (Int64 × Mem)
  | 0 => fun _ _ _ => none
  | f + 1 => p_X11_chances_B17 (p_X11_chances_L17 k72 x1 x2 x3 x4 f) k72 x1 x2 x3 x4
def p_X11_chances (x1 : Int32) (x2 : Int32) (x3 : Int32) (x4 : Int32) (σ : Mem) : Option (Int64 × Mem) := (bnd (p_X3_becomes 3 1 σ) fun (v9 : Unit) s10 => (p_X11_chances_L17 (fun (x5 : Int64) (m12 : Mem) => (bnd (p_X3_isLost 3 x1 m12) fun v13 s14 => (if v13 = 0 then some (x5, s14) else some ((0 : Int64), s14)))) x1 x2 x3 x4 1000) (1 : Int64) (0 : Int32) s10)
set_option maxHeartbeats 4000000 in
set_option maxRecDepth 100000 in
theorem c_X11_chances {G : Gl} {x1 : Int32} {x2 : Int32} {x3 : Int32} {x4 : Int32} {σ : Mem} {res : Int64 × Mem}  (h : p_X11_chances x1 x2 x3 x4 σ = some res) : MetX G yX11_chances cX11_chances 8 (some .long) 6 [.ref (ga G 0), .int x1, .int x2, .int x3, .int x4] σ (some (.long res.1)) res.2 := by
  refine met_V (by decide +kernel) (Nat.le_of_ble_eq_true rfl) (fun X hC => ?_)
  have hC : Ok G 6 8 X cX11_chances RX11 (some .long) := hC
  have hB66 : ∀ (k17 : Int64 → Int32 → Mem → Option (Int64 × Mem)), (∀ (x5 : Int64), ∀ (x7 : Int32), ∀ σ : Mem, k17 x5 x7 σ = some res → V G 6 8 X ((some (.long res.1)), res.2) σ [(0, .ref (ga G 0)), (1, .int x1), (2, .int x2), (3, .int x3), (4, .int x4), (5, .long x5), (7, .int x7)] [] 17) → ∀ (x5 : Int64), ∀ (x7 : Int32), ∀ σ : Mem, p_X11_chances_B66 k17 x1 x2 x3 x4 x5 x7 σ = some res → V G 6 8 X ((some (.long res.1)), res.2) σ [(0, .ref (ga G 0)), (1, .int x1), (2, .int x2), (3, .int x3), (4, .int x4), (5, .long x5), (7, .int x7)] [] 66 := by
    intro k17 hk17 x5 x7 σ h
    unfold p_X11_chances_B66 at h
    refine v_blk hC (is := [(.iinc 7 1, (1 : Int32))]) (pc' := 69) (ls' := [(7, .int (x7 + (1 : Int32))), (0, .ref (ga G 0)), (1, .int x1), (2, .int x2), (3, .int x3), (4, .int x4), (5, .long x5)]) (st' := []) (by decide +kernel) rfl ?_
    refine v_goto hC (off := (-52)) (tgt := 17) (by decide +kernel) (by decide) ?_
    refine v_sub [1, 2, 3, 4, 5, 6, 0] (ls' := [(0, .ref (ga G 0)), (1, .int x1), (2, .int x2), (3, .int x3), (4, .int x4), (5, .long x5), (7, .int (x7 + (1 : Int32)))]) rfl ?_
    exact hk17 _ _ _ h
  have hB17 : ∀ (k17 : Int64 → Int32 → Mem → Option (Int64 × Mem)), ∀ (k72 : Int64 → Mem → Option (Int64 × Mem)), (∀ (x5 : Int64), ∀ (x7 : Int32), ∀ σ : Mem, k17 x5 x7 σ = some res → V G 6 8 X ((some (.long res.1)), res.2) σ [(0, .ref (ga G 0)), (1, .int x1), (2, .int x2), (3, .int x3), (4, .int x4), (5, .long x5), (7, .int x7)] [] 17) → (∀ (x5 : Int64), ∀ σ : Mem, k72 x5 σ = some res → V G 6 8 X ((some (.long res.1)), res.2) σ [(0, .ref (ga G 0)), (1, .int x1), (5, .long x5)] [] 72) → ∀ (x5 : Int64), ∀ (x7 : Int32), ∀ σ : Mem, p_X11_chances_B17 k17 k72 x1 x2 x3 x4 x5 x7 σ = some res → V G 6 8 X ((some (.long res.1)), res.2) σ [(0, .ref (ga G 0)), (1, .int x1), (2, .int x2), (3, .int x3), (4, .int x4), (5, .long x5), (7, .int x7)] [] 17 := by
    intro k17 k72 hk17 hk72 x5 x7 σ h
    unfold p_X11_chances_B17 at h
    refine v_blk hC (is := [(.iload 7, 0), (.iload_n 2, 0)]) (pc' := 20) (ls' := [(0, .ref (ga G 0)), (1, .int x1), (2, .int x2), (3, .int x3), (4, .int x4), (5, .long x5), (7, .int x7)]) (st' := [.int x2, .int x7]) (by decide +kernel) rfl ?_
    refine v_icmp_ge hC (off := 52) (tgt := 72) (by decide +kernel) (by decide) h (fun hq h => ?_) (fun hq h => ?_)
    · refine v_sub [0, 1, 5] (ls' := [(0, .ref (ga G 0)), (1, .int x1), (5, .long x5)]) rfl ?_
      exact hk72 _ _ h
    · refine v_blk hC (is := [(.iload 4, 0), (.iload 7, 0)]) (pc' := 27) (ls' := [(0, .ref (ga G 0)), (1, .int x1), (2, .int x2), (3, .int x3), (4, .int x4), (5, .long x5), (7, .int x7)]) (st' := [.int x7, .int x4]) (by decide +kernel) rfl ?_
      obtain ⟨v1, s2, e3, h⟩ := bndI h
      refine v_cS (idx := 197) hC ⟨tt_at 723 (by decide +kernel) rfl, tsX11_holds, tnX11_holds, tcX11_holds, tmX11_holds⟩ (c_X11_holds e3) (by decide) (by decide) (by decide +kernel) (rest := []) rfl rfl (Nat.le_of_ble_eq_true rfl) rfl ?_
      refine v_if_eq hC (off := 19) (tgt := 49) (by decide +kernel) (by decide) h (fun hq h => ?_) (fun hq h => ?_)
      · refine v_blk hC (is := [(.aload_n 0, 0)]) (pc' := 50) (ls' := [(0, .ref (ga G 0)), (1, .int x1), (2, .int x2), (3, .int x3), (4, .int x4), (5, .long x5), (7, .int x7)]) (st' := [.ref (ga G 0)]) (by decide +kernel) rfl ?_
        refine gX11_2 hC lfX11_19 (by decide +kernel) ?_
        refine v_blk hC (is := [(.iconst 1, (1 : Int32))]) (pc' := 54) (ls' := [(0, .ref (ga G 0)), (1, .int x1), (2, .int x2), (3, .int x3), (4, .int x4), (5, .long x5), (7, .int x7)]) (st' := [.int (1 : Int32), .ref (ga G 3)]) (by decide +kernel) rfl ?_
        obtain ⟨v4, s5, e6, h⟩ := bndI h
        refine v_cVN (idx := 200) hC ⟨List.mem_of_getElem? (i := 56) (by decide +kernel), tiX3_sails, tvX3_sails, tnX3_sails, tcX3_sails, tmX3_sails⟩ (isO_X3 cape3) rfl (c_X3_sails cape3 e6) (by decide) (by decide) (by decide +kernel) (rest := []) rfl rfl (Nat.le_of_ble_eq_true rfl) rfl ?_
        refine v_blk hC (is := [(.lload 5, 0), (.iload_n 3, 0), (.iconst 1, (1 : Int32)), (.isub, 0), (.i2l, 0), (.lmul, 0), (.lstore 5, 0)]) (pc' := 66) (ls' := [(5, .long (x5 * (Int32.toInt64 (x3 - (1 : Int32))))), (0, .ref (ga G 0)), (1, .int x1), (2, .int x2), (3, .int x3), (4, .int x4), (7, .int x7)]) (st' := []) (by decide +kernel) rfl ?_
        refine v_sub [1, 2, 3, 4, 5, 0, 6] (ls' := [(0, .ref (ga G 0)), (1, .int x1), (2, .int x2), (3, .int x3), (4, .int x4), (5, .long (x5 * (Int32.toInt64 (x3 - (1 : Int32))))), (7, .int x7)]) rfl ?_
        exact (hB66 _ hk17) _ _ _ h
      · refine v_blk hC (is := [(.aload_n 0, 0)]) (pc' := 34) (ls' := [(0, .ref (ga G 0)), (1, .int x1), (2, .int x2), (3, .int x3), (4, .int x4), (5, .long x5), (7, .int x7)]) (st' := [.ref (ga G 0)]) (by decide +kernel) rfl ?_
        refine gX11_2 hC lfX11_19 (by decide +kernel) ?_
        refine v_blk hC (is := [(.dup, 0)]) (pc' := 38) (ls' := [(0, .ref (ga G 0)), (1, .int x1), (2, .int x2), (3, .int x3), (4, .int x4), (5, .long x5), (7, .int x7)]) (st' := [.ref (ga G 3), .ref (ga G 3)]) (by decide +kernel) rfl ?_
        refine gX3_9 hC cape3 lfX11_89 (by decide +kernel) h (fun v7 h => ?_)
        refine v_blk hC (is := [(.iconst 1, (1 : Int32)), (.iadd, 0)]) (pc' := 43) (ls' := [(0, .ref (ga G 0)), (1, .int x1), (2, .int x2), (3, .int x3), (4, .int x4), (5, .long x5), (7, .int x7)]) (st' := [.int (v7 + (1 : Int32)), .ref (ga G 3)]) (by decide +kernel) rfl ?_
        refine pX3_9 hC cape3 lfX11_89 (by decide +kernel) h (fun s8 h => ?_)
        refine v_goto hC (off := 20) (tgt := 66) (by decide +kernel) (by decide) ?_
        exact (hB66 _ hk17) _ _ _ h
  have hL17 : ∀ (k72 : Int64 → Mem → Option (Int64 × Mem)), (∀ (x5 : Int64), ∀ σ : Mem, k72 x5 σ = some res → V G 6 8 X ((some (.long res.1)), res.2) σ [(0, .ref (ga G 0)), (1, .int x1), (5, .long x5)] [] 72) → ∀ f : Nat, ∀ (x5 : Int64), ∀ (x7 : Int32), ∀ σ : Mem, p_X11_chances_L17 k72 x1 x2 x3 x4 f x5 x7 σ = some res → V G 6 8 X ((some (.long res.1)), res.2) σ [(0, .ref (ga G 0)), (1, .int x1), (2, .int x2), (3, .int x3), (4, .int x4), (5, .long x5), (7, .int x7)] [] 17 := by
    intro k72 hk72 f
    induction f with
    | zero => intro x5 x7 σ h; exact none_some h
    | succ f ih => intro x5 x7 σ h; exact hB17 (p_X11_chances_L17 k72 x1 x2 x3 x4 f) k72 ih hk72 x5 x7 σ h
  unfold p_X11_chances at h
  show V G 6 8 X ((some (.long res.1)), res.2) σ [(0, .ref (ga G 0)), (1, .int x1), (2, .int x2), (3, .int x3), (4, .int x4)] [] 0
  refine v_blk hC (is := [(.lconst 1, 0), (.lstore 5, 0), (.aload_n 0, 0)]) (pc' := 4) (ls' := [(5, .long (1 : Int64)), (0, .ref (ga G 0)), (1, .int x1), (2, .int x2), (3, .int x3), (4, .int x4)]) (st' := [.ref (ga G 0)]) (by decide +kernel) rfl ?_
  refine gX11_2 hC lfX11_19 (by decide +kernel) ?_
  refine v_blk hC (is := [(.aload_n 0, 0)]) (pc' := 8) (ls' := [(5, .long (1 : Int64)), (0, .ref (ga G 0)), (1, .int x1), (2, .int x2), (3, .int x3), (4, .int x4)]) (st' := [.ref (ga G 0), .ref (ga G 3)]) (by decide +kernel) rfl ?_
  refine gX11_0 hC lfX11_10 (by decide +kernel) ?_
  obtain ⟨v9, s10, e11, h⟩ := bndI h
  refine v_cVN (idx := 48) hC ⟨List.mem_of_getElem? (i := 19) (by decide +kernel), tiX3_becomes, tvX3_becomes, tnX3_becomes, tcX3_becomes, tmX3_becomes⟩ (isO_X3 cape3) rfl (c_X3_becomes cape3 cape1 e11) (by decide) (by decide) (by decide +kernel) (rest := []) rfl rfl (Nat.le_of_ble_eq_true rfl) rfl ?_
  refine v_blk hC (is := [(.iconst 0, (0 : Int32)), (.istore 7, 0)]) (pc' := 17) (ls' := [(7, .int (0 : Int32)), (5, .long (1 : Int64)), (0, .ref (ga G 0)), (1, .int x1), (2, .int x2), (3, .int x3), (4, .int x4)]) (st' := []) (by decide +kernel) rfl ?_
  refine v_sub [2, 3, 4, 5, 6, 1, 0] (ls' := [(0, .ref (ga G 0)), (1, .int x1), (2, .int x2), (3, .int x3), (4, .int x4), (5, .long (1 : Int64)), (7, .int (0 : Int32))]) rfl ?_
  exact (hL17 _ (fun x5  m12 h => by
      refine v_blk hC (is := [(.aload_n 0, 0)]) (pc' := 73) (ls' := [(0, .ref (ga G 0)), (1, .int x1), (5, .long x5)]) (st' := [.ref (ga G 0)]) (by decide +kernel) rfl ?_
      refine gX11_2 hC lfX11_19 (by decide +kernel) ?_
      refine v_blk hC (is := [(.iload_n 1, 0)]) (pc' := 77) (ls' := [(0, .ref (ga G 0)), (1, .int x1), (5, .long x5)]) (st' := [.int x1, .ref (ga G 3)]) (by decide +kernel) rfl ?_
      obtain ⟨v13, s14, e15, h⟩ := bndI h
      refine v_cVN (idx := 77) hC ⟨List.mem_of_getElem? (i := 28) (by decide +kernel), tiX3_isLost, tvX3_isLost, tnX3_isLost, tcX3_isLost, tmX3_isLost⟩ (isO_X3 cape3) rfl (c_X3_isLost cape3 e15) (by decide) (by decide) (by decide +kernel) (rest := []) rfl rfl (Nat.le_of_ble_eq_true rfl) rfl ?_
      refine v_if_eq hC (off := 7) (tgt := 87) (by decide +kernel) (by decide) h (fun hq h => ?_) (fun hq h => ?_)
      · refine v_blk hC (is := [(.lload 5, 0)]) (pc' := 89) (ls' := [(0, .ref (ga G 0)), (1, .int x1), (5, .long x5)]) (st' := [.long x5]) (by decide +kernel) rfl ?_
        exact v_lret hC h (by decide +kernel)
      · refine v_blk hC (is := [(.lconst 0, 0)]) (pc' := 84) (ls' := [(0, .ref (ga G 0)), (1, .int x1), (5, .long x5)]) (st' := [.long (0 : Int64)]) (by decide +kernel) rfl ?_
        refine v_goto hC (off := 5) (tgt := 89) (by decide +kernel) (by decide) ?_
        exact v_lret hC h (by decide +kernel)) 1000) _ _ _ h

def p_X11_odds_B51  (x1 : Int32) (x2 : Int32) (x3 : Int32) (x4 : Int32)  (σ : Mem) : Option (Int64 × Mem) := some ((1000000001 : Int64), σ)
def p_X11_odds_B86 (k86 : Int64 → Int64 → Int32 → Mem → Option (Int64 × Mem)) (k114 : Int64 → Int64 → Mem → Option (Int64 × Mem)) (x1 : Int32) (x2 : Int32) (x3 : Int32) (x4 : Int32) (x6 : Int64) (x8 : Int64) (x10 : Int32) (σ : Mem) : Option (Int64 × Mem) := (if ((1 : Int32) <<< (x2 &&& 31)) ≤ x10 then k114 x6 x8 σ else (bnd (p_X11_chances x1 x2 x3 x10 σ) fun v1 s2 => k86 (x6 + v1) x8 (x10 + (1 : Int32)) s2))
def p_X11_odds_L86 (k114 : Int64 → Int64 → Mem → Option (Int64 × Mem)) (x1 : Int32) (x2 : Int32) (x3 : Int32) (x4 : Int32) : Nat → Int64 → Int64 → Int32 → Mem → Option (Int64 × Mem)
  | 0 => fun _ _ _ _ => none
  | f + 1 => p_X11_odds_B86 (p_X11_odds_L86 k114 x1 x2 x3 x4 f) k114 x1 x2 x3 x4
def p_X11_odds_B64 (k64 : Int64 → Int64 → Int32 → Mem → Option (Int64 × Mem)) (k83 : Int64 → Int64 → Mem → Option (Int64 × Mem)) (x1 : Int32) (x2 : Int32) (x3 : Int32) (x4 : Int32) (x6 : Int64) (x8 : Int64) (x10 : Int32) (σ : Mem) : Option (Int64 × Mem) := (if x2 ≤ x10 then k83 x6 x8 σ else k64 x6 (x8 * (Int32.toInt64 x3)) (x10 + (1 : Int32)) σ)
def p_X11_odds_L64 (k83 : Int64 → Int64 → Mem → Option (Int64 × Mem)) (x1 : Int32) (x2 : Int32) (x3 : Int32) (x4 : Int32) : Nat → Int64 → Int64 → Int32 → Mem → Option (Int64 × Mem)
  | 0 => fun _ _ _ _ => none
  | f + 1 => p_X11_odds_B64 (p_X11_odds_L64 k83 x1 x2 x3 x4 f) k83 x1 x2 x3 x4
def p_X11_odds_B33  (x1 : Int32) (x2 : Int32) (x3 : Int32) (x4 : Int32) (t0 : Int32) (σ : Mem) : Option (Int64 × Mem) := (if t0 = 0 then (p_X11_odds_B51 x1 x2 x3 x4) σ else (bnd (p_X3_has 1 x1 σ) fun v4 s5 => (if v4 = 0 then (p_X11_odds_B51 x1 x2 x3 x4) s5 else (p_X11_odds_L64 (fun (x6 : Int64) (x8 : Int64) (m7 : Mem) => (p_X11_odds_L86 (fun (x6 : Int64) (x8 : Int64) (m8 : Mem) => (bnd (p_X11_inLeastTerms x6 x8 x4 m8) fun v9 s10 => some (v9, s10))) x1 x2 x3 x4 1000) x6 x8 (0 : Int32) m7) x1 x2 x3 x4 1000) (0 : Int64) (1 : Int64) (0 : Int32) s5)))
def p_X11_odds_B32  (x1 : Int32) (x2 : Int32) (x3 : Int32) (x4 : Int32)  (σ : Mem) : Option (Int64 × Mem) := (p_X11_odds_B33 x1 x2 x3 x4) (0 : Int32) σ
def p_X11_odds (x1 : Int32) (x2 : Int32) (x3 : Int32) (x4 : Int32) (σ : Mem) : Option (Int64 × Mem) := (bnd (p_X11_within x2 (0 : Int32) (7 : Int32) σ) fun v12 s13 => (if v12 = 0 then (p_X11_odds_B32 x1 x2 x3 x4) s13 else (bnd (p_X11_within x3 (2 : Int32) (20 : Int32) s13) fun v15 s16 => (if v15 = 0 then (p_X11_odds_B32 x1 x2 x3 x4) s16 else (bnd (p_X11_isPart x4 s16) fun v18 s19 => (if v18 = 0 then (p_X11_odds_B32 x1 x2 x3 x4) s19 else (p_X11_odds_B33 x1 x2 x3 x4) (1 : Int32) s19))))))
set_option maxHeartbeats 4000000 in
set_option maxRecDepth 100000 in
theorem c_X11_odds {G : Gl} {x1 : Int32} {x2 : Int32} {x3 : Int32} {x4 : Int32} {σ : Mem} {res : Int64 × Mem}  (h : p_X11_odds x1 x2 x3 x4 σ = some res) : MetX G yX11_odds cX11_odds 11 (some .long) 7 [.ref (ga G 0), .int x1, .int x2, .int x3, .int x4] σ (some (.long res.1)) res.2 := by
  refine met_V (by decide +kernel) (Nat.le_of_ble_eq_true rfl) (fun X hC => ?_)
  have hC : Ok G 7 11 X cX11_odds RX11 (some .long) := hC
  have hB51 : ∀ σ : Mem, p_X11_odds_B51 x1 x2 x3 x4 σ = some res → V G 7 11 X ((some (.long res.1)), res.2) σ [] [] 51 := by
    intro  σ h
    unfold p_X11_odds_B51 at h
    refine v_ldc2 hC (idx := 223) (v := (1000000001 : Int64)) (tt_at 771 (by decide +kernel) rfl) (by decide +kernel) ?_
    exact v_lret hC h (by decide +kernel)
  have hB86 : ∀ (k86 : Int64 → Int64 → Int32 → Mem → Option (Int64 × Mem)), ∀ (k114 : Int64 → Int64 → Mem → Option (Int64 × Mem)), (∀ (x6 : Int64), ∀ (x8 : Int64), ∀ (x10 : Int32), ∀ σ : Mem, k86 x6 x8 x10 σ = some res → V G 7 11 X ((some (.long res.1)), res.2) σ [(0, .ref (ga G 0)), (1, .int x1), (2, .int x2), (3, .int x3), (4, .int x4), (6, .long x6), (8, .long x8), (10, .int x10)] [] 86) → (∀ (x6 : Int64), ∀ (x8 : Int64), ∀ σ : Mem, k114 x6 x8 σ = some res → V G 7 11 X ((some (.long res.1)), res.2) σ [(4, .int x4), (6, .long x6), (8, .long x8)] [] 114) → ∀ (x6 : Int64), ∀ (x8 : Int64), ∀ (x10 : Int32), ∀ σ : Mem, p_X11_odds_B86 k86 k114 x1 x2 x3 x4 x6 x8 x10 σ = some res → V G 7 11 X ((some (.long res.1)), res.2) σ [(0, .ref (ga G 0)), (1, .int x1), (2, .int x2), (3, .int x3), (4, .int x4), (6, .long x6), (8, .long x8), (10, .int x10)] [] 86 := by
    intro k86 k114 hk86 hk114 x6 x8 x10 σ h
    unfold p_X11_odds_B86 at h
    refine v_blk hC (is := [(.iload 10, 0), (.iconst 1, (1 : Int32)), (.iload_n 2, 0), (.ishl, 0)]) (pc' := 91) (ls' := [(0, .ref (ga G 0)), (1, .int x1), (2, .int x2), (3, .int x3), (4, .int x4), (6, .long x6), (8, .long x8), (10, .int x10)]) (st' := [.int ((1 : Int32) <<< (x2 &&& 31)), .int x10]) (by decide +kernel) rfl ?_
    refine v_icmp_ge hC (off := 23) (tgt := 114) (by decide +kernel) (by decide) h (fun hq h => ?_) (fun hq h => ?_)
    · refine v_sub [4, 5, 6] (ls' := [(4, .int x4), (6, .long x6), (8, .long x8)]) rfl ?_
      exact hk114 _ _ _ h
    · refine v_blk hC (is := [(.lload 6, 0), (.aload_n 0, 0), (.iload_n 1, 0), (.iload_n 2, 0), (.iload_n 3, 0), (.iload 10, 0)]) (pc' := 102) (ls' := [(0, .ref (ga G 0)), (1, .int x1), (2, .int x2), (3, .int x3), (4, .int x4), (6, .long x6), (8, .long x8), (10, .int x10)]) (st' := [.int x10, .int x3, .int x2, .int x1, .ref (ga G 0), .long x6]) (by decide +kernel) rfl ?_
      obtain ⟨v1, s2, e3, h⟩ := bndI h
      refine v_cV (idx := 225) hC ⟨tt_at 772 (by decide +kernel) rfl, tiX11_chances, tvX11_chances, tnX11_chances, tcX11_chances, tmX11_chances⟩ isO_X11 rfl (c_X11_chances e3) (by decide) (by decide) (by decide +kernel) (rest := [.long x6]) rfl rfl (Nat.le_of_ble_eq_true rfl) rfl ?_
      refine v_blk hC (is := [(.ladd, 0), (.lstore 6, 0), (.iinc 10 1, (1 : Int32))]) (pc' := 111) (ls' := [(10, .int (x10 + (1 : Int32))), (6, .long (x6 + v1)), (0, .ref (ga G 0)), (1, .int x1), (2, .int x2), (3, .int x3), (4, .int x4), (8, .long x8)]) (st' := []) (by decide +kernel) rfl ?_
      refine v_goto hC (off := (-25)) (tgt := 86) (by decide +kernel) (by decide) ?_
      refine v_sub [2, 3, 4, 5, 6, 1, 7, 0] (ls' := [(0, .ref (ga G 0)), (1, .int x1), (2, .int x2), (3, .int x3), (4, .int x4), (6, .long (x6 + v1)), (8, .long x8), (10, .int (x10 + (1 : Int32)))]) rfl ?_
      exact hk86 _ _ _ _ h
  have hL86 : ∀ (k114 : Int64 → Int64 → Mem → Option (Int64 × Mem)), (∀ (x6 : Int64), ∀ (x8 : Int64), ∀ σ : Mem, k114 x6 x8 σ = some res → V G 7 11 X ((some (.long res.1)), res.2) σ [(4, .int x4), (6, .long x6), (8, .long x8)] [] 114) → ∀ f : Nat, ∀ (x6 : Int64), ∀ (x8 : Int64), ∀ (x10 : Int32), ∀ σ : Mem, p_X11_odds_L86 k114 x1 x2 x3 x4 f x6 x8 x10 σ = some res → V G 7 11 X ((some (.long res.1)), res.2) σ [(0, .ref (ga G 0)), (1, .int x1), (2, .int x2), (3, .int x3), (4, .int x4), (6, .long x6), (8, .long x8), (10, .int x10)] [] 86 := by
    intro k114 hk114 f
    induction f with
    | zero => intro x6 x8 x10 σ h; exact none_some h
    | succ f ih => intro x6 x8 x10 σ h; exact hB86 (p_X11_odds_L86 k114 x1 x2 x3 x4 f) k114 ih hk114 x6 x8 x10 σ h
  have hB64 : ∀ (k64 : Int64 → Int64 → Int32 → Mem → Option (Int64 × Mem)), ∀ (k83 : Int64 → Int64 → Mem → Option (Int64 × Mem)), (∀ (x6 : Int64), ∀ (x8 : Int64), ∀ (x10 : Int32), ∀ σ : Mem, k64 x6 x8 x10 σ = some res → V G 7 11 X ((some (.long res.1)), res.2) σ [(0, .ref (ga G 0)), (1, .int x1), (2, .int x2), (3, .int x3), (4, .int x4), (6, .long x6), (8, .long x8), (10, .int x10)] [] 64) → (∀ (x6 : Int64), ∀ (x8 : Int64), ∀ σ : Mem, k83 x6 x8 σ = some res → V G 7 11 X ((some (.long res.1)), res.2) σ [(0, .ref (ga G 0)), (1, .int x1), (2, .int x2), (3, .int x3), (4, .int x4), (6, .long x6), (8, .long x8)] [] 83) → ∀ (x6 : Int64), ∀ (x8 : Int64), ∀ (x10 : Int32), ∀ σ : Mem, p_X11_odds_B64 k64 k83 x1 x2 x3 x4 x6 x8 x10 σ = some res → V G 7 11 X ((some (.long res.1)), res.2) σ [(0, .ref (ga G 0)), (1, .int x1), (2, .int x2), (3, .int x3), (4, .int x4), (6, .long x6), (8, .long x8), (10, .int x10)] [] 64 := by
    intro k64 k83 hk64 hk83 x6 x8 x10 σ h
    unfold p_X11_odds_B64 at h
    refine v_blk hC (is := [(.iload 10, 0), (.iload_n 2, 0)]) (pc' := 67) (ls' := [(0, .ref (ga G 0)), (1, .int x1), (2, .int x2), (3, .int x3), (4, .int x4), (6, .long x6), (8, .long x8), (10, .int x10)]) (st' := [.int x2, .int x10]) (by decide +kernel) rfl ?_
    refine v_icmp_ge hC (off := 16) (tgt := 83) (by decide +kernel) (by decide) h (fun hq h => ?_) (fun hq h => ?_)
    · refine v_sub [0, 1, 2, 3, 4, 5, 6] (ls' := [(0, .ref (ga G 0)), (1, .int x1), (2, .int x2), (3, .int x3), (4, .int x4), (6, .long x6), (8, .long x8)]) rfl ?_
      exact hk83 _ _ _ h
    · refine v_blk hC (is := [(.lload 8, 0), (.iload_n 3, 0), (.i2l, 0), (.lmul, 0), (.lstore 8, 0), (.iinc 10 1, (1 : Int32))]) (pc' := 80) (ls' := [(10, .int (x10 + (1 : Int32))), (8, .long (x8 * (Int32.toInt64 x3))), (0, .ref (ga G 0)), (1, .int x1), (2, .int x2), (3, .int x3), (4, .int x4), (6, .long x6)]) (st' := []) (by decide +kernel) rfl ?_
      refine v_goto hC (off := (-16)) (tgt := 64) (by decide +kernel) (by decide) ?_
      refine v_sub [2, 3, 4, 5, 6, 7, 1, 0] (ls' := [(0, .ref (ga G 0)), (1, .int x1), (2, .int x2), (3, .int x3), (4, .int x4), (6, .long x6), (8, .long (x8 * (Int32.toInt64 x3))), (10, .int (x10 + (1 : Int32)))]) rfl ?_
      exact hk64 _ _ _ _ h
  have hL64 : ∀ (k83 : Int64 → Int64 → Mem → Option (Int64 × Mem)), (∀ (x6 : Int64), ∀ (x8 : Int64), ∀ σ : Mem, k83 x6 x8 σ = some res → V G 7 11 X ((some (.long res.1)), res.2) σ [(0, .ref (ga G 0)), (1, .int x1), (2, .int x2), (3, .int x3), (4, .int x4), (6, .long x6), (8, .long x8)] [] 83) → ∀ f : Nat, ∀ (x6 : Int64), ∀ (x8 : Int64), ∀ (x10 : Int32), ∀ σ : Mem, p_X11_odds_L64 k83 x1 x2 x3 x4 f x6 x8 x10 σ = some res → V G 7 11 X ((some (.long res.1)), res.2) σ [(0, .ref (ga G 0)), (1, .int x1), (2, .int x2), (3, .int x3), (4, .int x4), (6, .long x6), (8, .long x8), (10, .int x10)] [] 64 := by
    intro k83 hk83 f
    induction f with
    | zero => intro x6 x8 x10 σ h; exact none_some h
    | succ f ih => intro x6 x8 x10 σ h; exact hB64 (p_X11_odds_L64 k83 x1 x2 x3 x4 f) k83 ih hk83 x6 x8 x10 σ h
  have hB33 : ∀ (t0 : Int32), ∀ σ : Mem, p_X11_odds_B33 x1 x2 x3 x4 t0 σ = some res → V G 7 11 X ((some (.long res.1)), res.2) σ [(0, .ref (ga G 0)), (1, .int x1), (2, .int x2), (3, .int x3), (4, .int x4)] [.int t0] 33 := by
    intro t0 σ h
    unfold p_X11_odds_B33 at h
    refine v_blk hC (is := [(.istore 5, 0), (.iload 5, 0)]) (pc' := 37) (ls' := [(5, .int t0), (0, .ref (ga G 0)), (1, .int x1), (2, .int x2), (3, .int x3), (4, .int x4)]) (st' := [.int t0]) (by decide +kernel) rfl ?_
    refine v_if_eq hC (off := 14) (tgt := 51) (by decide +kernel) (by decide) h (fun hq h => ?_) (fun hq h => ?_)
    · refine v_sub [] (ls' := []) rfl ?_
      exact (hB51 ) _ h
    · refine v_blk hC (is := [(.aload_n 0, 0)]) (pc' := 41) (ls' := [(5, .int t0), (0, .ref (ga G 0)), (1, .int x1), (2, .int x2), (3, .int x3), (4, .int x4)]) (st' := [.ref (ga G 0)]) (by decide +kernel) rfl ?_
      refine gX11_0 hC lfX11_10 (by decide +kernel) ?_
      refine v_blk hC (is := [(.iload_n 1, 0)]) (pc' := 45) (ls' := [(5, .int t0), (0, .ref (ga G 0)), (1, .int x1), (2, .int x2), (3, .int x3), (4, .int x4)]) (st' := [.int x1, .ref (ga G 1)]) (by decide +kernel) rfl ?_
      obtain ⟨v4, s5, e6, h⟩ := bndI h
      refine v_cVN (idx := 63) hC ⟨List.mem_of_getElem? (i := 27) (by decide +kernel), tiX3_has, tvX3_has, tnX3_has, tcX3_has, tmX3_has⟩ (isO_X3 cape1) rfl (c_X3_has cape1 e6) (by decide) (by decide) (by decide +kernel) (rest := []) rfl rfl (Nat.le_of_ble_eq_true rfl) rfl ?_
      refine v_if_ne hC (off := 7) (tgt := 55) (by decide +kernel) (by decide) h (fun hq h => ?_) (fun hq h => ?_)
      · refine v_blk hC (is := [(.lconst 0, 0), (.lstore 6, 0), (.lconst 1, 0), (.lstore 8, 0), (.iconst 0, (0 : Int32)), (.istore 10, 0)]) (pc' := 64) (ls' := [(10, .int (0 : Int32)), (8, .long (1 : Int64)), (6, .long (0 : Int64)), (5, .int t0), (0, .ref (ga G 0)), (1, .int x1), (2, .int x2), (3, .int x3), (4, .int x4)]) (st' := []) (by decide +kernel) rfl ?_
        refine v_sub [4, 5, 6, 7, 8, 2, 1, 0] (ls' := [(0, .ref (ga G 0)), (1, .int x1), (2, .int x2), (3, .int x3), (4, .int x4), (6, .long (0 : Int64)), (8, .long (1 : Int64)), (10, .int (0 : Int32))]) rfl ?_
        exact (hL64 _ (fun x6 x8  m7 h => by
              refine v_blk hC (is := [(.iconst 0, (0 : Int32)), (.istore 10, 0)]) (pc' := 86) (ls' := [(10, .int (0 : Int32)), (0, .ref (ga G 0)), (1, .int x1), (2, .int x2), (3, .int x3), (4, .int x4), (6, .long x6), (8, .long x8)]) (st' := []) (by decide +kernel) rfl ?_
              refine v_sub [1, 2, 3, 4, 5, 6, 7, 0] (ls' := [(0, .ref (ga G 0)), (1, .int x1), (2, .int x2), (3, .int x3), (4, .int x4), (6, .long x6), (8, .long x8), (10, .int (0 : Int32))]) rfl ?_
              exact (hL86 _ (fun x6 x8  m8 h => by
                  refine v_blk hC (is := [(.lload 6, 0), (.lload 8, 0), (.iload 4, 0)]) (pc' := 120) (ls' := [(4, .int x4), (6, .long x6), (8, .long x8)]) (st' := [.int x4, .long x8, .long x6]) (by decide +kernel) rfl ?_
                  obtain ⟨v9, s10, e11, h⟩ := bndI h
                  refine v_cS (idx := 229) hC ⟨tt_at 776 (by decide +kernel) rfl, tsX11_inLeastTerms, tnX11_inLeastTerms, tcX11_inLeastTerms, tmX11_inLeastTerms⟩ (c_X11_inLeastTerms e11) (by decide) (by decide) (by decide +kernel) (rest := []) rfl rfl (Nat.le_of_ble_eq_true rfl) rfl ?_
                  exact v_lret hC h (by decide +kernel)) 1000) _ _ _ _ h) 1000) _ _ _ _ h
      · refine v_sub [] (ls' := []) rfl ?_
        exact (hB51 ) _ h
  have hB32 : ∀ σ : Mem, p_X11_odds_B32 x1 x2 x3 x4 σ = some res → V G 7 11 X ((some (.long res.1)), res.2) σ [(0, .ref (ga G 0)), (1, .int x1), (2, .int x2), (3, .int x3), (4, .int x4)] [] 32 := by
    intro  σ h
    unfold p_X11_odds_B32 at h
    refine v_blk hC (is := [(.iconst 0, (0 : Int32))]) (pc' := 33) (ls' := [(0, .ref (ga G 0)), (1, .int x1), (2, .int x2), (3, .int x3), (4, .int x4)]) (st' := [.int (0 : Int32)]) (by decide +kernel) rfl ?_
    exact (hB33 ) _ _ h
  unfold p_X11_odds at h
  show V G 7 11 X ((some (.long res.1)), res.2) σ [(0, .ref (ga G 0)), (1, .int x1), (2, .int x2), (3, .int x3), (4, .int x4)] [] 0
  refine v_blk hC (is := [(.iload_n 2, 0), (.iconst 0, (0 : Int32)), (.bipush 7, (7 : Int32))]) (pc' := 4) (ls' := [(0, .ref (ga G 0)), (1, .int x1), (2, .int x2), (3, .int x3), (4, .int x4)]) (st' := [.int (7 : Int32), .int (0 : Int32), .int x2]) (by decide +kernel) rfl ?_
  obtain ⟨v12, s13, e14, h⟩ := bndI h
  refine v_cS (idx := 168) hC ⟨tt_at 300 (by decide +kernel) rfl, tsX11_within, tnX11_within, tcX11_within, tmX11_within⟩ (c_X11_within e14) (by decide) (by decide) (by decide +kernel) (rest := []) rfl rfl (Nat.le_of_ble_eq_true rfl) rfl ?_
  refine v_if_eq hC (off := 25) (tgt := 32) (by decide +kernel) (by decide) h (fun hq h => ?_) (fun hq h => ?_)
  · exact (hB32 ) _ h
  · refine v_blk hC (is := [(.iload_n 3, 0), (.iconst 2, (2 : Int32)), (.bipush 20, (20 : Int32))]) (pc' := 14) (ls' := [(0, .ref (ga G 0)), (1, .int x1), (2, .int x2), (3, .int x3), (4, .int x4)]) (st' := [.int (20 : Int32), .int (2 : Int32), .int x3]) (by decide +kernel) rfl ?_
    obtain ⟨v15, s16, e17, h⟩ := bndI h
    refine v_cS (idx := 168) hC ⟨tt_at 300 (by decide +kernel) rfl, tsX11_within, tnX11_within, tcX11_within, tmX11_within⟩ (c_X11_within e17) (by decide) (by decide) (by decide +kernel) (rest := []) rfl rfl (Nat.le_of_ble_eq_true rfl) rfl ?_
    refine v_if_eq hC (off := 15) (tgt := 32) (by decide +kernel) (by decide) h (fun hq h => ?_) (fun hq h => ?_)
    · exact (hB32 ) _ h
    · refine v_blk hC (is := [(.iload 4, 0)]) (pc' := 22) (ls' := [(0, .ref (ga G 0)), (1, .int x1), (2, .int x2), (3, .int x3), (4, .int x4)]) (st' := [.int x4]) (by decide +kernel) rfl ?_
      obtain ⟨v18, s19, e20, h⟩ := bndI h
      refine v_cS (idx := 151) hC ⟨tt_at 613 (by decide +kernel) rfl, tsX11_isPart, tnX11_isPart, tcX11_isPart, tmX11_isPart⟩ (c_X11_isPart e20) (by decide) (by decide) (by decide +kernel) (rest := []) rfl rfl (Nat.le_of_ble_eq_true rfl) rfl ?_
      refine v_if_eq hC (off := 7) (tgt := 32) (by decide +kernel) (by decide) h (fun hq h => ?_) (fun hq h => ?_)
      · exact (hB32 ) _ h
      · refine v_blk hC (is := [(.iconst 1, (1 : Int32))]) (pc' := 29) (ls' := [(0, .ref (ga G 0)), (1, .int x1), (2, .int x2), (3, .int x3), (4, .int x4)]) (st' := [.int (1 : Int32)]) (by decide +kernel) rfl ?_
        refine v_goto hC (off := 4) (tgt := 33) (by decide +kernel) (by decide) ?_
        exact (hB33 ) _ _ h

def p_X11_isWhereTold_B58 (k2 : Int32 → Mem → Option (Int32 × Mem)) (x1 : Nat) (x2 : Int32) (x3 : Int32) (σ : Mem) : Option (Int32 × Mem) := (bnd (p_X3_sails 3 (1 : Int32) σ) fun (v1 : Unit) s2 => k2 (x3 + (1 : Int32)) s2)
def p_X11_isWhereTold_B35 (k2 : Int32 → Mem → Option (Int32 × Mem)) (x1 : Nat) (x2 : Int32) (x3 : Int32) (t0 : Int32) (σ : Mem) : Option (Int32 × Mem) := (bnd (p_X8_isSkipped x1 x3 σ) fun v4 s5 => (if v4 = 0 then (if x3 < 0 ∨ 100 ≤ (x3).toNatClampNeg then none else lt (s5 (8 + x1) (x3).toNatClampNeg) fun v7 => (if v7 = t0 then (p_X11_isWhereTold_B58 k2 x1 x2) x3 s5 else some ((0 : Int32), s5))) else (p_X11_isWhereTold_B58 k2 x1 x2) x3 s5))
def p_X11_isWhereTold_B2 (k2 : Int32 → Mem → Option (Int32 × Mem)) (x1 : Nat) (x2 : Int32) (x3 : Int32) (σ : Mem) : Option (Int32 × Mem) := (lt (σ x1 5) fun v8 => (if v8 ≤ x3 then some ((1 : Int32), σ) else (bnd (p_X3_isLost 3 x2 σ) fun v9 s10 => (if v9 = 0 then (if x2 < 0 ∨ 8 ≤ (x2).toNatClampNeg then none else lt (s10 (30 + 3) (x2).toNatClampNeg) fun v12 => (p_X11_isWhereTold_B35 k2 x1 x2) x3 v12 s10) else (p_X11_isWhereTold_B35 k2 x1 x2) x3 (8 : Int32) s10))))
def p_X11_isWhereTold_L2  (x1 : Nat) (x2 : Int32) : Nat → Int32 → Mem → Option (Int32 × Mem)
  | 0 => fun _ _ => none
  | f + 1 => p_X11_isWhereTold_B2 (p_X11_isWhereTold_L2 x1 x2 f) x1 x2
def p_X11_isWhereTold (x1 : Nat) (x2 : Int32) (σ : Mem) : Option (Int32 × Mem) := (p_X11_isWhereTold_L2 x1 x2 1000) (0 : Int32) σ
set_option maxHeartbeats 4000000 in
set_option maxRecDepth 100000 in
theorem c_X11_isWhereTold {G : Gl} {x1 : Nat} {x2 : Int32} {σ : Mem} {res : Int32 × Mem} (hx1 : isShelf x1) (h : p_X11_isWhereTold x1 x2 σ = some res) : MetX G yX11_isWhereTold cX11_isWhereTold 5 (some .boolean) 6 [.ref (ga G 0), .ref (ga G x1), .int x2] σ (some (.int res.1)) res.2 := by
  refine met_V (by decide +kernel) (Nat.le_of_ble_eq_true rfl) (fun X hC => ?_)
  have hC : Ok G 6 5 X cX11_isWhereTold RX11 (some .boolean) := hC
  have hB58 : ∀ (k2 : Int32 → Mem → Option (Int32 × Mem)), (∀ (x3 : Int32), ∀ σ : Mem, k2 x3 σ = some res → V G 6 5 X ((some (.int res.1)), res.2) σ [(0, .ref (ga G 0)), (1, .ref (ga G x1)), (2, .int x2), (3, .int x3)] [] 2) → ∀ (x3 : Int32), ∀ σ : Mem, p_X11_isWhereTold_B58 k2 x1 x2 x3 σ = some res → V G 6 5 X ((some (.int res.1)), res.2) σ [(0, .ref (ga G 0)), (1, .ref (ga G x1)), (2, .int x2), (3, .int x3)] [] 58 := by
    intro k2 hk2 x3 σ h
    unfold p_X11_isWhereTold_B58 at h
    refine v_blk hC (is := [(.aload_n 0, 0)]) (pc' := 59) (ls' := [(0, .ref (ga G 0)), (1, .ref (ga G x1)), (2, .int x2), (3, .int x3)]) (st' := [.ref (ga G 0)]) (by decide +kernel) rfl ?_
    refine gX11_2 hC lfX11_19 (by decide +kernel) ?_
    refine v_blk hC (is := [(.iconst 1, (1 : Int32))]) (pc' := 63) (ls' := [(0, .ref (ga G 0)), (1, .ref (ga G x1)), (2, .int x2), (3, .int x3)]) (st' := [.int (1 : Int32), .ref (ga G 3)]) (by decide +kernel) rfl ?_
    obtain ⟨v1, s2, e3, h⟩ := bndI h
    refine v_cVN (idx := 200) hC ⟨List.mem_of_getElem? (i := 56) (by decide +kernel), tiX3_sails, tvX3_sails, tnX3_sails, tcX3_sails, tmX3_sails⟩ (isO_X3 cape3) rfl (c_X3_sails cape3 e3) (by decide) (by decide) (by decide +kernel) (rest := []) rfl rfl (Nat.le_of_ble_eq_true rfl) rfl ?_
    refine v_blk hC (is := [(.iinc 3 1, (1 : Int32))]) (pc' := 69) (ls' := [(3, .int (x3 + (1 : Int32))), (0, .ref (ga G 0)), (1, .ref (ga G x1)), (2, .int x2)]) (st' := []) (by decide +kernel) rfl ?_
    refine v_goto hC (off := (-67)) (tgt := 2) (by decide +kernel) (by decide) ?_
    refine v_sub [1, 2, 3, 0] (ls' := [(0, .ref (ga G 0)), (1, .ref (ga G x1)), (2, .int x2), (3, .int (x3 + (1 : Int32)))]) rfl ?_
    exact hk2 _ _ h
  have hB35 : ∀ (k2 : Int32 → Mem → Option (Int32 × Mem)), (∀ (x3 : Int32), ∀ σ : Mem, k2 x3 σ = some res → V G 6 5 X ((some (.int res.1)), res.2) σ [(0, .ref (ga G 0)), (1, .ref (ga G x1)), (2, .int x2), (3, .int x3)] [] 2) → ∀ (x3 : Int32), ∀ (t0 : Int32), ∀ σ : Mem, p_X11_isWhereTold_B35 k2 x1 x2 x3 t0 σ = some res → V G 6 5 X ((some (.int res.1)), res.2) σ [(0, .ref (ga G 0)), (1, .ref (ga G x1)), (2, .int x2), (3, .int x3)] [.int t0] 35 := by
    intro k2 hk2 x3 t0 σ h
    unfold p_X11_isWhereTold_B35 at h
    refine v_blk hC (is := [(.istore 4, 0), (.aload_n 1, 0), (.iload_n 3, 0)]) (pc' := 39) (ls' := [(4, .int t0), (0, .ref (ga G 0)), (1, .ref (ga G x1)), (2, .int x2), (3, .int x3)]) (st' := [.int x3, .ref (ga G x1)]) (by decide +kernel) rfl ?_
    obtain ⟨v4, s5, e6, h⟩ := bndI h
    refine v_cVN (idx := 242) hC ⟨List.mem_of_getElem? (i := 60) (by decide +kernel), tiX8_isSkipped, tvX8_isSkipped, tnX8_isSkipped, tcX8_isSkipped, tmX8_isSkipped⟩ (isO_X8 hx1) rfl (c_X8_isSkipped hx1 e6) (by decide) (by decide) (by decide +kernel) (rest := []) rfl rfl (Nat.le_of_ble_eq_true rfl) rfl ?_
    refine v_if_ne hC (off := 16) (tgt := 58) (by decide +kernel) (by decide) h (fun hq h => ?_) (fun hq h => ?_)
    · refine v_sub [1, 2, 3, 4] (ls' := [(0, .ref (ga G 0)), (1, .ref (ga G x1)), (2, .int x2), (3, .int x3)]) rfl ?_
      exact (hB58 _ hk2) _ _ h
    · refine v_blk hC (is := [(.aload_n 1, 0)]) (pc' := 46) (ls' := [(4, .int t0), (0, .ref (ga G 0)), (1, .ref (ga G x1)), (2, .int x2), (3, .int x3)]) (st' := [.ref (ga G x1)]) (by decide +kernel) rfl ?_
      refine gX8_0 hC hx1 lfX11_239 (by decide +kernel) ?_
      refine v_blk hC (is := [(.iload_n 3, 0)]) (pc' := 50) (ls' := [(4, .int t0), (0, .ref (ga G 0)), (1, .ref (ga G x1)), (2, .int x2), (3, .int x3)]) (st' := [.int x3, .ref (ga G (8 + x1))]) (by decide +kernel) rfl ?_
      refine v_iald hC (isA_cells hx1) (al_cells hx1) (by decide +kernel) h (fun v7 h => ?_)
      refine v_blk hC (is := [(.iload 4, 0)]) (pc' := 53) (ls' := [(4, .int t0), (0, .ref (ga G 0)), (1, .ref (ga G x1)), (2, .int x2), (3, .int x3)]) (st' := [.int t0, .int v7]) (by decide +kernel) rfl ?_
      refine v_icmp_eq hC (off := 5) (tgt := 58) (by decide +kernel) (by decide) h (fun hq h => ?_) (fun hq h => ?_)
      · refine v_sub [1, 2, 3, 4] (ls' := [(0, .ref (ga G 0)), (1, .ref (ga G x1)), (2, .int x2), (3, .int x3)]) rfl ?_
        exact (hB58 _ hk2) _ _ h
      · refine v_blk hC (is := [(.iconst 0, (0 : Int32))]) (pc' := 57) (ls' := [(4, .int t0), (0, .ref (ga G 0)), (1, .ref (ga G x1)), (2, .int x2), (3, .int x3)]) (st' := [.int (0 : Int32)]) (by decide +kernel) rfl ?_
        exact v_zret hC rfl h (by decide +kernel)
  have hB2 : ∀ (k2 : Int32 → Mem → Option (Int32 × Mem)), (∀ (x3 : Int32), ∀ σ : Mem, k2 x3 σ = some res → V G 6 5 X ((some (.int res.1)), res.2) σ [(0, .ref (ga G 0)), (1, .ref (ga G x1)), (2, .int x2), (3, .int x3)] [] 2) → ∀ (x3 : Int32), ∀ σ : Mem, p_X11_isWhereTold_B2 k2 x1 x2 x3 σ = some res → V G 6 5 X ((some (.int res.1)), res.2) σ [(0, .ref (ga G 0)), (1, .ref (ga G x1)), (2, .int x2), (3, .int x3)] [] 2 := by
    intro k2 hk2 x3 σ h
    unfold p_X11_isWhereTold_B2 at h
    refine v_blk hC (is := [(.iload_n 3, 0), (.aload_n 1, 0)]) (pc' := 4) (ls' := [(0, .ref (ga G 0)), (1, .ref (ga G x1)), (2, .int x2), (3, .int x3)]) (st' := [.ref (ga G x1), .int x3]) (by decide +kernel) rfl ?_
    refine gX8_5 hC hx1 lfX11_52 (by decide +kernel) h (fun v8 h => ?_)
    refine v_icmp_ge hC (off := 65) (tgt := 72) (by decide +kernel) (by decide) h (fun hq h => ?_) (fun hq h => ?_)
    · refine v_blk hC (is := [(.iconst 1, (1 : Int32))]) (pc' := 73) (ls' := [(0, .ref (ga G 0)), (1, .ref (ga G x1)), (2, .int x2), (3, .int x3)]) (st' := [.int (1 : Int32)]) (by decide +kernel) rfl ?_
      exact v_zret hC rfl h (by decide +kernel)
    · refine v_blk hC (is := [(.aload_n 0, 0)]) (pc' := 11) (ls' := [(0, .ref (ga G 0)), (1, .ref (ga G x1)), (2, .int x2), (3, .int x3)]) (st' := [.ref (ga G 0)]) (by decide +kernel) rfl ?_
      refine gX11_2 hC lfX11_19 (by decide +kernel) ?_
      refine v_blk hC (is := [(.iload_n 2, 0)]) (pc' := 15) (ls' := [(0, .ref (ga G 0)), (1, .ref (ga G x1)), (2, .int x2), (3, .int x3)]) (st' := [.int x2, .ref (ga G 3)]) (by decide +kernel) rfl ?_
      obtain ⟨v9, s10, e11, h⟩ := bndI h
      refine v_cVN (idx := 77) hC ⟨List.mem_of_getElem? (i := 28) (by decide +kernel), tiX3_isLost, tvX3_isLost, tnX3_isLost, tcX3_isLost, tmX3_isLost⟩ (isO_X3 cape3) rfl (c_X3_isLost cape3 e11) (by decide) (by decide) (by decide +kernel) (rest := []) rfl rfl (Nat.le_of_ble_eq_true rfl) rfl ?_
      refine v_if_eq hC (off := 8) (tgt := 26) (by decide +kernel) (by decide) h (fun hq h => ?_) (fun hq h => ?_)
      · refine v_blk hC (is := [(.aload_n 0, 0)]) (pc' := 27) (ls' := [(0, .ref (ga G 0)), (1, .ref (ga G x1)), (2, .int x2), (3, .int x3)]) (st' := [.ref (ga G 0)]) (by decide +kernel) rfl ?_
        refine gX11_2 hC lfX11_19 (by decide +kernel) ?_
        refine gX3_3 hC cape3 lfX11_74 (by decide +kernel) ?_
        refine v_blk hC (is := [(.iload_n 2, 0)]) (pc' := 34) (ls' := [(0, .ref (ga G 0)), (1, .ref (ga G x1)), (2, .int x2), (3, .int x3)]) (st' := [.int x2, .ref (ga G (30 + 3))]) (by decide +kernel) rfl ?_
        refine v_iald hC (isA_boat cape3) (al_boat cape3) (by decide +kernel) h (fun v12 h => ?_)
        exact (hB35 _ hk2) _ _ _ h
      · refine v_blk hC (is := [(.bipush 8, (8 : Int32))]) (pc' := 23) (ls' := [(0, .ref (ga G 0)), (1, .ref (ga G x1)), (2, .int x2), (3, .int x3)]) (st' := [.int (8 : Int32)]) (by decide +kernel) rfl ?_
        refine v_goto hC (off := 12) (tgt := 35) (by decide +kernel) (by decide) ?_
        exact (hB35 _ hk2) _ _ _ h
  have hL2 : ∀ f : Nat, ∀ (x3 : Int32), ∀ σ : Mem, p_X11_isWhereTold_L2 x1 x2 f x3 σ = some res → V G 6 5 X ((some (.int res.1)), res.2) σ [(0, .ref (ga G 0)), (1, .ref (ga G x1)), (2, .int x2), (3, .int x3)] [] 2 := by
    intro  f
    induction f with
    | zero => intro x3 σ h; exact none_some h
    | succ f ih => intro x3 σ h; exact hB2 (p_X11_isWhereTold_L2 x1 x2 f)  ih  x3 σ h
  unfold p_X11_isWhereTold at h
  show V G 6 5 X ((some (.int res.1)), res.2) σ [(0, .ref (ga G 0)), (1, .ref (ga G x1)), (2, .int x2)] [] 0
  refine v_blk hC (is := [(.iconst 0, (0 : Int32)), (.istore_n 3, 0)]) (pc' := 2) (ls' := [(3, .int (0 : Int32)), (0, .ref (ga G 0)), (1, .ref (ga G x1)), (2, .int x2)]) (st' := []) (by decide +kernel) rfl ?_
  refine v_sub [1, 2, 3, 0] (ls' := [(0, .ref (ga G 0)), (1, .ref (ga G x1)), (2, .int x2), (3, .int (0 : Int32))]) rfl ?_
  exact (hL2 1000) _ _ h

def p_X11_whatIs_B121 (k42 : Int32 → Int32 → Mem → Option (Int32 × Mem)) (x1 : Int32) (x2 : Int32) (x3 : Int32) (x5 : Int32) (x6 : Int32) (σ : Mem) : Option (Int32 × Mem) := k42 x5 (x6 + (1 : Int32)) σ
def p_X11_whatIs_B98 (k42 : Int32 → Int32 → Mem → Option (Int32 × Mem)) (x1 : Int32) (x2 : Int32) (x3 : Int32) (x5 : Int32) (x6 : Int32) (σ : Mem) : Option (Int32 × Mem) := (if x1 < 0 ∨ 8 ≤ (x1).toNatClampNeg then none else (bnd (p_X11_isWhereTold (6 + (x1).toNatClampNeg) x2 σ) fun v2 s3 => (if v2 = 0 then (p_X11_whatIs_B121 k42 x1 x2 x3) x5 x6 s3 else (p_X11_whatIs_B121 k42 x1 x2 x3) (x5 ||| ((1 : Int32) <<< (x6 &&& 31))) x6 s3)))
def p_X11_whatIs_B55 (k42 : Int32 → Int32 → Mem → Option (Int32 × Mem)) (x1 : Int32) (x2 : Int32) (x3 : Int32) (x5 : Int32) (x6 : Int32) (t0 : Int32) (t1 : Int32) (σ : Mem) : Option (Int32 × Mem) := (if t1 ≤ t0 then some (x5, σ) else (bnd (p_X3_becomes 3 1 σ) fun (v5 : Unit) s6 => (if x3 = 0 then (if x2 < 0 ∨ 8 ≤ (x2).toNatClampNeg then none else wr s6 (24 + 3) (x2).toNatClampNeg x6 fun s9 => (p_X11_whatIs_B98 k42 x1 x2 x3) x5 x6 s9) else (if x2 < 0 ∨ 8 ≤ (x2).toNatClampNeg then none else wr s6 (27 + 3) (x2).toNatClampNeg x6 fun s8 => (p_X11_whatIs_B98 k42 x1 x2 x3) x5 x6 s8))))
def p_X11_whatIs_B42 (k42 : Int32 → Int32 → Mem → Option (Int32 × Mem)) (x1 : Int32) (x2 : Int32) (x3 : Int32) (x5 : Int32) (x6 : Int32) (σ : Mem) : Option (Int32 × Mem) := (if x3 = 0 then (p_X11_whatIs_B55 k42 x1 x2 x3) x5 x6 x6 (8 : Int32) σ else (p_X11_whatIs_B55 k42 x1 x2 x3) x5 x6 x6 (10 : Int32) σ)
def p_X11_whatIs_L42  (x1 : Int32) (x2 : Int32) (x3 : Int32) : Nat → Int32 → Int32 → Mem → Option (Int32 × Mem)
  | 0 => fun _ _ _ => none
  | f + 1 => p_X11_whatIs_B42 (p_X11_whatIs_L42 x1 x2 x3 f) x1 x2 x3
def p_X11_whatIs (x1 : Int32) (x2 : Int32) (x3 : Int32) (σ : Mem) : Option (Int32 × Mem) := (bnd (p_X3_has 1 x2 σ) fun v10 s11 => (if v10 = 0 then some ((-1 : Int32), s11) else (bnd (p_X11_isPart x3 s11) fun v13 s14 => (if v13 = 0 then some ((-1 : Int32), s14) else (bnd (p_X11_refusal x1 (2 : Int32) s14) fun v16 s17 => (if v16 = 0 then (p_X11_whatIs_L42 x1 x2 x3 1000) (0 : Int32) (0 : Int32) s17 else some (v16, s17)))))))
set_option maxHeartbeats 4000000 in
set_option maxRecDepth 100000 in
theorem c_X11_whatIs {G : Gl} {x1 : Int32} {x2 : Int32} {x3 : Int32} {σ : Mem} {res : Int32 × Mem}  (h : p_X11_whatIs x1 x2 x3 σ = some res) : MetX G yX11_whatIs cX11_whatIs 7 (some .int) 7 [.ref (ga G 0), .int x1, .int x2, .int x3] σ (some (.int res.1)) res.2 := by
  refine met_V (by decide +kernel) (Nat.le_of_ble_eq_true rfl) (fun X hC => ?_)
  have hC : Ok G 7 7 X cX11_whatIs RX11 (some .int) := hC
  have hB121 : ∀ (k42 : Int32 → Int32 → Mem → Option (Int32 × Mem)), (∀ (x5 : Int32), ∀ (x6 : Int32), ∀ σ : Mem, k42 x5 x6 σ = some res → V G 7 7 X ((some (.int res.1)), res.2) σ [(0, .ref (ga G 0)), (1, .int x1), (2, .int x2), (3, .int x3), (5, .int x5), (6, .int x6)] [] 42) → ∀ (x5 : Int32), ∀ (x6 : Int32), ∀ σ : Mem, p_X11_whatIs_B121 k42 x1 x2 x3 x5 x6 σ = some res → V G 7 7 X ((some (.int res.1)), res.2) σ [(0, .ref (ga G 0)), (1, .int x1), (2, .int x2), (3, .int x3), (5, .int x5), (6, .int x6)] [] 121 := by
    intro k42 hk42 x5 x6 σ h
    unfold p_X11_whatIs_B121 at h
    refine v_blk hC (is := [(.iinc 6 1, (1 : Int32))]) (pc' := 124) (ls' := [(6, .int (x6 + (1 : Int32))), (0, .ref (ga G 0)), (1, .int x1), (2, .int x2), (3, .int x3), (5, .int x5)]) (st' := []) (by decide +kernel) rfl ?_
    refine v_goto hC (off := (-82)) (tgt := 42) (by decide +kernel) (by decide) ?_
    refine v_sub [1, 2, 3, 4, 5, 0] (ls' := [(0, .ref (ga G 0)), (1, .int x1), (2, .int x2), (3, .int x3), (5, .int x5), (6, .int (x6 + (1 : Int32)))]) rfl ?_
    exact hk42 _ _ _ h
  have hB98 : ∀ (k42 : Int32 → Int32 → Mem → Option (Int32 × Mem)), (∀ (x5 : Int32), ∀ (x6 : Int32), ∀ σ : Mem, k42 x5 x6 σ = some res → V G 7 7 X ((some (.int res.1)), res.2) σ [(0, .ref (ga G 0)), (1, .int x1), (2, .int x2), (3, .int x3), (5, .int x5), (6, .int x6)] [] 42) → ∀ (x5 : Int32), ∀ (x6 : Int32), ∀ σ : Mem, p_X11_whatIs_B98 k42 x1 x2 x3 x5 x6 σ = some res → V G 7 7 X ((some (.int res.1)), res.2) σ [(0, .ref (ga G 0)), (1, .int x1), (2, .int x2), (3, .int x3), (5, .int x5), (6, .int x6)] [] 98 := by
    intro k42 hk42 x5 x6 σ h
    unfold p_X11_whatIs_B98 at h
    refine v_blk hC (is := [(.aload_n 0, 0), (.aload_n 0, 0)]) (pc' := 100) (ls' := [(0, .ref (ga G 0)), (1, .int x1), (2, .int x2), (3, .int x3), (5, .int x5), (6, .int x6)]) (st' := [.ref (ga G 0), .ref (ga G 0)]) (by decide +kernel) rfl ?_
    refine gX11_4 hC lfX11_31 (by decide +kernel) ?_
    refine v_blk hC (is := [(.iload_n 1, 0)]) (pc' := 104) (ls' := [(0, .ref (ga G 0)), (1, .int x1), (2, .int x2), (3, .int x3), (5, .int x5), (6, .int x6)]) (st' := [.int x1, .ref (ga G 5), .ref (ga G 0)]) (by decide +kernel) rfl ?_
    refine v_aald hC (t0 := 2) (by decide) enr_shelves rfl (by decide +kernel) h (fun hi1 h => ?_)
    refine v_blk hC (is := [(.iload_n 2, 0)]) (pc' := 106) (ls' := [(0, .ref (ga G 0)), (1, .int x1), (2, .int x2), (3, .int x3), (5, .int x5), (6, .int x6)]) (st' := [.int x2, .ref (ga G (6 + (x1).toNatClampNeg)), .ref (ga G 0)]) (by decide +kernel) rfl ?_
    obtain ⟨v2, s3, e4, h⟩ := bndI h
    refine v_cV (idx := 233) hC ⟨tt_at 783 (by decide +kernel) rfl, tiX11_isWhereTold, tvX11_isWhereTold, tnX11_isWhereTold, tcX11_isWhereTold, tmX11_isWhereTold⟩ isO_X11 rfl (c_X11_isWhereTold (shelf_at hi1) e4) (by decide) (by decide) (by decide +kernel) (rest := []) rfl rfl (Nat.le_of_ble_eq_true rfl) rfl ?_
    refine v_if_eq hC (off := 12) (tgt := 121) (by decide +kernel) (by decide) h (fun hq h => ?_) (fun hq h => ?_)
    · exact (hB121 _ hk42) _ _ _ h
    · refine v_blk hC (is := [(.iload 5, 0), (.iconst 1, (1 : Int32)), (.iload 6, 0), (.ishl, 0), (.ior, 0), (.istore 5, 0)]) (pc' := 121) (ls' := [(5, .int (x5 ||| ((1 : Int32) <<< (x6 &&& 31)))), (0, .ref (ga G 0)), (1, .int x1), (2, .int x2), (3, .int x3), (6, .int x6)]) (st' := []) (by decide +kernel) rfl ?_
      refine v_sub [1, 2, 3, 4, 0, 5] (ls' := [(0, .ref (ga G 0)), (1, .int x1), (2, .int x2), (3, .int x3), (5, .int (x5 ||| ((1 : Int32) <<< (x6 &&& 31)))), (6, .int x6)]) rfl ?_
      exact (hB121 _ hk42) _ _ _ h
  have hB55 : ∀ (k42 : Int32 → Int32 → Mem → Option (Int32 × Mem)), (∀ (x5 : Int32), ∀ (x6 : Int32), ∀ σ : Mem, k42 x5 x6 σ = some res → V G 7 7 X ((some (.int res.1)), res.2) σ [(0, .ref (ga G 0)), (1, .int x1), (2, .int x2), (3, .int x3), (5, .int x5), (6, .int x6)] [] 42) → ∀ (x5 : Int32), ∀ (x6 : Int32), ∀ (t0 : Int32), ∀ (t1 : Int32), ∀ σ : Mem, p_X11_whatIs_B55 k42 x1 x2 x3 x5 x6 t0 t1 σ = some res → V G 7 7 X ((some (.int res.1)), res.2) σ [(0, .ref (ga G 0)), (1, .int x1), (2, .int x2), (3, .int x3), (5, .int x5), (6, .int x6)] [.int t1, .int t0] 55 := by
    intro k42 hk42 x5 x6 t0 t1 σ h
    unfold p_X11_whatIs_B55 at h
    refine v_icmp_ge hC (off := 72) (tgt := 127) (by decide +kernel) (by decide) h (fun hq h => ?_) (fun hq h => ?_)
    · refine v_blk hC (is := [(.iload 5, 0)]) (pc' := 129) (ls' := [(0, .ref (ga G 0)), (1, .int x1), (2, .int x2), (3, .int x3), (5, .int x5), (6, .int x6)]) (st' := [.int x5]) (by decide +kernel) rfl ?_
      exact v_iret hC h (by decide +kernel)
    · refine v_blk hC (is := [(.aload_n 0, 0)]) (pc' := 59) (ls' := [(0, .ref (ga G 0)), (1, .int x1), (2, .int x2), (3, .int x3), (5, .int x5), (6, .int x6)]) (st' := [.ref (ga G 0)]) (by decide +kernel) rfl ?_
      refine gX11_2 hC lfX11_19 (by decide +kernel) ?_
      refine v_blk hC (is := [(.aload_n 0, 0)]) (pc' := 63) (ls' := [(0, .ref (ga G 0)), (1, .int x1), (2, .int x2), (3, .int x3), (5, .int x5), (6, .int x6)]) (st' := [.ref (ga G 0), .ref (ga G 3)]) (by decide +kernel) rfl ?_
      refine gX11_0 hC lfX11_10 (by decide +kernel) ?_
      obtain ⟨v5, s6, e7, h⟩ := bndI h
      refine v_cVN (idx := 48) hC ⟨List.mem_of_getElem? (i := 19) (by decide +kernel), tiX3_becomes, tvX3_becomes, tnX3_becomes, tcX3_becomes, tmX3_becomes⟩ (isO_X3 cape3) rfl (c_X3_becomes cape3 cape1 e7) (by decide) (by decide) (by decide +kernel) (rest := []) rfl rfl (Nat.le_of_ble_eq_true rfl) rfl ?_
      refine v_blk hC (is := [(.iload_n 3, 0)]) (pc' := 70) (ls' := [(0, .ref (ga G 0)), (1, .int x1), (2, .int x2), (3, .int x3), (5, .int x5), (6, .int x6)]) (st' := [.int x3]) (by decide +kernel) rfl ?_
      refine v_if_ne hC (off := 17) (tgt := 87) (by decide +kernel) (by decide) h (fun hq h => ?_) (fun hq h => ?_)
      · refine v_blk hC (is := [(.aload_n 0, 0)]) (pc' := 88) (ls' := [(0, .ref (ga G 0)), (1, .int x1), (2, .int x2), (3, .int x3), (5, .int x5), (6, .int x6)]) (st' := [.ref (ga G 0)]) (by decide +kernel) rfl ?_
        refine gX11_2 hC lfX11_19 (by decide +kernel) ?_
        refine gX3_2 hC cape3 lfX11_71 (by decide +kernel) ?_
        refine v_blk hC (is := [(.iload_n 2, 0), (.iload 6, 0)]) (pc' := 97) (ls' := [(0, .ref (ga G 0)), (1, .int x1), (2, .int x2), (3, .int x3), (5, .int x5), (6, .int x6)]) (st' := [.int x6, .int x2, .ref (ga G (27 + 3))]) (by decide +kernel) rfl ?_
        refine v_iast hC (isA_figure cape3) (al_figure cape3) (by decide +kernel) h (fun s8 h => ?_)
        exact (hB98 _ hk42) _ _ _ h
      · refine v_blk hC (is := [(.aload_n 0, 0)]) (pc' := 74) (ls' := [(0, .ref (ga G 0)), (1, .int x1), (2, .int x2), (3, .int x3), (5, .int x5), (6, .int x6)]) (st' := [.ref (ga G 0)]) (by decide +kernel) rfl ?_
        refine gX11_2 hC lfX11_19 (by decide +kernel) ?_
        refine gX3_1 hC cape3 lfX11_67 (by decide +kernel) ?_
        refine v_blk hC (is := [(.iload_n 2, 0), (.iload 6, 0)]) (pc' := 83) (ls' := [(0, .ref (ga G 0)), (1, .int x1), (2, .int x2), (3, .int x3), (5, .int x5), (6, .int x6)]) (st' := [.int x6, .int x2, .ref (ga G (24 + 3))]) (by decide +kernel) rfl ?_
        refine v_iast hC (isA_kind cape3) (al_kind cape3) (by decide +kernel) h (fun s9 h => ?_)
        refine v_goto hC (off := 14) (tgt := 98) (by decide +kernel) (by decide) ?_
        exact (hB98 _ hk42) _ _ _ h
  have hB42 : ∀ (k42 : Int32 → Int32 → Mem → Option (Int32 × Mem)), (∀ (x5 : Int32), ∀ (x6 : Int32), ∀ σ : Mem, k42 x5 x6 σ = some res → V G 7 7 X ((some (.int res.1)), res.2) σ [(0, .ref (ga G 0)), (1, .int x1), (2, .int x2), (3, .int x3), (5, .int x5), (6, .int x6)] [] 42) → ∀ (x5 : Int32), ∀ (x6 : Int32), ∀ σ : Mem, p_X11_whatIs_B42 k42 x1 x2 x3 x5 x6 σ = some res → V G 7 7 X ((some (.int res.1)), res.2) σ [(0, .ref (ga G 0)), (1, .int x1), (2, .int x2), (3, .int x3), (5, .int x5), (6, .int x6)] [] 42 := by
    intro k42 hk42 x5 x6 σ h
    unfold p_X11_whatIs_B42 at h
    refine v_blk hC (is := [(.iload 6, 0), (.iload_n 3, 0)]) (pc' := 45) (ls' := [(0, .ref (ga G 0)), (1, .int x1), (2, .int x2), (3, .int x3), (5, .int x5), (6, .int x6)]) (st' := [.int x3, .int x6]) (by decide +kernel) rfl ?_
    refine v_if_ne hC (off := 8) (tgt := 53) (by decide +kernel) (by decide) h (fun hq h => ?_) (fun hq h => ?_)
    · refine v_blk hC (is := [(.bipush 10, (10 : Int32))]) (pc' := 55) (ls' := [(0, .ref (ga G 0)), (1, .int x1), (2, .int x2), (3, .int x3), (5, .int x5), (6, .int x6)]) (st' := [.int (10 : Int32), .int x6]) (by decide +kernel) rfl ?_
      exact (hB55 _ hk42) _ _ _ _ _ h
    · refine v_blk hC (is := [(.bipush 8, (8 : Int32))]) (pc' := 50) (ls' := [(0, .ref (ga G 0)), (1, .int x1), (2, .int x2), (3, .int x3), (5, .int x5), (6, .int x6)]) (st' := [.int (8 : Int32), .int x6]) (by decide +kernel) rfl ?_
      refine v_goto hC (off := 5) (tgt := 55) (by decide +kernel) (by decide) ?_
      exact (hB55 _ hk42) _ _ _ _ _ h
  have hL42 : ∀ f : Nat, ∀ (x5 : Int32), ∀ (x6 : Int32), ∀ σ : Mem, p_X11_whatIs_L42 x1 x2 x3 f x5 x6 σ = some res → V G 7 7 X ((some (.int res.1)), res.2) σ [(0, .ref (ga G 0)), (1, .int x1), (2, .int x2), (3, .int x3), (5, .int x5), (6, .int x6)] [] 42 := by
    intro  f
    induction f with
    | zero => intro x5 x6 σ h; exact none_some h
    | succ f ih => intro x5 x6 σ h; exact hB42 (p_X11_whatIs_L42 x1 x2 x3 f)  ih  x5 x6 σ h
  unfold p_X11_whatIs at h
  show V G 7 7 X ((some (.int res.1)), res.2) σ [(0, .ref (ga G 0)), (1, .int x1), (2, .int x2), (3, .int x3)] [] 0
  refine v_blk hC (is := [(.aload_n 0, 0)]) (pc' := 1) (ls' := [(0, .ref (ga G 0)), (1, .int x1), (2, .int x2), (3, .int x3)]) (st' := [.ref (ga G 0)]) (by decide +kernel) rfl ?_
  refine gX11_0 hC lfX11_10 (by decide +kernel) ?_
  refine v_blk hC (is := [(.iload_n 2, 0)]) (pc' := 5) (ls' := [(0, .ref (ga G 0)), (1, .int x1), (2, .int x2), (3, .int x3)]) (st' := [.int x2, .ref (ga G 1)]) (by decide +kernel) rfl ?_
  obtain ⟨v10, s11, e12, h⟩ := bndI h
  refine v_cVN (idx := 63) hC ⟨List.mem_of_getElem? (i := 27) (by decide +kernel), tiX3_has, tvX3_has, tnX3_has, tcX3_has, tmX3_has⟩ (isO_X3 cape1) rfl (c_X3_has cape1 e12) (by decide) (by decide) (by decide +kernel) (rest := []) rfl rfl (Nat.le_of_ble_eq_true rfl) rfl ?_
  refine v_if_eq hC (off := 10) (tgt := 18) (by decide +kernel) (by decide) h (fun hq h => ?_) (fun hq h => ?_)
  · refine v_blk hC (is := [(.iconst (-1), (-1 : Int32))]) (pc' := 19) (ls' := [(0, .ref (ga G 0)), (1, .int x1), (2, .int x2), (3, .int x3)]) (st' := [.int (-1 : Int32)]) (by decide +kernel) rfl ?_
    exact v_iret hC h (by decide +kernel)
  · refine v_blk hC (is := [(.iload_n 3, 0)]) (pc' := 12) (ls' := [(0, .ref (ga G 0)), (1, .int x1), (2, .int x2), (3, .int x3)]) (st' := [.int x3]) (by decide +kernel) rfl ?_
    obtain ⟨v13, s14, e15, h⟩ := bndI h
    refine v_cS (idx := 151) hC ⟨tt_at 613 (by decide +kernel) rfl, tsX11_isPart, tnX11_isPart, tcX11_isPart, tmX11_isPart⟩ (c_X11_isPart e15) (by decide) (by decide) (by decide +kernel) (rest := []) rfl rfl (Nat.le_of_ble_eq_true rfl) rfl ?_
    refine v_if_ne hC (off := 5) (tgt := 20) (by decide +kernel) (by decide) h (fun hq h => ?_) (fun hq h => ?_)
    · refine v_blk hC (is := [(.aload_n 0, 0), (.iload_n 1, 0), (.iconst 2, (2 : Int32))]) (pc' := 23) (ls' := [(0, .ref (ga G 0)), (1, .int x1), (2, .int x2), (3, .int x3)]) (st' := [.int (2 : Int32), .int x1, .ref (ga G 0)]) (by decide +kernel) rfl ?_
      obtain ⟨v16, s17, e18, h⟩ := bndI h
      refine v_cV (idx := 36) hC ⟨tt_at 293 (by decide +kernel) rfl, tiX11_refusal, tvX11_refusal, tnX11_refusal, tcX11_refusal, tmX11_refusal⟩ isO_X11 rfl (c_X11_refusal e18) (by decide) (by decide) (by decide +kernel) (rest := []) rfl rfl (Nat.le_of_ble_eq_true rfl) rfl ?_
      refine v_blk hC (is := [(.istore 4, 0), (.iload 4, 0)]) (pc' := 30) (ls' := [(4, .int v16), (0, .ref (ga G 0)), (1, .int x1), (2, .int x2), (3, .int x3)]) (st' := [.int v16]) (by decide +kernel) rfl ?_
      refine v_if_eq hC (off := 6) (tgt := 36) (by decide +kernel) (by decide) h (fun hq h => ?_) (fun hq h => ?_)
      · refine v_blk hC (is := [(.iconst 0, (0 : Int32)), (.istore 5, 0), (.iconst 0, (0 : Int32)), (.istore 6, 0)]) (pc' := 42) (ls' := [(6, .int (0 : Int32)), (5, .int (0 : Int32)), (4, .int v16), (0, .ref (ga G 0)), (1, .int x1), (2, .int x2), (3, .int x3)]) (st' := []) (by decide +kernel) rfl ?_
        refine v_sub [3, 4, 5, 6, 1, 0] (ls' := [(0, .ref (ga G 0)), (1, .int x1), (2, .int x2), (3, .int x3), (5, .int (0 : Int32)), (6, .int (0 : Int32))]) rfl ?_
        exact (hL42 1000) _ _ _ h
      · refine v_blk hC (is := [(.iload 4, 0)]) (pc' := 35) (ls' := [(4, .int v16), (0, .ref (ga G 0)), (1, .int x1), (2, .int x2), (3, .int x3)]) (st' := [.int v16]) (by decide +kernel) rfl ?_
        exact v_iret hC h (by decide +kernel)
    · refine v_blk hC (is := [(.iconst (-1), (-1 : Int32))]) (pc' := 19) (ls' := [(0, .ref (ga G 0)), (1, .int x1), (2, .int x2), (3, .int x3)]) (st' := [.int (-1 : Int32)]) (by decide +kernel) rfl ?_
      exact v_iret hC h (by decide +kernel)

def p_X11_mean (x1 : Int32) (σ : Mem) : Option (Int64 × Mem) := (bnd (p_X11_isPart x1 σ) fun v1 s2 => (if v1 = 0 then some ((1000000001 : Int64), s2) else (bnd (p_X3_living 1 s2) fun v4 s5 => (bnd (p_X3_skillOf 1 v4 s5) fun v7 s8 => (bnd (p_J6_bitCount_0f7a4 v4 s8) fun v10 s11 => (bnd (p_X11_inLeastTerms (Int32.toInt64 v7) (Int32.toInt64 v10) x1 s11) fun v13 s14 => some (v13, s14)))))))
set_option maxHeartbeats 4000000 in
set_option maxRecDepth 100000 in
theorem c_X11_mean {G : Gl} {x1 : Int32} {σ : Mem} {res : Int64 × Mem}  (h : p_X11_mean x1 σ = some res) : MetX G yX11_mean cX11_mean 3 (some .long) 5 [.ref (ga G 0), .int x1] σ (some (.long res.1)) res.2 := by
  refine met_V (by decide +kernel) (Nat.le_of_ble_eq_true rfl) (fun X hC => ?_)
  have hC : Ok G 5 3 X cX11_mean RX11 (some .long) := hC
  unfold p_X11_mean at h
  show V G 5 3 X ((some (.long res.1)), res.2) σ [(0, .ref (ga G 0)), (1, .int x1)] [] 0
  refine v_blk hC (is := [(.iload_n 1, 0)]) (pc' := 1) (ls' := [(0, .ref (ga G 0)), (1, .int x1)]) (st' := [.int x1]) (by decide +kernel) rfl ?_
  obtain ⟨v1, s2, e3, h⟩ := bndI h
  refine v_cS (idx := 151) hC ⟨tt_at 613 (by decide +kernel) rfl, tsX11_isPart, tnX11_isPart, tcX11_isPart, tmX11_isPart⟩ (c_X11_isPart e3) (by decide) (by decide) (by decide +kernel) (rest := []) rfl rfl (Nat.le_of_ble_eq_true rfl) rfl ?_
  refine v_if_ne hC (off := 7) (tgt := 11) (by decide +kernel) (by decide) h (fun hq h => ?_) (fun hq h => ?_)
  · refine v_blk hC (is := [(.aload_n 0, 0)]) (pc' := 12) (ls' := [(0, .ref (ga G 0)), (1, .int x1)]) (st' := [.ref (ga G 0)]) (by decide +kernel) rfl ?_
    refine gX11_0 hC lfX11_10 (by decide +kernel) ?_
    obtain ⟨v4, s5, e6, h⟩ := bndI h
    refine v_cVN (idx := 236) hC ⟨List.mem_of_getElem? (i := 61) (by decide +kernel), tiX3_living, tvX3_living, tnX3_living, tcX3_living, tmX3_living⟩ (isO_X3 cape1) rfl (c_X3_living cape1 e6) (by decide) (by decide) (by decide +kernel) (rest := []) rfl rfl (Nat.le_of_ble_eq_true rfl) rfl ?_
    refine v_blk hC (is := [(.istore_n 2, 0), (.aload_n 0, 0)]) (pc' := 20) (ls' := [(2, .int v4), (0, .ref (ga G 0)), (1, .int x1)]) (st' := [.ref (ga G 0)]) (by decide +kernel) rfl ?_
    refine gX11_0 hC lfX11_10 (by decide +kernel) ?_
    refine v_blk hC (is := [(.iload_n 2, 0)]) (pc' := 24) (ls' := [(2, .int v4), (0, .ref (ga G 0)), (1, .int x1)]) (st' := [.int v4, .ref (ga G 1)]) (by decide +kernel) rfl ?_
    obtain ⟨v7, s8, e9, h⟩ := bndI h
    refine v_cVN (idx := 178) hC ⟨List.mem_of_getElem? (i := 49) (by decide +kernel), tiX3_skillOf, tvX3_skillOf, tnX3_skillOf, tcX3_skillOf, tmX3_skillOf⟩ (isO_X3 cape1) rfl (c_X3_skillOf cape1 e9) (by decide) (by decide) (by decide +kernel) (rest := []) rfl rfl (Nat.le_of_ble_eq_true rfl) rfl ?_
    refine v_blk hC (is := [(.i2l, 0), (.iload_n 2, 0)]) (pc' := 29) (ls' := [(2, .int v4), (0, .ref (ga G 0)), (1, .int x1)]) (st' := [.int v4, .long (Int32.toInt64 v7)]) (by decide +kernel) rfl ?_
    obtain ⟨v10, s11, e12, h⟩ := bndI h
    refine v_cS (idx := 157) hC ⟨tt_at 626 (by decide +kernel) rfl, tsJ6_bitCount_0f7a4, tnJ6_bitCount_0f7a4, tcJ6_bitCount_0f7a4, tmJ6_bitCount_0f7a4⟩ (c_J6_bitCount_0f7a4 e12) (by decide) (by decide) (by decide +kernel) (rest := [.long (Int32.toInt64 v7)]) rfl rfl (Nat.le_of_ble_eq_true rfl) rfl ?_
    refine v_blk hC (is := [(.i2l, 0), (.iload_n 1, 0)]) (pc' := 34) (ls' := [(2, .int v4), (0, .ref (ga G 0)), (1, .int x1)]) (st' := [.int x1, .long (Int32.toInt64 v10), .long (Int32.toInt64 v7)]) (by decide +kernel) rfl ?_
    obtain ⟨v13, s14, e15, h⟩ := bndI h
    refine v_cS (idx := 229) hC ⟨tt_at 776 (by decide +kernel) rfl, tsX11_inLeastTerms, tnX11_inLeastTerms, tcX11_inLeastTerms, tmX11_inLeastTerms⟩ (c_X11_inLeastTerms e15) (by decide) (by decide) (by decide +kernel) (rest := []) rfl rfl (Nat.le_of_ble_eq_true rfl) rfl ?_
    exact v_lret hC h (by decide +kernel)
  · refine v_ldc2 hC (idx := 223) (v := (1000000001 : Int64)) (tt_at 771 (by decide +kernel) rfl) (by decide +kernel) ?_
    exact v_lret hC h (by decide +kernel)

def p_X11_forged_B101  (x1 : Int32) (x4 : Int32) (σ : Mem) : Option (Int32 × Mem) := some ((x4 / (2 : Int32)), σ)
def p_X11_forged_B35 (k35 : Nat → Int32 → Mem → Option (Int32 × Mem)) (k101 : Int32 → Mem → Option (Int32 × Mem)) (x1 : Int32) (x3 : Nat) (x4 : Int32) (σ : Mem) : Option (Int32 × Mem) := (lt (σ x3 5) fun v1 => (if v1 ≤ (x4 + (1 : Int32)) then some ((-4 : Int32), σ) else (if x4 < 0 ∨ 100 ≤ (x4).toNatClampNeg then none else lt (σ (8 + x3) (x4).toNatClampNeg) fun v2 => (if (x4 + (1 : Int32)) < 0 ∨ 100 ≤ ((x4 + (1 : Int32))).toNatClampNeg then none else lt (σ (8 + x3) ((x4 + (1 : Int32))).toNatClampNeg) fun v3 => (bnd (p_X3_hasTwo 1 v2 v3 σ) fun v4 s5 => (if v4 = 0 then k101 x4 s5 else (lt (s5 1 7) fun v7 => (bnd (p_X3_counts 1 v2 v3 v7 s5) fun v8 s9 => (if v8 = 0 then k101 x4 s9 else k35 x3 (x4 + (2 : Int32)) s9)))))))))
def p_X11_forged_L35 (k101 : Int32 → Mem → Option (Int32 × Mem)) (x1 : Int32) : Nat → Nat → Int32 → Mem → Option (Int32 × Mem)
  | 0 => fun _ _ _ => none
  | f + 1 => p_X11_forged_B35 (p_X11_forged_L35 k101 x1 f) k101 x1
def p_X11_forged (x1 : Int32) (σ : Mem) : Option (Int32 × Mem) := (bnd (p_X11_refusal x1 (2 : Int32) σ) fun v11 s12 => (if v11 = 0 then (if x1 < 0 ∨ 8 ≤ (x1).toNatClampNeg then none else (lt (s12 (6 + (x1).toNatClampNeg) 5) fun v15 => (if (v15 - v15 / (2 : Int32) * (2 : Int32)) = 0 then (p_X11_forged_L35 (p_X11_forged_B101 x1) x1 1000) (6 + (x1).toNatClampNeg) (0 : Int32) s12 else some ((-13 : Int32), s12)))) else some (v11, s12)))
set_option maxHeartbeats 4000000 in
set_option maxRecDepth 100000 in
theorem c_X11_forged {G : Gl} {x1 : Int32} {σ : Mem} {res : Int32 × Mem}  (h : p_X11_forged x1 σ = some res) : MetX G yX11_forged cX11_forged 7 (some .int) 4 [.ref (ga G 0), .int x1] σ (some (.int res.1)) res.2 := by
  refine met_V (by decide +kernel) (Nat.le_of_ble_eq_true rfl) (fun X hC => ?_)
  have hC : Ok G 4 7 X cX11_forged RX11 (some .int) := hC
  have hB101 : ∀ (x4 : Int32), ∀ σ : Mem, p_X11_forged_B101 x1 x4 σ = some res → V G 4 7 X ((some (.int res.1)), res.2) σ [(4, .int x4)] [] 101 := by
    intro x4 σ h
    unfold p_X11_forged_B101 at h
    refine v_blk hC (is := [(.iload 4, 0), (.iconst 2, (2 : Int32))]) (pc' := 104) (ls' := [(4, .int x4)]) (st' := [.int (2 : Int32), .int x4]) (by decide +kernel) rfl ?_
    refine v_idiv hC (by decide +kernel) (by decide) ?_
    exact v_iret hC h (by decide +kernel)
  have hB35 : ∀ (k35 : Nat → Int32 → Mem → Option (Int32 × Mem)), ∀ (k101 : Int32 → Mem → Option (Int32 × Mem)), (∀ (x3 : Nat), ∀ (x4 : Int32), isShelf x3 → ∀ σ : Mem, k35 x3 x4 σ = some res → V G 4 7 X ((some (.int res.1)), res.2) σ [(0, .ref (ga G 0)), (3, .ref (ga G x3)), (4, .int x4)] [] 35) → (∀ (x4 : Int32), ∀ σ : Mem, k101 x4 σ = some res → V G 4 7 X ((some (.int res.1)), res.2) σ [(4, .int x4)] [] 101) → ∀ (x3 : Nat), ∀ (x4 : Int32), isShelf x3 → ∀ σ : Mem, p_X11_forged_B35 k35 k101 x1 x3 x4 σ = some res → V G 4 7 X ((some (.int res.1)), res.2) σ [(0, .ref (ga G 0)), (3, .ref (ga G x3)), (4, .int x4)] [] 35 := by
    intro k35 k101 hk35 hk101 x3 x4 hx3 σ h
    unfold p_X11_forged_B35 at h
    refine v_blk hC (is := [(.iload 4, 0), (.iconst 1, (1 : Int32)), (.iadd, 0), (.aload_n 3, 0)]) (pc' := 40) (ls' := [(0, .ref (ga G 0)), (3, .ref (ga G x3)), (4, .int x4)]) (st' := [.ref (ga G x3), .int (x4 + (1 : Int32))]) (by decide +kernel) rfl ?_
    refine gX8_5 hC hx3 lfX11_52 (by decide +kernel) h (fun v1 h => ?_)
    refine v_icmp_ge hC (off := 69) (tgt := 112) (by decide +kernel) (by decide) h (fun hq h => ?_) (fun hq h => ?_)
    · refine v_blk hC (is := [(.bipush (-4), (-4 : Int32))]) (pc' := 114) (ls' := [(0, .ref (ga G 0)), (3, .ref (ga G x3)), (4, .int x4)]) (st' := [.int (-4 : Int32)]) (by decide +kernel) rfl ?_
      exact v_iret hC h (by decide +kernel)
    · refine v_blk hC (is := [(.aload_n 3, 0)]) (pc' := 47) (ls' := [(0, .ref (ga G 0)), (3, .ref (ga G x3)), (4, .int x4)]) (st' := [.ref (ga G x3)]) (by decide +kernel) rfl ?_
      refine gX8_0 hC hx3 lfX11_239 (by decide +kernel) ?_
      refine v_blk hC (is := [(.iload 4, 0)]) (pc' := 52) (ls' := [(0, .ref (ga G 0)), (3, .ref (ga G x3)), (4, .int x4)]) (st' := [.int x4, .ref (ga G (8 + x3))]) (by decide +kernel) rfl ?_
      refine v_iald hC (isA_cells hx3) (al_cells hx3) (by decide +kernel) h (fun v2 h => ?_)
      refine v_blk hC (is := [(.istore 5, 0), (.aload_n 3, 0)]) (pc' := 56) (ls' := [(5, .int v2), (0, .ref (ga G 0)), (3, .ref (ga G x3)), (4, .int x4)]) (st' := [.ref (ga G x3)]) (by decide +kernel) rfl ?_
      refine gX8_0 hC hx3 lfX11_239 (by decide +kernel) ?_
      refine v_blk hC (is := [(.iload 4, 0), (.iconst 1, (1 : Int32)), (.iadd, 0)]) (pc' := 63) (ls' := [(5, .int v2), (0, .ref (ga G 0)), (3, .ref (ga G x3)), (4, .int x4)]) (st' := [.int (x4 + (1 : Int32)), .ref (ga G (8 + x3))]) (by decide +kernel) rfl ?_
      refine v_iald hC (isA_cells hx3) (al_cells hx3) (by decide +kernel) h (fun v3 h => ?_)
      refine v_blk hC (is := [(.istore 6, 0), (.aload_n 0, 0)]) (pc' := 67) (ls' := [(6, .int v3), (5, .int v2), (0, .ref (ga G 0)), (3, .ref (ga G x3)), (4, .int x4)]) (st' := [.ref (ga G 0)]) (by decide +kernel) rfl ?_
      refine gX11_0 hC lfX11_10 (by decide +kernel) ?_
      refine v_blk hC (is := [(.iload 5, 0), (.iload 6, 0)]) (pc' := 74) (ls' := [(6, .int v3), (5, .int v2), (0, .ref (ga G 0)), (3, .ref (ga G x3)), (4, .int x4)]) (st' := [.int v3, .int v2, .ref (ga G 1)]) (by decide +kernel) rfl ?_
      obtain ⟨v4, s5, e6, h⟩ := bndI h
      refine v_cVN (idx := 101) hC ⟨List.mem_of_getElem? (i := 30) (by decide +kernel), tiX3_hasTwo, tvX3_hasTwo, tnX3_hasTwo, tcX3_hasTwo, tmX3_hasTwo⟩ (isO_X3 cape1) rfl (c_X3_hasTwo cape1 e6) (by decide) (by decide) (by decide +kernel) (rest := []) rfl rfl (Nat.le_of_ble_eq_true rfl) rfl ?_
      refine v_if_eq hC (off := 24) (tgt := 101) (by decide +kernel) (by decide) h (fun hq h => ?_) (fun hq h => ?_)
      · refine v_sub [4] (ls' := [(4, .int x4)]) rfl ?_
        exact hk101 _ _ h
      · refine v_blk hC (is := [(.aload_n 0, 0)]) (pc' := 81) (ls' := [(6, .int v3), (5, .int v2), (0, .ref (ga G 0)), (3, .ref (ga G x3)), (4, .int x4)]) (st' := [.ref (ga G 0)]) (by decide +kernel) rfl ?_
        refine gX11_0 hC lfX11_10 (by decide +kernel) ?_
        refine v_blk hC (is := [(.iload 5, 0), (.iload 6, 0), (.aload_n 0, 0)]) (pc' := 89) (ls' := [(6, .int v3), (5, .int v2), (0, .ref (ga G 0)), (3, .ref (ga G x3)), (4, .int x4)]) (st' := [.ref (ga G 0), .int v3, .int v2, .ref (ga G 1)]) (by decide +kernel) rfl ?_
        refine gX11_0 hC lfX11_10 (by decide +kernel) ?_
        refine gX3_7 hC cape1 lfX11_128 (by decide +kernel) h (fun v7 h => ?_)
        obtain ⟨v8, s9, e10, h⟩ := bndI h
        refine v_cVN (idx := 194) hC ⟨List.mem_of_getElem? (i := 55) (by decide +kernel), tiX3_counts, tvX3_counts, tnX3_counts, tcX3_counts, tmX3_counts⟩ (isO_X3 cape1) rfl (c_X3_counts cape1 e10) (by decide) (by decide) (by decide +kernel) (rest := []) rfl rfl (Nat.le_of_ble_eq_true rfl) rfl ?_
        refine v_if_ne hC (off := 8) (tgt := 106) (by decide +kernel) (by decide) h (fun hq h => ?_) (fun hq h => ?_)
        · refine v_blk hC (is := [(.iinc 4 2, (2 : Int32))]) (pc' := 109) (ls' := [(4, .int (x4 + (2 : Int32))), (6, .int v3), (5, .int v2), (0, .ref (ga G 0)), (3, .ref (ga G x3))]) (st' := []) (by decide +kernel) rfl ?_
          refine v_goto hC (off := (-74)) (tgt := 35) (by decide +kernel) (by decide) ?_
          refine v_sub [3, 4, 0] (ls' := [(0, .ref (ga G 0)), (3, .ref (ga G x3)), (4, .int (x4 + (2 : Int32)))]) rfl ?_
          exact hk35 _ _ hx3 _ h
        · refine v_sub [4] (ls' := [(4, .int x4)]) rfl ?_
          exact hk101 _ _ h
  have hL35 : ∀ (k101 : Int32 → Mem → Option (Int32 × Mem)), (∀ (x4 : Int32), ∀ σ : Mem, k101 x4 σ = some res → V G 4 7 X ((some (.int res.1)), res.2) σ [(4, .int x4)] [] 101) → ∀ f : Nat, ∀ (x3 : Nat), ∀ (x4 : Int32), isShelf x3 → ∀ σ : Mem, p_X11_forged_L35 k101 x1 f x3 x4 σ = some res → V G 4 7 X ((some (.int res.1)), res.2) σ [(0, .ref (ga G 0)), (3, .ref (ga G x3)), (4, .int x4)] [] 35 := by
    intro k101 hk101 f
    induction f with
    | zero => intro x3 x4 hx3 σ h; exact none_some h
    | succ f ih => intro x3 x4 hx3 σ h; exact hB35 (p_X11_forged_L35 k101 x1 f) k101 ih hk101 x3 x4 hx3 σ h
  unfold p_X11_forged at h
  show V G 4 7 X ((some (.int res.1)), res.2) σ [(0, .ref (ga G 0)), (1, .int x1)] [] 0
  refine v_blk hC (is := [(.aload_n 0, 0), (.iload_n 1, 0), (.iconst 2, (2 : Int32))]) (pc' := 3) (ls' := [(0, .ref (ga G 0)), (1, .int x1)]) (st' := [.int (2 : Int32), .int x1, .ref (ga G 0)]) (by decide +kernel) rfl ?_
  obtain ⟨v11, s12, e13, h⟩ := bndI h
  refine v_cV (idx := 36) hC ⟨tt_at 293 (by decide +kernel) rfl, tiX11_refusal, tvX11_refusal, tnX11_refusal, tcX11_refusal, tmX11_refusal⟩ isO_X11 rfl (c_X11_refusal e13) (by decide) (by decide) (by decide +kernel) (rest := []) rfl rfl (Nat.le_of_ble_eq_true rfl) rfl ?_
  refine v_blk hC (is := [(.istore_n 2, 0), (.iload_n 2, 0)]) (pc' := 8) (ls' := [(2, .int v11), (0, .ref (ga G 0)), (1, .int x1)]) (st' := [.int v11]) (by decide +kernel) rfl ?_
  refine v_if_eq hC (off := 5) (tgt := 13) (by decide +kernel) (by decide) h (fun hq h => ?_) (fun hq h => ?_)
  · refine v_blk hC (is := [(.aload_n 0, 0)]) (pc' := 14) (ls' := [(2, .int v11), (0, .ref (ga G 0)), (1, .int x1)]) (st' := [.ref (ga G 0)]) (by decide +kernel) rfl ?_
    refine gX11_4 hC lfX11_31 (by decide +kernel) ?_
    refine v_blk hC (is := [(.iload_n 1, 0)]) (pc' := 18) (ls' := [(2, .int v11), (0, .ref (ga G 0)), (1, .int x1)]) (st' := [.int x1, .ref (ga G 5)]) (by decide +kernel) rfl ?_
    refine v_aald hC (t0 := 2) (by decide) enr_shelves rfl (by decide +kernel) h (fun hi14 h => ?_)
    refine v_blk hC (is := [(.astore_n 3, 0), (.aload_n 3, 0)]) (pc' := 21) (ls' := [(3, .ref (ga G (6 + (x1).toNatClampNeg))), (2, .int v11), (0, .ref (ga G 0)), (1, .int x1)]) (st' := [.ref (ga G (6 + (x1).toNatClampNeg))]) (by decide +kernel) rfl ?_
    refine gX8_5 hC (shelf_at hi14) lfX11_52 (by decide +kernel) h (fun v15 h => ?_)
    refine v_blk hC (is := [(.iconst 2, (2 : Int32))]) (pc' := 25) (ls' := [(3, .ref (ga G (6 + (x1).toNatClampNeg))), (2, .int v11), (0, .ref (ga G 0)), (1, .int x1)]) (st' := [.int (2 : Int32), .int v15]) (by decide +kernel) rfl ?_
    refine v_irem hC (by decide +kernel) (by decide) ?_
    refine v_if_eq hC (off := 6) (tgt := 32) (by decide +kernel) (by decide) h (fun hq h => ?_) (fun hq h => ?_)
    · refine v_blk hC (is := [(.iconst 0, (0 : Int32)), (.istore 4, 0)]) (pc' := 35) (ls' := [(4, .int (0 : Int32)), (3, .ref (ga G (6 + (x1).toNatClampNeg))), (2, .int v11), (0, .ref (ga G 0)), (1, .int x1)]) (st' := []) (by decide +kernel) rfl ?_
      refine v_sub [3, 1, 0] (ls' := [(0, .ref (ga G 0)), (3, .ref (ga G (6 + (x1).toNatClampNeg))), (4, .int (0 : Int32))]) rfl ?_
      exact (hL35 _ (hB101 ) 1000) _ _ (shelf_at hi14) _ h
    · refine v_blk hC (is := [(.bipush (-13), (-13 : Int32))]) (pc' := 31) (ls' := [(3, .ref (ga G (6 + (x1).toNatClampNeg))), (2, .int v11), (0, .ref (ga G 0)), (1, .int x1)]) (st' := [.int (-13 : Int32)]) (by decide +kernel) rfl ?_
      exact v_iret hC h (by decide +kernel)
  · refine v_blk hC (is := [(.iload_n 2, 0)]) (pc' := 12) (ls' := [(2, .int v11), (0, .ref (ga G 0)), (1, .int x1)]) (st' := [.int v11]) (by decide +kernel) rfl ?_
    exact v_iret hC h (by decide +kernel)

def p_X11_judge_B72 (k34 : Nat → Int32 → Mem → Option (Int32 × Mem)) (x1 : Int32) (x3 : Nat) (x4 : Int32) (σ : Mem) : Option (Int32 × Mem) := (bnd (p_X3_sails 3 (1 : Int32) σ) fun (v1 : Unit) s2 => k34 x3 (x4 + (1 : Int32)) s2)
def p_X11_judge_B34 (k34 : Nat → Int32 → Mem → Option (Int32 × Mem)) (x1 : Int32) (x3 : Nat) (x4 : Int32) (σ : Mem) : Option (Int32 × Mem) := (lt (σ x3 5) fun v4 => (if v4 ≤ x4 then some ((-4 : Int32), σ) else (bnd (p_X8_isSkipped x3 x4 σ) fun v5 s6 => (if v5 = 0 then (if x4 < 0 ∨ 100 ≤ (x4).toNatClampNeg then none else lt (s6 (8 + x3) (x4).toNatClampNeg) fun v8 => (bnd (p_X3_lostOnes 3 s6) fun v9 s10 => (if v8 = v9 then (p_X11_judge_B72 k34 x1) x3 x4 s10 else some (x4, s10)))) else (p_X11_judge_B72 k34 x1) x3 x4 s6))))
def p_X11_judge_L34  (x1 : Int32) : Nat → Nat → Int32 → Mem → Option (Int32 × Mem)
  | 0 => fun _ _ _ => none
  | f + 1 => p_X11_judge_B34 (p_X11_judge_L34 x1 f) x1
def p_X11_judge (x1 : Int32) (σ : Mem) : Option (Int32 × Mem) := (bnd (p_X11_refusal x1 (2 : Int32) σ) fun v12 s13 => (if v12 = 0 then (if x1 < 0 ∨ 8 ≤ (x1).toNatClampNeg then none else (bnd (p_X3_becomes 3 1 s13) fun (v16 : Unit) s17 => (p_X11_judge_L34 x1 1000) (6 + (x1).toNatClampNeg) (0 : Int32) s17)) else some (v12, s13)))
set_option maxHeartbeats 4000000 in
set_option maxRecDepth 100000 in
theorem c_X11_judge {G : Gl} {x1 : Int32} {σ : Mem} {res : Int32 × Mem}  (h : p_X11_judge x1 σ = some res) : MetX G yX11_judge cX11_judge 5 (some .int) 6 [.ref (ga G 0), .int x1] σ (some (.int res.1)) res.2 := by
  refine met_V (by decide +kernel) (Nat.le_of_ble_eq_true rfl) (fun X hC => ?_)
  have hC : Ok G 6 5 X cX11_judge RX11 (some .int) := hC
  have hB72 : ∀ (k34 : Nat → Int32 → Mem → Option (Int32 × Mem)), (∀ (x3 : Nat), ∀ (x4 : Int32), isShelf x3 → ∀ σ : Mem, k34 x3 x4 σ = some res → V G 6 5 X ((some (.int res.1)), res.2) σ [(0, .ref (ga G 0)), (3, .ref (ga G x3)), (4, .int x4)] [] 34) → ∀ (x3 : Nat), ∀ (x4 : Int32), isShelf x3 → ∀ σ : Mem, p_X11_judge_B72 k34 x1 x3 x4 σ = some res → V G 6 5 X ((some (.int res.1)), res.2) σ [(0, .ref (ga G 0)), (3, .ref (ga G x3)), (4, .int x4)] [] 72 := by
    intro k34 hk34 x3 x4 hx3 σ h
    unfold p_X11_judge_B72 at h
    refine v_blk hC (is := [(.aload_n 0, 0)]) (pc' := 73) (ls' := [(0, .ref (ga G 0)), (3, .ref (ga G x3)), (4, .int x4)]) (st' := [.ref (ga G 0)]) (by decide +kernel) rfl ?_
    refine gX11_2 hC lfX11_19 (by decide +kernel) ?_
    refine v_blk hC (is := [(.iconst 1, (1 : Int32))]) (pc' := 77) (ls' := [(0, .ref (ga G 0)), (3, .ref (ga G x3)), (4, .int x4)]) (st' := [.int (1 : Int32), .ref (ga G 3)]) (by decide +kernel) rfl ?_
    obtain ⟨v1, s2, e3, h⟩ := bndI h
    refine v_cVN (idx := 200) hC ⟨List.mem_of_getElem? (i := 56) (by decide +kernel), tiX3_sails, tvX3_sails, tnX3_sails, tcX3_sails, tmX3_sails⟩ (isO_X3 cape3) rfl (c_X3_sails cape3 e3) (by decide) (by decide) (by decide +kernel) (rest := []) rfl rfl (Nat.le_of_ble_eq_true rfl) rfl ?_
    refine v_blk hC (is := [(.iinc 4 1, (1 : Int32))]) (pc' := 83) (ls' := [(4, .int (x4 + (1 : Int32))), (0, .ref (ga G 0)), (3, .ref (ga G x3))]) (st' := []) (by decide +kernel) rfl ?_
    refine v_goto hC (off := (-49)) (tgt := 34) (by decide +kernel) (by decide) ?_
    refine v_sub [1, 2, 0] (ls' := [(0, .ref (ga G 0)), (3, .ref (ga G x3)), (4, .int (x4 + (1 : Int32)))]) rfl ?_
    exact hk34 _ _ hx3 _ h
  have hB34 : ∀ (k34 : Nat → Int32 → Mem → Option (Int32 × Mem)), (∀ (x3 : Nat), ∀ (x4 : Int32), isShelf x3 → ∀ σ : Mem, k34 x3 x4 σ = some res → V G 6 5 X ((some (.int res.1)), res.2) σ [(0, .ref (ga G 0)), (3, .ref (ga G x3)), (4, .int x4)] [] 34) → ∀ (x3 : Nat), ∀ (x4 : Int32), isShelf x3 → ∀ σ : Mem, p_X11_judge_B34 k34 x1 x3 x4 σ = some res → V G 6 5 X ((some (.int res.1)), res.2) σ [(0, .ref (ga G 0)), (3, .ref (ga G x3)), (4, .int x4)] [] 34 := by
    intro k34 hk34 x3 x4 hx3 σ h
    unfold p_X11_judge_B34 at h
    refine v_blk hC (is := [(.iload 4, 0), (.aload_n 3, 0)]) (pc' := 37) (ls' := [(0, .ref (ga G 0)), (3, .ref (ga G x3)), (4, .int x4)]) (st' := [.ref (ga G x3), .int x4]) (by decide +kernel) rfl ?_
    refine gX8_5 hC hx3 lfX11_52 (by decide +kernel) h (fun v4 h => ?_)
    refine v_icmp_ge hC (off := 46) (tgt := 86) (by decide +kernel) (by decide) h (fun hq h => ?_) (fun hq h => ?_)
    · refine v_blk hC (is := [(.bipush (-4), (-4 : Int32))]) (pc' := 88) (ls' := [(0, .ref (ga G 0)), (3, .ref (ga G x3)), (4, .int x4)]) (st' := [.int (-4 : Int32)]) (by decide +kernel) rfl ?_
      exact v_iret hC h (by decide +kernel)
    · refine v_blk hC (is := [(.aload_n 3, 0), (.iload 4, 0)]) (pc' := 46) (ls' := [(0, .ref (ga G 0)), (3, .ref (ga G x3)), (4, .int x4)]) (st' := [.int x4, .ref (ga G x3)]) (by decide +kernel) rfl ?_
      obtain ⟨v5, s6, e7, h⟩ := bndI h
      refine v_cVN (idx := 242) hC ⟨List.mem_of_getElem? (i := 60) (by decide +kernel), tiX8_isSkipped, tvX8_isSkipped, tnX8_isSkipped, tcX8_isSkipped, tmX8_isSkipped⟩ (isO_X8 hx3) rfl (c_X8_isSkipped hx3 e7) (by decide) (by decide) (by decide +kernel) (rest := []) rfl rfl (Nat.le_of_ble_eq_true rfl) rfl ?_
      refine v_if_ne hC (off := 23) (tgt := 72) (by decide +kernel) (by decide) h (fun hq h => ?_) (fun hq h => ?_)
      · exact (hB72 _ hk34) _ _ hx3 _ h
      · refine v_blk hC (is := [(.aload_n 3, 0)]) (pc' := 53) (ls' := [(0, .ref (ga G 0)), (3, .ref (ga G x3)), (4, .int x4)]) (st' := [.ref (ga G x3)]) (by decide +kernel) rfl ?_
        refine gX8_0 hC hx3 lfX11_239 (by decide +kernel) ?_
        refine v_blk hC (is := [(.iload 4, 0)]) (pc' := 58) (ls' := [(0, .ref (ga G 0)), (3, .ref (ga G x3)), (4, .int x4)]) (st' := [.int x4, .ref (ga G (8 + x3))]) (by decide +kernel) rfl ?_
        refine v_iald hC (isA_cells hx3) (al_cells hx3) (by decide +kernel) h (fun v8 h => ?_)
        refine v_blk hC (is := [(.aload_n 0, 0)]) (pc' := 60) (ls' := [(0, .ref (ga G 0)), (3, .ref (ga G x3)), (4, .int x4)]) (st' := [.ref (ga G 0), .int v8]) (by decide +kernel) rfl ?_
        refine gX11_2 hC lfX11_19 (by decide +kernel) ?_
        obtain ⟨v9, s10, e11, h⟩ := bndI h
        refine v_cVN (idx := 204) hC ⟨List.mem_of_getElem? (i := 57) (by decide +kernel), tiX3_lostOnes, tvX3_lostOnes, tnX3_lostOnes, tcX3_lostOnes, tmX3_lostOnes⟩ (isO_X3 cape3) rfl (c_X3_lostOnes cape3 e11) (by decide) (by decide) (by decide +kernel) (rest := [.int v8]) rfl rfl (Nat.le_of_ble_eq_true rfl) rfl ?_
        refine v_icmp_eq hC (off := 6) (tgt := 72) (by decide +kernel) (by decide) h (fun hq h => ?_) (fun hq h => ?_)
        · exact (hB72 _ hk34) _ _ hx3 _ h
        · refine v_blk hC (is := [(.iload 4, 0)]) (pc' := 71) (ls' := [(0, .ref (ga G 0)), (3, .ref (ga G x3)), (4, .int x4)]) (st' := [.int x4]) (by decide +kernel) rfl ?_
          exact v_iret hC h (by decide +kernel)
  have hL34 : ∀ f : Nat, ∀ (x3 : Nat), ∀ (x4 : Int32), isShelf x3 → ∀ σ : Mem, p_X11_judge_L34 x1 f x3 x4 σ = some res → V G 6 5 X ((some (.int res.1)), res.2) σ [(0, .ref (ga G 0)), (3, .ref (ga G x3)), (4, .int x4)] [] 34 := by
    intro  f
    induction f with
    | zero => intro x3 x4 hx3 σ h; exact none_some h
    | succ f ih => intro x3 x4 hx3 σ h; exact hB34 (p_X11_judge_L34 x1 f)  ih  x3 x4 hx3 σ h
  unfold p_X11_judge at h
  show V G 6 5 X ((some (.int res.1)), res.2) σ [(0, .ref (ga G 0)), (1, .int x1)] [] 0
  refine v_blk hC (is := [(.aload_n 0, 0), (.iload_n 1, 0), (.iconst 2, (2 : Int32))]) (pc' := 3) (ls' := [(0, .ref (ga G 0)), (1, .int x1)]) (st' := [.int (2 : Int32), .int x1, .ref (ga G 0)]) (by decide +kernel) rfl ?_
  obtain ⟨v12, s13, e14, h⟩ := bndI h
  refine v_cV (idx := 36) hC ⟨tt_at 293 (by decide +kernel) rfl, tiX11_refusal, tvX11_refusal, tnX11_refusal, tcX11_refusal, tmX11_refusal⟩ isO_X11 rfl (c_X11_refusal e14) (by decide) (by decide) (by decide +kernel) (rest := []) rfl rfl (Nat.le_of_ble_eq_true rfl) rfl ?_
  refine v_blk hC (is := [(.istore_n 2, 0), (.iload_n 2, 0)]) (pc' := 8) (ls' := [(2, .int v12), (0, .ref (ga G 0)), (1, .int x1)]) (st' := [.int v12]) (by decide +kernel) rfl ?_
  refine v_if_eq hC (off := 5) (tgt := 13) (by decide +kernel) (by decide) h (fun hq h => ?_) (fun hq h => ?_)
  · refine v_blk hC (is := [(.aload_n 0, 0)]) (pc' := 14) (ls' := [(2, .int v12), (0, .ref (ga G 0)), (1, .int x1)]) (st' := [.ref (ga G 0)]) (by decide +kernel) rfl ?_
    refine gX11_4 hC lfX11_31 (by decide +kernel) ?_
    refine v_blk hC (is := [(.iload_n 1, 0)]) (pc' := 18) (ls' := [(2, .int v12), (0, .ref (ga G 0)), (1, .int x1)]) (st' := [.int x1, .ref (ga G 5)]) (by decide +kernel) rfl ?_
    refine v_aald hC (t0 := 2) (by decide) enr_shelves rfl (by decide +kernel) h (fun hi15 h => ?_)
    refine v_blk hC (is := [(.astore_n 3, 0), (.aload_n 0, 0)]) (pc' := 21) (ls' := [(3, .ref (ga G (6 + (x1).toNatClampNeg))), (2, .int v12), (0, .ref (ga G 0)), (1, .int x1)]) (st' := [.ref (ga G 0)]) (by decide +kernel) rfl ?_
    refine gX11_2 hC lfX11_19 (by decide +kernel) ?_
    refine v_blk hC (is := [(.aload_n 0, 0)]) (pc' := 25) (ls' := [(3, .ref (ga G (6 + (x1).toNatClampNeg))), (2, .int v12), (0, .ref (ga G 0)), (1, .int x1)]) (st' := [.ref (ga G 0), .ref (ga G 3)]) (by decide +kernel) rfl ?_
    refine gX11_0 hC lfX11_10 (by decide +kernel) ?_
    obtain ⟨v16, s17, e18, h⟩ := bndI h
    refine v_cVN (idx := 48) hC ⟨List.mem_of_getElem? (i := 19) (by decide +kernel), tiX3_becomes, tvX3_becomes, tnX3_becomes, tcX3_becomes, tmX3_becomes⟩ (isO_X3 cape3) rfl (c_X3_becomes cape3 cape1 e18) (by decide) (by decide) (by decide +kernel) (rest := []) rfl rfl (Nat.le_of_ble_eq_true rfl) rfl ?_
    refine v_blk hC (is := [(.iconst 0, (0 : Int32)), (.istore 4, 0)]) (pc' := 34) (ls' := [(4, .int (0 : Int32)), (3, .ref (ga G (6 + (x1).toNatClampNeg))), (2, .int v12), (0, .ref (ga G 0)), (1, .int x1)]) (st' := []) (by decide +kernel) rfl ?_
    refine v_sub [3, 1, 0] (ls' := [(0, .ref (ga G 0)), (3, .ref (ga G (6 + (x1).toNatClampNeg))), (4, .int (0 : Int32))]) rfl ?_
    exact (hL34 1000) _ _ (shelf_at hi15) _ h
  · refine v_blk hC (is := [(.iload_n 2, 0)]) (pc' := 12) (ls' := [(2, .int v12), (0, .ref (ga G 0)), (1, .int x1)]) (st' := [.int v12]) (by decide +kernel) rfl ?_
    exact v_iret hC h (by decide +kernel)

def p_X11_capes_B31 (k31 : Int32 → Int32 → Int32 → Int32 → Mem → Option (Int32 × Mem)) (k108 : Int32 → Int32 → Mem → Option (Int32 × Mem)) (x1 : Int32) (x2 : Int32) (x3 : Int32) (x4 : Int32) (x5 : Int32) (x6 : Int32) (x7 : Int32) (σ : Mem) : Option (Int32 × Mem) := (if x1 ≤ x7 then k108 x5 x6 σ else (bnd (p_X3_becomes 3 1 σ) fun (v1 : Unit) s2 => (bnd (p_X3_scatters 3 x4 s2) fun v4 s5 => (bnd (p_X3_sails 3 (5 : Int32) s5) fun (v7 : Unit) s8 => (bnd (p_X3_lostOnes 3 s8) fun v10 s11 => (bnd (p_X3_lostOnes 1 s11) fun v13 s14 => (bnd (p_X3_aboard 3 s14) fun v16 s17 => (bnd (p_J6_bitCount_0f7a4 v16 s17) fun v19 s20 => k31 v4 (x5 + (v10 - v13)) (x6 + v19) (x7 + (1 : Int32)) s20))))))))
def p_X11_capes_L31 (k108 : Int32 → Int32 → Mem → Option (Int32 × Mem)) (x1 : Int32) (x2 : Int32) (x3 : Int32) : Nat → Int32 → Int32 → Int32 → Int32 → Mem → Option (Int32 × Mem)
  | 0 => fun _ _ _ _ _ => none
  | f + 1 => p_X11_capes_B31 (p_X11_capes_L31 k108 x1 x2 x3 f) k108 x1 x2 x3
def p_X11_capes (x1 : Int32) (x2 : Int32) (x3 : Int32) (σ : Mem) : Option (Int32 × Mem) := (bnd (p_X11_within x1 (1 : Int32) (20 : Int32) σ) fun v22 s23 => (if v22 = 0 then some ((-1 : Int32), s23) else (bnd (p_X11_isPart x3 s23) fun v25 s26 => (if v25 = 0 then some ((-1 : Int32), s26) else (p_X11_capes_L31 (fun (x5 : Int32) (x6 : Int32) (m28 : Mem) => (if x3 = 0 then some (x5, m28) else some (x6, m28))) x1 x2 x3 1000) x2 (0 : Int32) (0 : Int32) (0 : Int32) s26))))
set_option maxHeartbeats 4000000 in
set_option maxRecDepth 100000 in
theorem c_X11_capes {G : Gl} {x1 : Int32} {x2 : Int32} {x3 : Int32} {σ : Mem} {res : Int32 × Mem}  (h : p_X11_capes x1 x2 x3 σ = some res) : MetX G yX11_capes cX11_capes 8 (some .int) 6 [.ref (ga G 0), .int x1, .int x2, .int x3] σ (some (.int res.1)) res.2 := by
  refine met_V (by decide +kernel) (Nat.le_of_ble_eq_true rfl) (fun X hC => ?_)
  have hC : Ok G 6 8 X cX11_capes RX11 (some .int) := hC
  have hB31 : ∀ (k31 : Int32 → Int32 → Int32 → Int32 → Mem → Option (Int32 × Mem)), ∀ (k108 : Int32 → Int32 → Mem → Option (Int32 × Mem)), (∀ (x4 : Int32), ∀ (x5 : Int32), ∀ (x6 : Int32), ∀ (x7 : Int32), ∀ σ : Mem, k31 x4 x5 x6 x7 σ = some res → V G 6 8 X ((some (.int res.1)), res.2) σ [(0, .ref (ga G 0)), (1, .int x1), (3, .int x3), (4, .int x4), (5, .int x5), (6, .int x6), (7, .int x7)] [] 31) → (∀ (x5 : Int32), ∀ (x6 : Int32), ∀ σ : Mem, k108 x5 x6 σ = some res → V G 6 8 X ((some (.int res.1)), res.2) σ [(3, .int x3), (5, .int x5), (6, .int x6)] [] 108) → ∀ (x4 : Int32), ∀ (x5 : Int32), ∀ (x6 : Int32), ∀ (x7 : Int32), ∀ σ : Mem, p_X11_capes_B31 k31 k108 x1 x2 x3 x4 x5 x6 x7 σ = some res → V G 6 8 X ((some (.int res.1)), res.2) σ [(0, .ref (ga G 0)), (1, .int x1), (3, .int x3), (4, .int x4), (5, .int x5), (6, .int x6), (7, .int x7)] [] 31 := by
    intro k31 k108 hk31 hk108 x4 x5 x6 x7 σ h
    unfold p_X11_capes_B31 at h
    refine v_blk hC (is := [(.iload 7, 0), (.iload_n 1, 0)]) (pc' := 34) (ls' := [(0, .ref (ga G 0)), (1, .int x1), (3, .int x3), (4, .int x4), (5, .int x5), (6, .int x6), (7, .int x7)]) (st' := [.int x1, .int x7]) (by decide +kernel) rfl ?_
    refine v_icmp_ge hC (off := 74) (tgt := 108) (by decide +kernel) (by decide) h (fun hq h => ?_) (fun hq h => ?_)
    · refine v_sub [2, 4, 5] (ls' := [(3, .int x3), (5, .int x5), (6, .int x6)]) rfl ?_
      exact hk108 _ _ _ h
    · refine v_blk hC (is := [(.aload_n 0, 0)]) (pc' := 38) (ls' := [(0, .ref (ga G 0)), (1, .int x1), (3, .int x3), (4, .int x4), (5, .int x5), (6, .int x6), (7, .int x7)]) (st' := [.ref (ga G 0)]) (by decide +kernel) rfl ?_
      refine gX11_2 hC lfX11_19 (by decide +kernel) ?_
      refine v_blk hC (is := [(.aload_n 0, 0)]) (pc' := 42) (ls' := [(0, .ref (ga G 0)), (1, .int x1), (3, .int x3), (4, .int x4), (5, .int x5), (6, .int x6), (7, .int x7)]) (st' := [.ref (ga G 0), .ref (ga G 3)]) (by decide +kernel) rfl ?_
      refine gX11_0 hC lfX11_10 (by decide +kernel) ?_
      obtain ⟨v1, s2, e3, h⟩ := bndI h
      refine v_cVN (idx := 48) hC ⟨List.mem_of_getElem? (i := 19) (by decide +kernel), tiX3_becomes, tvX3_becomes, tnX3_becomes, tcX3_becomes, tmX3_becomes⟩ (isO_X3 cape3) rfl (c_X3_becomes cape3 cape1 e3) (by decide) (by decide) (by decide +kernel) (rest := []) rfl rfl (Nat.le_of_ble_eq_true rfl) rfl ?_
      refine v_blk hC (is := [(.aload_n 0, 0)]) (pc' := 49) (ls' := [(0, .ref (ga G 0)), (1, .int x1), (3, .int x3), (4, .int x4), (5, .int x5), (6, .int x6), (7, .int x7)]) (st' := [.ref (ga G 0)]) (by decide +kernel) rfl ?_
      refine gX11_2 hC lfX11_19 (by decide +kernel) ?_
      refine v_blk hC (is := [(.iload 4, 0)]) (pc' := 54) (ls' := [(0, .ref (ga G 0)), (1, .int x1), (3, .int x3), (4, .int x4), (5, .int x5), (6, .int x6), (7, .int x7)]) (st' := [.int x4, .ref (ga G 3)]) (by decide +kernel) rfl ?_
      obtain ⟨v4, s5, e6, h⟩ := bndI h
      refine v_cVN (idx := 245) hC ⟨List.mem_of_getElem? (i := 62) (by decide +kernel), tiX3_scatters, tvX3_scatters, tnX3_scatters, tcX3_scatters, tmX3_scatters⟩ (isO_X3 cape3) rfl (c_X3_scatters cape3 e6) (by decide) (by decide) (by decide +kernel) (rest := []) rfl rfl (Nat.le_of_ble_eq_true rfl) rfl ?_
      refine v_blk hC (is := [(.istore 4, 0), (.aload_n 0, 0)]) (pc' := 60) (ls' := [(4, .int v4), (0, .ref (ga G 0)), (1, .int x1), (3, .int x3), (5, .int x5), (6, .int x6), (7, .int x7)]) (st' := [.ref (ga G 0)]) (by decide +kernel) rfl ?_
      refine gX11_2 hC lfX11_19 (by decide +kernel) ?_
      refine v_blk hC (is := [(.iconst 5, (5 : Int32))]) (pc' := 64) (ls' := [(4, .int v4), (0, .ref (ga G 0)), (1, .int x1), (3, .int x3), (5, .int x5), (6, .int x6), (7, .int x7)]) (st' := [.int (5 : Int32), .ref (ga G 3)]) (by decide +kernel) rfl ?_
      obtain ⟨v7, s8, e9, h⟩ := bndI h
      refine v_cVN (idx := 200) hC ⟨List.mem_of_getElem? (i := 56) (by decide +kernel), tiX3_sails, tvX3_sails, tnX3_sails, tcX3_sails, tmX3_sails⟩ (isO_X3 cape3) rfl (c_X3_sails cape3 e9) (by decide) (by decide) (by decide +kernel) (rest := []) rfl rfl (Nat.le_of_ble_eq_true rfl) rfl ?_
      refine v_blk hC (is := [(.iload 5, 0), (.aload_n 0, 0)]) (pc' := 70) (ls' := [(4, .int v4), (0, .ref (ga G 0)), (1, .int x1), (3, .int x3), (5, .int x5), (6, .int x6), (7, .int x7)]) (st' := [.ref (ga G 0), .int x5]) (by decide +kernel) rfl ?_
      refine gX11_2 hC lfX11_19 (by decide +kernel) ?_
      obtain ⟨v10, s11, e12, h⟩ := bndI h
      refine v_cVN (idx := 204) hC ⟨List.mem_of_getElem? (i := 57) (by decide +kernel), tiX3_lostOnes, tvX3_lostOnes, tnX3_lostOnes, tcX3_lostOnes, tmX3_lostOnes⟩ (isO_X3 cape3) rfl (c_X3_lostOnes cape3 e12) (by decide) (by decide) (by decide +kernel) (rest := [.int x5]) rfl rfl (Nat.le_of_ble_eq_true rfl) rfl ?_
      refine v_blk hC (is := [(.aload_n 0, 0)]) (pc' := 77) (ls' := [(4, .int v4), (0, .ref (ga G 0)), (1, .int x1), (3, .int x3), (5, .int x5), (6, .int x6), (7, .int x7)]) (st' := [.ref (ga G 0), .int v10, .int x5]) (by decide +kernel) rfl ?_
      refine gX11_0 hC lfX11_10 (by decide +kernel) ?_
      obtain ⟨v13, s14, e15, h⟩ := bndI h
      refine v_cVN (idx := 204) hC ⟨List.mem_of_getElem? (i := 57) (by decide +kernel), tiX3_lostOnes, tvX3_lostOnes, tnX3_lostOnes, tcX3_lostOnes, tmX3_lostOnes⟩ (isO_X3 cape1) rfl (c_X3_lostOnes cape1 e15) (by decide) (by decide) (by decide +kernel) (rest := [.int v10, .int x5]) rfl rfl (Nat.le_of_ble_eq_true rfl) rfl ?_
      refine v_blk hC (is := [(.isub, 0), (.iadd, 0), (.istore 5, 0), (.iload 6, 0), (.aload_n 0, 0)]) (pc' := 90) (ls' := [(5, .int (x5 + (v10 - v13))), (4, .int v4), (0, .ref (ga G 0)), (1, .int x1), (3, .int x3), (6, .int x6), (7, .int x7)]) (st' := [.ref (ga G 0), .int x6]) (by decide +kernel) rfl ?_
      refine gX11_2 hC lfX11_19 (by decide +kernel) ?_
      obtain ⟨v16, s17, e18, h⟩ := bndI h
      refine v_cVN (idx := 248) hC ⟨List.mem_of_getElem? (i := 63) (by decide +kernel), tiX3_aboard, tvX3_aboard, tnX3_aboard, tcX3_aboard, tmX3_aboard⟩ (isO_X3 cape3) rfl (c_X3_aboard cape3 e18) (by decide) (by decide) (by decide +kernel) (rest := [.int x6]) rfl rfl (Nat.le_of_ble_eq_true rfl) rfl ?_
      obtain ⟨v19, s20, e21, h⟩ := bndI h
      refine v_cS (idx := 157) hC ⟨tt_at 626 (by decide +kernel) rfl, tsJ6_bitCount_0f7a4, tnJ6_bitCount_0f7a4, tcJ6_bitCount_0f7a4, tmJ6_bitCount_0f7a4⟩ (c_J6_bitCount_0f7a4 e21) (by decide) (by decide) (by decide +kernel) (rest := [.int x6]) rfl rfl (Nat.le_of_ble_eq_true rfl) rfl ?_
      refine v_blk hC (is := [(.iadd, 0), (.istore 6, 0), (.iinc 7 1, (1 : Int32))]) (pc' := 105) (ls' := [(7, .int (x7 + (1 : Int32))), (6, .int (x6 + v19)), (5, .int (x5 + (v10 - v13))), (4, .int v4), (0, .ref (ga G 0)), (1, .int x1), (3, .int x3)]) (st' := []) (by decide +kernel) rfl ?_
      refine v_goto hC (off := (-74)) (tgt := 31) (by decide +kernel) (by decide) ?_
      refine v_sub [4, 5, 6, 3, 2, 1, 0] (ls' := [(0, .ref (ga G 0)), (1, .int x1), (3, .int x3), (4, .int v4), (5, .int (x5 + (v10 - v13))), (6, .int (x6 + v19)), (7, .int (x7 + (1 : Int32)))]) rfl ?_
      exact hk31 _ _ _ _ _ h
  have hL31 : ∀ (k108 : Int32 → Int32 → Mem → Option (Int32 × Mem)), (∀ (x5 : Int32), ∀ (x6 : Int32), ∀ σ : Mem, k108 x5 x6 σ = some res → V G 6 8 X ((some (.int res.1)), res.2) σ [(3, .int x3), (5, .int x5), (6, .int x6)] [] 108) → ∀ f : Nat, ∀ (x4 : Int32), ∀ (x5 : Int32), ∀ (x6 : Int32), ∀ (x7 : Int32), ∀ σ : Mem, p_X11_capes_L31 k108 x1 x2 x3 f x4 x5 x6 x7 σ = some res → V G 6 8 X ((some (.int res.1)), res.2) σ [(0, .ref (ga G 0)), (1, .int x1), (3, .int x3), (4, .int x4), (5, .int x5), (6, .int x6), (7, .int x7)] [] 31 := by
    intro k108 hk108 f
    induction f with
    | zero => intro x4 x5 x6 x7 σ h; exact none_some h
    | succ f ih => intro x4 x5 x6 x7 σ h; exact hB31 (p_X11_capes_L31 k108 x1 x2 x3 f) k108 ih hk108 x4 x5 x6 x7 σ h
  unfold p_X11_capes at h
  show V G 6 8 X ((some (.int res.1)), res.2) σ [(0, .ref (ga G 0)), (1, .int x1), (2, .int x2), (3, .int x3)] [] 0
  refine v_blk hC (is := [(.iload_n 1, 0), (.iconst 1, (1 : Int32)), (.bipush 20, (20 : Int32))]) (pc' := 4) (ls' := [(0, .ref (ga G 0)), (1, .int x1), (2, .int x2), (3, .int x3)]) (st' := [.int (20 : Int32), .int (1 : Int32), .int x1]) (by decide +kernel) rfl ?_
  obtain ⟨v22, s23, e24, h⟩ := bndI h
  refine v_cS (idx := 168) hC ⟨tt_at 300 (by decide +kernel) rfl, tsX11_within, tnX11_within, tcX11_within, tmX11_within⟩ (c_X11_within e24) (by decide) (by decide) (by decide +kernel) (rest := []) rfl rfl (Nat.le_of_ble_eq_true rfl) rfl ?_
  refine v_if_eq hC (off := 10) (tgt := 17) (by decide +kernel) (by decide) h (fun hq h => ?_) (fun hq h => ?_)
  · refine v_blk hC (is := [(.iconst (-1), (-1 : Int32))]) (pc' := 18) (ls' := [(0, .ref (ga G 0)), (1, .int x1), (2, .int x2), (3, .int x3)]) (st' := [.int (-1 : Int32)]) (by decide +kernel) rfl ?_
    exact v_iret hC h (by decide +kernel)
  · refine v_blk hC (is := [(.iload_n 3, 0)]) (pc' := 11) (ls' := [(0, .ref (ga G 0)), (1, .int x1), (2, .int x2), (3, .int x3)]) (st' := [.int x3]) (by decide +kernel) rfl ?_
    obtain ⟨v25, s26, e27, h⟩ := bndI h
    refine v_cS (idx := 151) hC ⟨tt_at 613 (by decide +kernel) rfl, tsX11_isPart, tnX11_isPart, tcX11_isPart, tmX11_isPart⟩ (c_X11_isPart e27) (by decide) (by decide) (by decide +kernel) (rest := []) rfl rfl (Nat.le_of_ble_eq_true rfl) rfl ?_
    refine v_if_ne hC (off := 5) (tgt := 19) (by decide +kernel) (by decide) h (fun hq h => ?_) (fun hq h => ?_)
    · refine v_blk hC (is := [(.iload_n 2, 0), (.istore 4, 0), (.iconst 0, (0 : Int32)), (.istore 5, 0), (.iconst 0, (0 : Int32)), (.istore 6, 0), (.iconst 0, (0 : Int32)), (.istore 7, 0)]) (pc' := 31) (ls' := [(7, .int (0 : Int32)), (6, .int (0 : Int32)), (5, .int (0 : Int32)), (4, .int x2), (0, .ref (ga G 0)), (1, .int x1), (2, .int x2), (3, .int x3)]) (st' := []) (by decide +kernel) rfl ?_
      refine v_sub [4, 5, 7, 3, 2, 1, 0] (ls' := [(0, .ref (ga G 0)), (1, .int x1), (3, .int x3), (4, .int x2), (5, .int (0 : Int32)), (6, .int (0 : Int32)), (7, .int (0 : Int32))]) rfl ?_
      exact (hL31 _ (fun x5 x6  m28 h => by
          refine v_blk hC (is := [(.iload_n 3, 0)]) (pc' := 109) (ls' := [(3, .int x3), (5, .int x5), (6, .int x6)]) (st' := [.int x3]) (by decide +kernel) rfl ?_
          refine v_if_ne hC (off := 8) (tgt := 117) (by decide +kernel) (by decide) h (fun hq h => ?_) (fun hq h => ?_)
          · refine v_blk hC (is := [(.iload 6, 0)]) (pc' := 119) (ls' := [(3, .int x3), (5, .int x5), (6, .int x6)]) (st' := [.int x6]) (by decide +kernel) rfl ?_
            exact v_iret hC h (by decide +kernel)
          · refine v_blk hC (is := [(.iload 5, 0)]) (pc' := 114) (ls' := [(3, .int x3), (5, .int x5), (6, .int x6)]) (st' := [.int x5]) (by decide +kernel) rfl ?_
            refine v_goto hC (off := 5) (tgt := 119) (by decide +kernel) (by decide) ?_
            exact v_iret hC h (by decide +kernel)) 1000) _ _ _ _ _ h
    · refine v_blk hC (is := [(.iconst (-1), (-1 : Int32))]) (pc' := 18) (ls' := [(0, .ref (ga G 0)), (1, .int x1), (2, .int x2), (3, .int x3)]) (st' := [.int (-1 : Int32)]) (by decide +kernel) rfl ?_
      exact v_iret hC h (by decide +kernel)

def p_X11_image  (σ : Mem) : Option (Int32 × Mem) := (bnd (p_X3_becomes 2 1 σ) fun (v1 : Unit) s2 => (wr s2 0 5 (1 : Int32) fun s4 => (lt (s4 1 9) fun v5 => some (v5, s4))))
set_option maxHeartbeats 4000000 in
set_option maxRecDepth 100000 in
theorem c_X11_image {G : Gl}  {σ : Mem} {res : Int32 × Mem}  (h : p_X11_image  σ = some res) : MetX G yX11_image cX11_image 1 (some .int) 2 [.ref (ga G 0)] σ (some (.int res.1)) res.2 := by
  refine met_V (by decide +kernel) (Nat.le_of_ble_eq_true rfl) (fun X hC => ?_)
  have hC : Ok G 2 1 X cX11_image RX11 (some .int) := hC
  unfold p_X11_image at h
  show V G 2 1 X ((some (.int res.1)), res.2) σ [(0, .ref (ga G 0))] [] 0
  refine v_blk hC (is := [(.aload_n 0, 0)]) (pc' := 1) (ls' := [(0, .ref (ga G 0))]) (st' := [.ref (ga G 0)]) (by decide +kernel) rfl ?_
  refine gX11_1 hC lfX11_16 (by decide +kernel) ?_
  refine v_blk hC (is := [(.aload_n 0, 0)]) (pc' := 5) (ls' := [(0, .ref (ga G 0))]) (st' := [.ref (ga G 0), .ref (ga G 2)]) (by decide +kernel) rfl ?_
  refine gX11_0 hC lfX11_10 (by decide +kernel) ?_
  obtain ⟨v1, s2, e3, h⟩ := bndI h
  refine v_cVN (idx := 48) hC ⟨List.mem_of_getElem? (i := 19) (by decide +kernel), tiX3_becomes, tvX3_becomes, tnX3_becomes, tcX3_becomes, tmX3_becomes⟩ (isO_X3 cape2) rfl (c_X3_becomes cape2 cape1 e3) (by decide) (by decide) (by decide +kernel) (rest := []) rfl rfl (Nat.le_of_ble_eq_true rfl) rfl ?_
  refine v_blk hC (is := [(.aload_n 0, 0), (.iconst 1, (1 : Int32))]) (pc' := 13) (ls' := [(0, .ref (ga G 0))]) (st' := [.int (1 : Int32), .ref (ga G 0)]) (by decide +kernel) rfl ?_
  refine pX11_5 hC (by decide) lfX11_251 (by decide +kernel) h (fun s4 h => ?_)
  refine v_blk hC (is := [(.aload_n 0, 0)]) (pc' := 17) (ls' := [(0, .ref (ga G 0))]) (st' := [.ref (ga G 0)]) (by decide +kernel) rfl ?_
  refine gX11_0 hC lfX11_10 (by decide +kernel) ?_
  refine gX3_9 hC cape1 lfX11_89 (by decide +kernel) h (fun v5 h => ?_)
  exact v_iret hC h (by decide +kernel)

def p_X11_restore  (σ : Mem) : Option (Int32 × Mem) := (lt (σ 0 5) fun v1 => (if v1 = 0 then some ((-3 : Int32), σ) else (bnd (p_X3_becomes 1 2 σ) fun (v2 : Unit) s3 => (lt (s3 1 9) fun v5 => some (v5, s3)))))
set_option maxHeartbeats 4000000 in
set_option maxRecDepth 100000 in
theorem c_X11_restore {G : Gl}  {σ : Mem} {res : Int32 × Mem}  (h : p_X11_restore  σ = some res) : MetX G yX11_restore cX11_restore 1 (some .int) 2 [.ref (ga G 0)] σ (some (.int res.1)) res.2 := by
  refine met_V (by decide +kernel) (Nat.le_of_ble_eq_true rfl) (fun X hC => ?_)
  have hC : Ok G 2 1 X cX11_restore RX11 (some .int) := hC
  unfold p_X11_restore at h
  show V G 2 1 X ((some (.int res.1)), res.2) σ [(0, .ref (ga G 0))] [] 0
  refine v_blk hC (is := [(.aload_n 0, 0)]) (pc' := 1) (ls' := [(0, .ref (ga G 0))]) (st' := [.ref (ga G 0)]) (by decide +kernel) rfl ?_
  refine gX11_5 hC lfX11_251 (by decide +kernel) h (fun v1 h => ?_)
  refine v_if_ne hC (off := 6) (tgt := 10) (by decide +kernel) (by decide) h (fun hq h => ?_) (fun hq h => ?_)
  · refine v_blk hC (is := [(.aload_n 0, 0)]) (pc' := 11) (ls' := [(0, .ref (ga G 0))]) (st' := [.ref (ga G 0)]) (by decide +kernel) rfl ?_
    refine gX11_0 hC lfX11_10 (by decide +kernel) ?_
    refine v_blk hC (is := [(.aload_n 0, 0)]) (pc' := 15) (ls' := [(0, .ref (ga G 0))]) (st' := [.ref (ga G 0), .ref (ga G 1)]) (by decide +kernel) rfl ?_
    refine gX11_1 hC lfX11_16 (by decide +kernel) ?_
    obtain ⟨v2, s3, e4, h⟩ := bndI h
    refine v_cVN (idx := 48) hC ⟨List.mem_of_getElem? (i := 19) (by decide +kernel), tiX3_becomes, tvX3_becomes, tnX3_becomes, tcX3_becomes, tmX3_becomes⟩ (isO_X3 cape1) rfl (c_X3_becomes cape1 cape2 e4) (by decide) (by decide) (by decide +kernel) (rest := []) rfl rfl (Nat.le_of_ble_eq_true rfl) rfl ?_
    refine v_blk hC (is := [(.aload_n 0, 0)]) (pc' := 22) (ls' := [(0, .ref (ga G 0))]) (st' := [.ref (ga G 0)]) (by decide +kernel) rfl ?_
    refine gX11_0 hC lfX11_10 (by decide +kernel) ?_
    refine gX3_9 hC cape1 lfX11_89 (by decide +kernel) h (fun v5 h => ?_)
    exact v_iret hC h (by decide +kernel)
  · refine v_blk hC (is := [(.bipush (-3), (-3 : Int32))]) (pc' := 9) (ls' := [(0, .ref (ga G 0))]) (st' := [.int (-3 : Int32)]) (by decide +kernel) rfl ?_
    exact v_iret hC h (by decide +kernel)

def p_X11_count (x1 : Int32) (σ : Mem) : Option (Int32 × Mem) := (if x1 = (0 : Int32) then (lt (σ 1 5) fun v2 => some (v2, σ)) else (if x1 = (1 : Int32) then (lt (σ 1 7) fun v4 => some (v4, σ)) else (if x1 = (2 : Int32) then (lt (σ 1 8) fun v6 => some (v6, σ)) else (if x1 = (3 : Int32) then (lt (σ 1 9) fun v8 => some (v8, σ)) else (if x1 = (4 : Int32) then (lt (σ 1 6) fun v10 => some (v10, σ)) else (if x1 = (5 : Int32) then (bnd (p_X3_aboard 1 σ) fun v12 s13 => some (v12, s13)) else (if x1 = (6 : Int32) then (bnd (p_X3_savings 1 σ) fun v16 s17 => some (v16, s17)) else some ((-1 : Int32), σ))))))))
set_option maxHeartbeats 4000000 in
set_option maxRecDepth 100000 in
theorem c_X11_count {G : Gl} {x1 : Int32} {σ : Mem} {res : Int32 × Mem}  (h : p_X11_count x1 σ = some res) : MetX G yX11_count cX11_count 2 (some .int) 4 [.ref (ga G 0), .int x1] σ (some (.int res.1)) res.2 := by
  refine met_V (by decide +kernel) (Nat.le_of_ble_eq_true rfl) (fun X hC => ?_)
  have hC : Ok G 4 2 X cX11_count RX11 (some .int) := hC
  unfold p_X11_count at h
  show V G 4 2 X ((some (.int res.1)), res.2) σ [(0, .ref (ga G 0)), (1, .int x1)] [] 0
  refine v_blk hC (is := [(.iload_n 1, 0)]) (pc' := 1) (ls' := [(0, .ref (ga G 0)), (1, .int x1)]) (st' := [.int x1]) (by decide +kernel) rfl ?_
  by_cases q1 : x1 = (0 : Int32)
  · replace h := br_pos h q1
    refine v_tin hC (dflt := 99) (lo := 0) (hi := 6) (offs := #[43, 51, 59, 67, 75, 83, 91]) (len := 43) (off := 43) (tgt := 44) (by decide +kernel) (by rw [q1]; decide) (by rw [q1]; decide) (by rw [q1]; decide) (by decide) ?_
    refine v_blk hC (is := [(.aload_n 0, 0)]) (pc' := 45) (ls' := [(0, .ref (ga G 0)), (1, .int x1)]) (st' := [.ref (ga G 0)]) (by decide +kernel) rfl ?_
    refine gX11_0 hC lfX11_10 (by decide +kernel) ?_
    refine gX3_5 hC cape1 lfX11_187 (by decide +kernel) h (fun v2 h => ?_)
    exact v_iret hC h (by decide +kernel)
  replace h := br_neg h q1
  by_cases q3 : x1 = (1 : Int32)
  · replace h := br_pos h q3
    refine v_tin hC (dflt := 99) (lo := 0) (hi := 6) (offs := #[43, 51, 59, 67, 75, 83, 91]) (len := 43) (off := 51) (tgt := 52) (by decide +kernel) (by rw [q3]; decide) (by rw [q3]; decide) (by rw [q3]; decide) (by decide) ?_
    refine v_blk hC (is := [(.aload_n 0, 0)]) (pc' := 53) (ls' := [(0, .ref (ga G 0)), (1, .int x1)]) (st' := [.ref (ga G 0)]) (by decide +kernel) rfl ?_
    refine gX11_0 hC lfX11_10 (by decide +kernel) ?_
    refine gX3_7 hC cape1 lfX11_128 (by decide +kernel) h (fun v4 h => ?_)
    exact v_iret hC h (by decide +kernel)
  replace h := br_neg h q3
  by_cases q5 : x1 = (2 : Int32)
  · replace h := br_pos h q5
    refine v_tin hC (dflt := 99) (lo := 0) (hi := 6) (offs := #[43, 51, 59, 67, 75, 83, 91]) (len := 43) (off := 59) (tgt := 60) (by decide +kernel) (by rw [q5]; decide) (by rw [q5]; decide) (by rw [q5]; decide) (by decide) ?_
    refine v_blk hC (is := [(.aload_n 0, 0)]) (pc' := 61) (ls' := [(0, .ref (ga G 0)), (1, .int x1)]) (st' := [.ref (ga G 0)]) (by decide +kernel) rfl ?_
    refine gX11_0 hC lfX11_10 (by decide +kernel) ?_
    refine gX3_8 hC cape1 lfX11_213 (by decide +kernel) h (fun v6 h => ?_)
    exact v_iret hC h (by decide +kernel)
  replace h := br_neg h q5
  by_cases q7 : x1 = (3 : Int32)
  · replace h := br_pos h q7
    refine v_tin hC (dflt := 99) (lo := 0) (hi := 6) (offs := #[43, 51, 59, 67, 75, 83, 91]) (len := 43) (off := 67) (tgt := 68) (by decide +kernel) (by rw [q7]; decide) (by rw [q7]; decide) (by rw [q7]; decide) (by decide) ?_
    refine v_blk hC (is := [(.aload_n 0, 0)]) (pc' := 69) (ls' := [(0, .ref (ga G 0)), (1, .int x1)]) (st' := [.ref (ga G 0)]) (by decide +kernel) rfl ?_
    refine gX11_0 hC lfX11_10 (by decide +kernel) ?_
    refine gX3_9 hC cape1 lfX11_89 (by decide +kernel) h (fun v8 h => ?_)
    exact v_iret hC h (by decide +kernel)
  replace h := br_neg h q7
  by_cases q9 : x1 = (4 : Int32)
  · replace h := br_pos h q9
    refine v_tin hC (dflt := 99) (lo := 0) (hi := 6) (offs := #[43, 51, 59, 67, 75, 83, 91]) (len := 43) (off := 75) (tgt := 76) (by decide +kernel) (by rw [q9]; decide) (by rw [q9]; decide) (by rw [q9]; decide) (by decide) ?_
    refine v_blk hC (is := [(.aload_n 0, 0)]) (pc' := 77) (ls' := [(0, .ref (ga G 0)), (1, .int x1)]) (st' := [.ref (ga G 0)]) (by decide +kernel) rfl ?_
    refine gX11_0 hC lfX11_10 (by decide +kernel) ?_
    refine gX3_6 hC cape1 lfX11_216 (by decide +kernel) h (fun v10 h => ?_)
    exact v_iret hC h (by decide +kernel)
  replace h := br_neg h q9
  by_cases q11 : x1 = (5 : Int32)
  · replace h := br_pos h q11
    refine v_tin hC (dflt := 99) (lo := 0) (hi := 6) (offs := #[43, 51, 59, 67, 75, 83, 91]) (len := 43) (off := 83) (tgt := 84) (by decide +kernel) (by rw [q11]; decide) (by rw [q11]; decide) (by rw [q11]; decide) (by decide) ?_
    refine v_blk hC (is := [(.aload_n 0, 0)]) (pc' := 85) (ls' := [(0, .ref (ga G 0)), (1, .int x1)]) (st' := [.ref (ga G 0)]) (by decide +kernel) rfl ?_
    refine gX11_0 hC lfX11_10 (by decide +kernel) ?_
    obtain ⟨v12, s13, e14, h⟩ := bndI h
    refine v_cVN (idx := 248) hC ⟨List.mem_of_getElem? (i := 63) (by decide +kernel), tiX3_aboard, tvX3_aboard, tnX3_aboard, tcX3_aboard, tmX3_aboard⟩ (isO_X3 cape1) rfl (c_X3_aboard cape1 e14) (by decide) (by decide) (by decide +kernel) (rest := []) rfl rfl (Nat.le_of_ble_eq_true rfl) rfl ?_
    exact v_iret hC h (by decide +kernel)
  replace h := br_neg h q11
  by_cases q15 : x1 = (6 : Int32)
  · replace h := br_pos h q15
    refine v_tin hC (dflt := 99) (lo := 0) (hi := 6) (offs := #[43, 51, 59, 67, 75, 83, 91]) (len := 43) (off := 91) (tgt := 92) (by decide +kernel) (by rw [q15]; decide) (by rw [q15]; decide) (by rw [q15]; decide) (by decide) ?_
    refine v_blk hC (is := [(.aload_n 0, 0)]) (pc' := 93) (ls' := [(0, .ref (ga G 0)), (1, .int x1)]) (st' := [.ref (ga G 0)]) (by decide +kernel) rfl ?_
    refine gX11_0 hC lfX11_10 (by decide +kernel) ?_
    obtain ⟨v16, s17, e18, h⟩ := bndI h
    refine v_cVN (idx := 255) hC ⟨List.mem_of_getElem? (i := 64) (by decide +kernel), tiX3_savings, tvX3_savings, tnX3_savings, tcX3_savings, tmX3_savings⟩ (isO_X3 cape1) rfl (c_X3_savings cape1 e18) (by decide) (by decide) (by decide +kernel) (rest := []) rfl rfl (Nat.le_of_ble_eq_true rfl) rfl ?_
    exact v_iret hC h (by decide +kernel)
  replace h := br_neg h q15
  refine v_tout hC (dflt := 99) (lo := 0) (hi := 6) (offs := #[43, 51, 59, 67, 75, 83, 91]) (len := 43) (tgt := 100) (by decide +kernel) (by have wq1 := lv_neT q1 (a := 0) (by decide); have wq3 := lv_neT q3 (a := 1) (by decide); have wq5 := lv_neT q5 (a := 2) (by decide); have wq7 := lv_neT q7 (a := 3) (by decide); have wq9 := lv_neT q9 (a := 4) (by decide); have wq11 := lv_neT q11 (a := 5) (by decide); have wq15 := lv_neT q15 (a := 6) (by decide); omega) (by decide) ?_
  refine v_blk hC (is := [(.iconst (-1), (-1 : Int32))]) (pc' := 101) (ls' := [(0, .ref (ga G 0)), (1, .int x1)]) (st' := [.int (-1 : Int32)]) (by decide +kernel) rfl ?_
  exact v_iret hC h (by decide +kernel)

def p_X11_keep (x1 : Int32) (x2 : Int32) (x3 : Int32) (x4 : Int32) (σ : Mem) : Option (Int32 × Mem) := (bnd (p_X11_isShelf x1 σ) fun v1 s2 => (if v1 = 0 then some ((-1 : Int32), s2) else (bnd (p_X11_within x2 (0 : Int32) (1 : Int32) s2) fun v4 s5 => (if v4 = 0 then some ((-1 : Int32), s5) else (if x2 = 0 then (if x1 < 0 ∨ 8 ≤ (x1).toNatClampNeg then none else (wr s5 (6 + (x1).toNatClampNeg) 1 (0 : Int32) fun s20 => some ((0 : Int32), s20))) else (bnd (p_X11_isKind x3 s5) fun v7 s8 => (if v7 = 0 then some ((-1 : Int32), s8) else (bnd (p_X11_within x4 (0 : Int32) (9 : Int32) s8) fun v10 s11 => (if v10 = 0 then some ((-1 : Int32), s11) else (if x1 < 0 ∨ 8 ≤ (x1).toNatClampNeg then none else (wr s11 (6 + (x1).toNatClampNeg) 1 (1 : Int32) fun s14 => (if x1 < 0 ∨ 8 ≤ (x1).toNatClampNeg then none else (wr s14 (6 + (x1).toNatClampNeg) 2 x3 fun s16 => (if x1 < 0 ∨ 8 ≤ (x1).toNatClampNeg then none else (wr s16 (6 + (x1).toNatClampNeg) 3 x4 fun s18 => some ((0 : Int32), s18))))))))))))))))
set_option maxHeartbeats 4000000 in
set_option maxRecDepth 100000 in
theorem c_X11_keep {G : Gl} {x1 : Int32} {x2 : Int32} {x3 : Int32} {x4 : Int32} {σ : Mem} {res : Int32 × Mem}  (h : p_X11_keep x1 x2 x3 x4 σ = some res) : MetX G yX11_keep cX11_keep 5 (some .int) 3 [.ref (ga G 0), .int x1, .int x2, .int x3, .int x4] σ (some (.int res.1)) res.2 := by
  refine met_V (by decide +kernel) (Nat.le_of_ble_eq_true rfl) (fun X hC => ?_)
  have hC : Ok G 3 5 X cX11_keep RX11 (some .int) := hC
  unfold p_X11_keep at h
  show V G 3 5 X ((some (.int res.1)), res.2) σ [(0, .ref (ga G 0)), (1, .int x1), (2, .int x2), (3, .int x3), (4, .int x4)] [] 0
  refine v_blk hC (is := [(.iload_n 1, 0)]) (pc' := 1) (ls' := [(0, .ref (ga G 0)), (1, .int x1), (2, .int x2), (3, .int x3), (4, .int x4)]) (st' := [.int x1]) (by decide +kernel) rfl ?_
  obtain ⟨v1, s2, e3, h⟩ := bndI h
  refine v_cS (idx := 258) hC ⟨tt_at 297 (by decide +kernel) rfl, tsX11_isShelf, tnX11_isShelf, tcX11_isShelf, tmX11_isShelf⟩ (c_X11_isShelf e3) (by decide) (by decide) (by decide +kernel) (rest := []) rfl rfl (Nat.le_of_ble_eq_true rfl) rfl ?_
  refine v_if_eq hC (off := 12) (tgt := 16) (by decide +kernel) (by decide) h (fun hq h => ?_) (fun hq h => ?_)
  · refine v_blk hC (is := [(.iconst (-1), (-1 : Int32))]) (pc' := 17) (ls' := [(0, .ref (ga G 0)), (1, .int x1), (2, .int x2), (3, .int x3), (4, .int x4)]) (st' := [.int (-1 : Int32)]) (by decide +kernel) rfl ?_
    exact v_iret hC h (by decide +kernel)
  · refine v_blk hC (is := [(.iload_n 2, 0), (.iconst 0, (0 : Int32)), (.iconst 1, (1 : Int32))]) (pc' := 10) (ls' := [(0, .ref (ga G 0)), (1, .int x1), (2, .int x2), (3, .int x3), (4, .int x4)]) (st' := [.int (1 : Int32), .int (0 : Int32), .int x2]) (by decide +kernel) rfl ?_
    obtain ⟨v4, s5, e6, h⟩ := bndI h
    refine v_cS (idx := 168) hC ⟨tt_at 300 (by decide +kernel) rfl, tsX11_within, tnX11_within, tcX11_within, tmX11_within⟩ (c_X11_within e6) (by decide) (by decide) (by decide +kernel) (rest := []) rfl rfl (Nat.le_of_ble_eq_true rfl) rfl ?_
    refine v_if_ne hC (off := 5) (tgt := 18) (by decide +kernel) (by decide) h (fun hq h => ?_) (fun hq h => ?_)
    · refine v_blk hC (is := [(.iload_n 2, 0)]) (pc' := 19) (ls' := [(0, .ref (ga G 0)), (1, .int x1), (2, .int x2), (3, .int x3), (4, .int x4)]) (st' := [.int x2]) (by decide +kernel) rfl ?_
      refine v_if_ne hC (off := 15) (tgt := 34) (by decide +kernel) (by decide) h (fun hq h => ?_) (fun hq h => ?_)
      · refine v_blk hC (is := [(.iload_n 3, 0)]) (pc' := 35) (ls' := [(0, .ref (ga G 0)), (1, .int x1), (2, .int x2), (3, .int x3), (4, .int x4)]) (st' := [.int x3]) (by decide +kernel) rfl ?_
        obtain ⟨v7, s8, e9, h⟩ := bndI h
        refine v_cS (idx := 264) hC ⟨tt_at 842 (by decide +kernel) rfl, tsX11_isKind, tnX11_isKind, tcX11_isKind, tmX11_isKind⟩ (c_X11_isKind e9) (by decide) (by decide) (by decide +kernel) (rest := []) rfl rfl (Nat.le_of_ble_eq_true rfl) rfl ?_
        refine v_if_eq hC (off := 14) (tgt := 52) (by decide +kernel) (by decide) h (fun hq h => ?_) (fun hq h => ?_)
        · refine v_blk hC (is := [(.iconst (-1), (-1 : Int32))]) (pc' := 53) (ls' := [(0, .ref (ga G 0)), (1, .int x1), (2, .int x2), (3, .int x3), (4, .int x4)]) (st' := [.int (-1 : Int32)]) (by decide +kernel) rfl ?_
          exact v_iret hC h (by decide +kernel)
        · refine v_blk hC (is := [(.iload 4, 0), (.iconst 0, (0 : Int32)), (.bipush 9, (9 : Int32))]) (pc' := 46) (ls' := [(0, .ref (ga G 0)), (1, .int x1), (2, .int x2), (3, .int x3), (4, .int x4)]) (st' := [.int (9 : Int32), .int (0 : Int32), .int x4]) (by decide +kernel) rfl ?_
          obtain ⟨v10, s11, e12, h⟩ := bndI h
          refine v_cS (idx := 168) hC ⟨tt_at 300 (by decide +kernel) rfl, tsX11_within, tnX11_within, tcX11_within, tmX11_within⟩ (c_X11_within e12) (by decide) (by decide) (by decide +kernel) (rest := []) rfl rfl (Nat.le_of_ble_eq_true rfl) rfl ?_
          refine v_if_ne hC (off := 5) (tgt := 54) (by decide +kernel) (by decide) h (fun hq h => ?_) (fun hq h => ?_)
          · refine v_blk hC (is := [(.aload_n 0, 0)]) (pc' := 55) (ls' := [(0, .ref (ga G 0)), (1, .int x1), (2, .int x2), (3, .int x3), (4, .int x4)]) (st' := [.ref (ga G 0)]) (by decide +kernel) rfl ?_
            refine gX11_4 hC lfX11_31 (by decide +kernel) ?_
            refine v_blk hC (is := [(.iload_n 1, 0)]) (pc' := 59) (ls' := [(0, .ref (ga G 0)), (1, .int x1), (2, .int x2), (3, .int x3), (4, .int x4)]) (st' := [.int x1, .ref (ga G 5)]) (by decide +kernel) rfl ?_
            refine v_aald hC (t0 := 2) (by decide) enr_shelves rfl (by decide +kernel) h (fun hi13 h => ?_)
            refine v_blk hC (is := [(.iconst 1, (1 : Int32))]) (pc' := 61) (ls' := [(0, .ref (ga G 0)), (1, .int x1), (2, .int x2), (3, .int x3), (4, .int x4)]) (st' := [.int (1 : Int32), .ref (ga G (6 + (x1).toNatClampNeg))]) (by decide +kernel) rfl ?_
            refine pX8_1 hC (shelf_at hi13) lfX11_261 (by decide +kernel) h (fun s14 h => ?_)
            refine v_blk hC (is := [(.aload_n 0, 0)]) (pc' := 65) (ls' := [(0, .ref (ga G 0)), (1, .int x1), (2, .int x2), (3, .int x3), (4, .int x4)]) (st' := [.ref (ga G 0)]) (by decide +kernel) rfl ?_
            refine gX11_4 hC lfX11_31 (by decide +kernel) ?_
            refine v_blk hC (is := [(.iload_n 1, 0)]) (pc' := 69) (ls' := [(0, .ref (ga G 0)), (1, .int x1), (2, .int x2), (3, .int x3), (4, .int x4)]) (st' := [.int x1, .ref (ga G 5)]) (by decide +kernel) rfl ?_
            refine v_aald hC (t0 := 2) (by decide) enr_shelves rfl (by decide +kernel) h (fun hi15 h => ?_)
            refine v_blk hC (is := [(.iload_n 3, 0)]) (pc' := 71) (ls' := [(0, .ref (ga G 0)), (1, .int x1), (2, .int x2), (3, .int x3), (4, .int x4)]) (st' := [.int x3, .ref (ga G (6 + (x1).toNatClampNeg))]) (by decide +kernel) rfl ?_
            refine pX8_2 hC (shelf_at hi15) lfX11_108 (by decide +kernel) h (fun s16 h => ?_)
            refine v_blk hC (is := [(.aload_n 0, 0)]) (pc' := 75) (ls' := [(0, .ref (ga G 0)), (1, .int x1), (2, .int x2), (3, .int x3), (4, .int x4)]) (st' := [.ref (ga G 0)]) (by decide +kernel) rfl ?_
            refine gX11_4 hC lfX11_31 (by decide +kernel) ?_
            refine v_blk hC (is := [(.iload_n 1, 0)]) (pc' := 79) (ls' := [(0, .ref (ga G 0)), (1, .int x1), (2, .int x2), (3, .int x3), (4, .int x4)]) (st' := [.int x1, .ref (ga G 5)]) (by decide +kernel) rfl ?_
            refine v_aald hC (t0 := 2) (by decide) enr_shelves rfl (by decide +kernel) h (fun hi17 h => ?_)
            refine v_blk hC (is := [(.iload 4, 0)]) (pc' := 82) (ls' := [(0, .ref (ga G 0)), (1, .int x1), (2, .int x2), (3, .int x3), (4, .int x4)]) (st' := [.int x4, .ref (ga G (6 + (x1).toNatClampNeg))]) (by decide +kernel) rfl ?_
            refine pX8_3 hC (shelf_at hi17) lfX11_110 (by decide +kernel) h (fun s18 h => ?_)
            refine v_blk hC (is := [(.iconst 0, (0 : Int32))]) (pc' := 86) (ls' := [(0, .ref (ga G 0)), (1, .int x1), (2, .int x2), (3, .int x3), (4, .int x4)]) (st' := [.int (0 : Int32)]) (by decide +kernel) rfl ?_
            exact v_iret hC h (by decide +kernel)
          · refine v_blk hC (is := [(.iconst (-1), (-1 : Int32))]) (pc' := 53) (ls' := [(0, .ref (ga G 0)), (1, .int x1), (2, .int x2), (3, .int x3), (4, .int x4)]) (st' := [.int (-1 : Int32)]) (by decide +kernel) rfl ?_
            exact v_iret hC h (by decide +kernel)
      · refine v_blk hC (is := [(.aload_n 0, 0)]) (pc' := 23) (ls' := [(0, .ref (ga G 0)), (1, .int x1), (2, .int x2), (3, .int x3), (4, .int x4)]) (st' := [.ref (ga G 0)]) (by decide +kernel) rfl ?_
        refine gX11_4 hC lfX11_31 (by decide +kernel) ?_
        refine v_blk hC (is := [(.iload_n 1, 0)]) (pc' := 27) (ls' := [(0, .ref (ga G 0)), (1, .int x1), (2, .int x2), (3, .int x3), (4, .int x4)]) (st' := [.int x1, .ref (ga G 5)]) (by decide +kernel) rfl ?_
        refine v_aald hC (t0 := 2) (by decide) enr_shelves rfl (by decide +kernel) h (fun hi19 h => ?_)
        refine v_blk hC (is := [(.iconst 0, (0 : Int32))]) (pc' := 29) (ls' := [(0, .ref (ga G 0)), (1, .int x1), (2, .int x2), (3, .int x3), (4, .int x4)]) (st' := [.int (0 : Int32), .ref (ga G (6 + (x1).toNatClampNeg))]) (by decide +kernel) rfl ?_
        refine pX8_1 hC (shelf_at hi19) lfX11_261 (by decide +kernel) h (fun s20 h => ?_)
        refine v_blk hC (is := [(.iconst 0, (0 : Int32))]) (pc' := 33) (ls' := [(0, .ref (ga G 0)), (1, .int x1), (2, .int x2), (3, .int x3), (4, .int x4)]) (st' := [.int (0 : Int32)]) (by decide +kernel) rfl ?_
        exact v_iret hC h (by decide +kernel)
    · refine v_blk hC (is := [(.iconst (-1), (-1 : Int32))]) (pc' := 17) (ls' := [(0, .ref (ga G 0)), (1, .int x1), (2, .int x2), (3, .int x3), (4, .int x4)]) (st' := [.int (-1 : Int32)]) (by decide +kernel) rfl ?_
      exact v_iret hC h (by decide +kernel)

def p_X11_row (x1 : Int32) (x2 : Int32) (x3 : Int32) (σ : Mem) : Option (Int32 × Mem) := (bnd (p_X11_isShelf x1 σ) fun v1 s2 => (if v1 = 0 then some ((-1 : Int32), s2) else (bnd (p_X11_within x2 (0 : Int32) (2 : Int32) s2) fun v4 s5 => (if v4 = 0 then some ((-1 : Int32), s5) else (if x3 ≤ (100 : Int32) then (if 0 ≤ x3 then (if x1 < 0 ∨ 8 ≤ (x1).toNatClampNeg then none else (bnd (p_X8_getsRow (6 + (x1).toNatClampNeg) x2 x3 s5) fun (v8 : Unit) s9 => some ((0 : Int32), s9))) else some ((-14 : Int32), s5)) else some ((-1 : Int32), s5))))))
set_option maxHeartbeats 4000000 in
set_option maxRecDepth 100000 in
theorem c_X11_row {G : Gl} {x1 : Int32} {x2 : Int32} {x3 : Int32} {σ : Mem} {res : Int32 × Mem}  (h : p_X11_row x1 x2 x3 σ = some res) : MetX G yX11_row cX11_row 4 (some .int) 3 [.ref (ga G 0), .int x1, .int x2, .int x3] σ (some (.int res.1)) res.2 := by
  refine met_V (by decide +kernel) (Nat.le_of_ble_eq_true rfl) (fun X hC => ?_)
  have hC : Ok G 3 4 X cX11_row RX11 (some .int) := hC
  unfold p_X11_row at h
  show V G 3 4 X ((some (.int res.1)), res.2) σ [(0, .ref (ga G 0)), (1, .int x1), (2, .int x2), (3, .int x3)] [] 0
  refine v_blk hC (is := [(.iload_n 1, 0)]) (pc' := 1) (ls' := [(0, .ref (ga G 0)), (1, .int x1), (2, .int x2), (3, .int x3)]) (st' := [.int x1]) (by decide +kernel) rfl ?_
  obtain ⟨v1, s2, e3, h⟩ := bndI h
  refine v_cS (idx := 258) hC ⟨tt_at 297 (by decide +kernel) rfl, tsX11_isShelf, tnX11_isShelf, tcX11_isShelf, tmX11_isShelf⟩ (c_X11_isShelf e3) (by decide) (by decide) (by decide +kernel) (rest := []) rfl rfl (Nat.le_of_ble_eq_true rfl) rfl ?_
  refine v_if_eq hC (off := 18) (tgt := 22) (by decide +kernel) (by decide) h (fun hq h => ?_) (fun hq h => ?_)
  · refine v_blk hC (is := [(.iconst (-1), (-1 : Int32))]) (pc' := 23) (ls' := [(0, .ref (ga G 0)), (1, .int x1), (2, .int x2), (3, .int x3)]) (st' := [.int (-1 : Int32)]) (by decide +kernel) rfl ?_
    exact v_iret hC h (by decide +kernel)
  · refine v_blk hC (is := [(.iload_n 2, 0), (.iconst 0, (0 : Int32)), (.iconst 2, (2 : Int32))]) (pc' := 10) (ls' := [(0, .ref (ga G 0)), (1, .int x1), (2, .int x2), (3, .int x3)]) (st' := [.int (2 : Int32), .int (0 : Int32), .int x2]) (by decide +kernel) rfl ?_
    obtain ⟨v4, s5, e6, h⟩ := bndI h
    refine v_cS (idx := 168) hC ⟨tt_at 300 (by decide +kernel) rfl, tsX11_within, tnX11_within, tcX11_within, tmX11_within⟩ (c_X11_within e6) (by decide) (by decide) (by decide +kernel) (rest := []) rfl rfl (Nat.le_of_ble_eq_true rfl) rfl ?_
    refine v_if_eq hC (off := 9) (tgt := 22) (by decide +kernel) (by decide) h (fun hq h => ?_) (fun hq h => ?_)
    · refine v_blk hC (is := [(.iconst (-1), (-1 : Int32))]) (pc' := 23) (ls' := [(0, .ref (ga G 0)), (1, .int x1), (2, .int x2), (3, .int x3)]) (st' := [.int (-1 : Int32)]) (by decide +kernel) rfl ?_
      exact v_iret hC h (by decide +kernel)
    · refine v_blk hC (is := [(.iload_n 3, 0), (.bipush 100, (100 : Int32))]) (pc' := 19) (ls' := [(0, .ref (ga G 0)), (1, .int x1), (2, .int x2), (3, .int x3)]) (st' := [.int (100 : Int32), .int x3]) (by decide +kernel) rfl ?_
      refine v_icmp_le hC (off := 5) (tgt := 24) (by decide +kernel) (by decide) h (fun hq h => ?_) (fun hq h => ?_)
      · refine v_blk hC (is := [(.iload_n 3, 0)]) (pc' := 25) (ls' := [(0, .ref (ga G 0)), (1, .int x1), (2, .int x2), (3, .int x3)]) (st' := [.int x3]) (by decide +kernel) rfl ?_
        refine v_if_ge hC (off := 6) (tgt := 31) (by decide +kernel) (by decide) h (fun hq h => ?_) (fun hq h => ?_)
        · refine v_blk hC (is := [(.aload_n 0, 0)]) (pc' := 32) (ls' := [(0, .ref (ga G 0)), (1, .int x1), (2, .int x2), (3, .int x3)]) (st' := [.ref (ga G 0)]) (by decide +kernel) rfl ?_
          refine gX11_4 hC lfX11_31 (by decide +kernel) ?_
          refine v_blk hC (is := [(.iload_n 1, 0)]) (pc' := 36) (ls' := [(0, .ref (ga G 0)), (1, .int x1), (2, .int x2), (3, .int x3)]) (st' := [.int x1, .ref (ga G 5)]) (by decide +kernel) rfl ?_
          refine v_aald hC (t0 := 2) (by decide) enr_shelves rfl (by decide +kernel) h (fun hi7 h => ?_)
          refine v_blk hC (is := [(.iload_n 2, 0), (.iload_n 3, 0)]) (pc' := 39) (ls' := [(0, .ref (ga G 0)), (1, .int x1), (2, .int x2), (3, .int x3)]) (st' := [.int x3, .int x2, .ref (ga G (6 + (x1).toNatClampNeg))]) (by decide +kernel) rfl ?_
          obtain ⟨v8, s9, e10, h⟩ := bndI h
          refine v_cVN (idx := 267) hC ⟨List.mem_of_getElem? (i := 65) (by decide +kernel), tiX8_getsRow, tvX8_getsRow, tnX8_getsRow, tcX8_getsRow, tmX8_getsRow⟩ (isO_X8 (shelf_at hi7)) rfl (c_X8_getsRow (shelf_at hi7) e10) (by decide) (by decide) (by decide +kernel) (rest := []) rfl rfl (Nat.le_of_ble_eq_true rfl) rfl ?_
          refine v_blk hC (is := [(.iconst 0, (0 : Int32))]) (pc' := 43) (ls' := [(0, .ref (ga G 0)), (1, .int x1), (2, .int x2), (3, .int x3)]) (st' := [.int (0 : Int32)]) (by decide +kernel) rfl ?_
          exact v_iret hC h (by decide +kernel)
        · refine v_blk hC (is := [(.bipush (-14), (-14 : Int32))]) (pc' := 30) (ls' := [(0, .ref (ga G 0)), (1, .int x1), (2, .int x2), (3, .int x3)]) (st' := [.int (-14 : Int32)]) (by decide +kernel) rfl ?_
          exact v_iret hC h (by decide +kernel)
      · refine v_blk hC (is := [(.iconst (-1), (-1 : Int32))]) (pc' := 23) (ls' := [(0, .ref (ga G 0)), (1, .int x1), (2, .int x2), (3, .int x3)]) (st' := [.int (-1 : Int32)]) (by decide +kernel) rfl ?_
        exact v_iret hC h (by decide +kernel)

def p_X11_put (x1 : Int32) (x2 : Int32) (x3 : Int32) (σ : Mem) : Option (Int32 × Mem) := (bnd (p_X11_refusal x1 (2 : Int32) σ) fun v1 s2 => (if v1 = 0 then (if x1 < 0 ∨ 8 ≤ (x1).toNatClampNeg then none else (lt (s2 (6 + (x1).toNatClampNeg) 5) fun v5 => (bnd (p_X11_within x2 (0 : Int32) (v5 - (1 : Int32)) s2) fun v6 s7 => (if v6 = 0 then some ((-13 : Int32), s7) else (if x1 < 0 ∨ 8 ≤ (x1).toNatClampNeg then none else (if x1 < 0 ∨ 8 ≤ (x1).toNatClampNeg then none else (bnd (p_X8_lowest (6 + (x1).toNatClampNeg) x3 s7) fun v11 s12 => (if x2 < 0 ∨ 100 ≤ (x2).toNatClampNeg then none else wr s12 (8 + (6 + (x1).toNatClampNeg)) (x2).toNatClampNeg v11 fun s14 => some ((0 : Int32), s14))))))))) else some (v1, s2)))
set_option maxHeartbeats 4000000 in
set_option maxRecDepth 100000 in
theorem c_X11_put {G : Gl} {x1 : Int32} {x2 : Int32} {x3 : Int32} {σ : Mem} {res : Int32 × Mem}  (h : p_X11_put x1 x2 x3 σ = some res) : MetX G yX11_put cX11_put 5 (some .int) 4 [.ref (ga G 0), .int x1, .int x2, .int x3] σ (some (.int res.1)) res.2 := by
  refine met_V (by decide +kernel) (Nat.le_of_ble_eq_true rfl) (fun X hC => ?_)
  have hC : Ok G 4 5 X cX11_put RX11 (some .int) := hC
  unfold p_X11_put at h
  show V G 4 5 X ((some (.int res.1)), res.2) σ [(0, .ref (ga G 0)), (1, .int x1), (2, .int x2), (3, .int x3)] [] 0
  refine v_blk hC (is := [(.aload_n 0, 0), (.iload_n 1, 0), (.iconst 2, (2 : Int32))]) (pc' := 3) (ls' := [(0, .ref (ga G 0)), (1, .int x1), (2, .int x2), (3, .int x3)]) (st' := [.int (2 : Int32), .int x1, .ref (ga G 0)]) (by decide +kernel) rfl ?_
  obtain ⟨v1, s2, e3, h⟩ := bndI h
  refine v_cV (idx := 36) hC ⟨tt_at 293 (by decide +kernel) rfl, tiX11_refusal, tvX11_refusal, tnX11_refusal, tcX11_refusal, tmX11_refusal⟩ isO_X11 rfl (c_X11_refusal e3) (by decide) (by decide) (by decide +kernel) (rest := []) rfl rfl (Nat.le_of_ble_eq_true rfl) rfl ?_
  refine v_blk hC (is := [(.istore 4, 0), (.iload 4, 0)]) (pc' := 10) (ls' := [(4, .int v1), (0, .ref (ga G 0)), (1, .int x1), (2, .int x2), (3, .int x3)]) (st' := [.int v1]) (by decide +kernel) rfl ?_
  refine v_if_eq hC (off := 6) (tgt := 16) (by decide +kernel) (by decide) h (fun hq h => ?_) (fun hq h => ?_)
  · refine v_blk hC (is := [(.iload_n 2, 0), (.iconst 0, (0 : Int32)), (.aload_n 0, 0)]) (pc' := 19) (ls' := [(4, .int v1), (0, .ref (ga G 0)), (1, .int x1), (2, .int x2), (3, .int x3)]) (st' := [.ref (ga G 0), .int (0 : Int32), .int x2]) (by decide +kernel) rfl ?_
    refine gX11_4 hC lfX11_31 (by decide +kernel) ?_
    refine v_blk hC (is := [(.iload_n 1, 0)]) (pc' := 23) (ls' := [(4, .int v1), (0, .ref (ga G 0)), (1, .int x1), (2, .int x2), (3, .int x3)]) (st' := [.int x1, .ref (ga G 5), .int (0 : Int32), .int x2]) (by decide +kernel) rfl ?_
    refine v_aald hC (t0 := 2) (by decide) enr_shelves rfl (by decide +kernel) h (fun hi4 h => ?_)
    refine gX8_5 hC (shelf_at hi4) lfX11_52 (by decide +kernel) h (fun v5 h => ?_)
    refine v_blk hC (is := [(.iconst 1, (1 : Int32)), (.isub, 0)]) (pc' := 29) (ls' := [(4, .int v1), (0, .ref (ga G 0)), (1, .int x1), (2, .int x2), (3, .int x3)]) (st' := [.int (v5 - (1 : Int32)), .int (0 : Int32), .int x2]) (by decide +kernel) rfl ?_
    obtain ⟨v6, s7, e8, h⟩ := bndI h
    refine v_cS (idx := 168) hC ⟨tt_at 300 (by decide +kernel) rfl, tsX11_within, tnX11_within, tcX11_within, tmX11_within⟩ (c_X11_within e8) (by decide) (by decide) (by decide +kernel) (rest := []) rfl rfl (Nat.le_of_ble_eq_true rfl) rfl ?_
    refine v_if_ne hC (off := 6) (tgt := 38) (by decide +kernel) (by decide) h (fun hq h => ?_) (fun hq h => ?_)
    · refine v_blk hC (is := [(.aload_n 0, 0)]) (pc' := 39) (ls' := [(4, .int v1), (0, .ref (ga G 0)), (1, .int x1), (2, .int x2), (3, .int x3)]) (st' := [.ref (ga G 0)]) (by decide +kernel) rfl ?_
      refine gX11_4 hC lfX11_31 (by decide +kernel) ?_
      refine v_blk hC (is := [(.iload_n 1, 0)]) (pc' := 43) (ls' := [(4, .int v1), (0, .ref (ga G 0)), (1, .int x1), (2, .int x2), (3, .int x3)]) (st' := [.int x1, .ref (ga G 5)]) (by decide +kernel) rfl ?_
      refine v_aald hC (t0 := 2) (by decide) enr_shelves rfl (by decide +kernel) h (fun hi9 h => ?_)
      refine gX8_0 hC (shelf_at hi9) lfX11_239 (by decide +kernel) ?_
      refine v_blk hC (is := [(.iload_n 2, 0), (.aload_n 0, 0)]) (pc' := 49) (ls' := [(4, .int v1), (0, .ref (ga G 0)), (1, .int x1), (2, .int x2), (3, .int x3)]) (st' := [.ref (ga G 0), .int x2, .ref (ga G (8 + (6 + (x1).toNatClampNeg)))]) (by decide +kernel) rfl ?_
      refine gX11_4 hC lfX11_31 (by decide +kernel) ?_
      refine v_blk hC (is := [(.iload_n 1, 0)]) (pc' := 53) (ls' := [(4, .int v1), (0, .ref (ga G 0)), (1, .int x1), (2, .int x2), (3, .int x3)]) (st' := [.int x1, .ref (ga G 5), .int x2, .ref (ga G (8 + (6 + (x1).toNatClampNeg)))]) (by decide +kernel) rfl ?_
      refine v_aald hC (t0 := 2) (by decide) enr_shelves rfl (by decide +kernel) h (fun hi10 h => ?_)
      refine v_blk hC (is := [(.iload_n 3, 0)]) (pc' := 55) (ls' := [(4, .int v1), (0, .ref (ga G 0)), (1, .int x1), (2, .int x2), (3, .int x3)]) (st' := [.int x3, .ref (ga G (6 + (x1).toNatClampNeg)), .int x2, .ref (ga G (8 + (6 + (x1).toNatClampNeg)))]) (by decide +kernel) rfl ?_
      obtain ⟨v11, s12, e13, h⟩ := bndI h
      refine v_cVN (idx := 271) hC ⟨List.mem_of_getElem? (i := 66) (by decide +kernel), tiX8_lowest, tvX8_lowest, tnX8_lowest, tcX8_lowest, tmX8_lowest⟩ (isO_X8 (shelf_at hi10)) rfl (c_X8_lowest (shelf_at hi10) e13) (by decide) (by decide) (by decide +kernel) (rest := [.int x2, .ref (ga G (8 + (6 + (x1).toNatClampNeg)))]) rfl rfl (Nat.le_of_ble_eq_true rfl) rfl ?_
      refine v_iast hC (isA_cells (shelf_at hi9)) (al_cells (shelf_at hi9)) (by decide +kernel) h (fun s14 h => ?_)
      refine v_blk hC (is := [(.iconst 0, (0 : Int32))]) (pc' := 60) (ls' := [(4, .int v1), (0, .ref (ga G 0)), (1, .int x1), (2, .int x2), (3, .int x3)]) (st' := [.int (0 : Int32)]) (by decide +kernel) rfl ?_
      exact v_iret hC h (by decide +kernel)
    · refine v_blk hC (is := [(.bipush (-13), (-13 : Int32))]) (pc' := 37) (ls' := [(4, .int v1), (0, .ref (ga G 0)), (1, .int x1), (2, .int x2), (3, .int x3)]) (st' := [.int (-13 : Int32)]) (by decide +kernel) rfl ?_
      exact v_iret hC h (by decide +kernel)
  · refine v_blk hC (is := [(.iload 4, 0)]) (pc' := 15) (ls' := [(4, .int v1), (0, .ref (ga G 0)), (1, .int x1), (2, .int x2), (3, .int x3)]) (st' := [.int v1]) (by decide +kernel) rfl ?_
    exact v_iret hC h (by decide +kernel)

def p_X11_copy (x1 : Int32) (x2 : Int32) (x3 : Int32) (x4 : Int32) (x5 : Int32) (σ : Mem) : Option (Int32 × Mem) := (bnd (p_X11_isShelf x1 σ) fun v1 s2 => (if v1 = 0 then some ((-1 : Int32), s2) else (bnd (p_X11_isShelf x3 s2) fun v4 s5 => (if v4 = 0 then some ((-1 : Int32), s5) else (if x1 < 0 ∨ 8 ≤ (x1).toNatClampNeg then none else (if x3 < 0 ∨ 8 ≤ (x3).toNatClampNeg then none else (lt (s5 (6 + (x1).toNatClampNeg) 1) fun v9 => (if v9 = 0 then some ((-11 : Int32), s5) else (lt (s5 (6 + (x3).toNatClampNeg) 1) fun v10 => (if v10 = 0 then some ((-11 : Int32), s5) else (lt (s5 (6 + (x1).toNatClampNeg) 1) fun v11 => (if v11 = (2 : Int32) then (lt (s5 (6 + (x3).toNatClampNeg) 1) fun v12 => (if v12 = (2 : Int32) then (lt (s5 (6 + (x1).toNatClampNeg) 4) fun v13 => (lt (s5 (6 + (x3).toNatClampNeg) 4) fun v14 => (if v13 = v14 then (bnd (p_X8_hasPlaces (6 + (x1).toNatClampNeg) x2 x5 s5) fun v15 s16 => (if v15 = 0 then some ((-13 : Int32), s16) else (bnd (p_X8_hasPlaces (6 + (x3).toNatClampNeg) x4 x5 s16) fun v18 s19 => (if v18 = 0 then some ((-13 : Int32), s19) else (if x2 < 0 ∨ x4 < 0 ∨ x5 < 0 ∨ 100 < (x2).toNatClampNeg + (x5).toNatClampNeg ∨ 100 < (x4).toNatClampNeg + (x5).toNatClampNeg then none else lt (mcp s19 (8 + (6 + (x1).toNatClampNeg)) (8 + (6 + (x3).toNatClampNeg)) (x2).toNatClampNeg (x4).toNatClampNeg (x5).toNatClampNeg) fun s21 => some (x5, s21)))))) else some ((-12 : Int32), s5)))) else some ((-12 : Int32), s5))) else some ((-12 : Int32), s5)))))))))))))
set_option maxHeartbeats 4000000 in
set_option maxRecDepth 100000 in
theorem c_X11_copy {G : Gl} {x1 : Int32} {x2 : Int32} {x3 : Int32} {x4 : Int32} {x5 : Int32} {σ : Mem} {res : Int32 × Mem}  (h : p_X11_copy x1 x2 x3 x4 x5 σ = some res) : MetX G yX11_copy cX11_copy 8 (some .int) 3 [.ref (ga G 0), .int x1, .int x2, .int x3, .int x4, .int x5] σ (some (.int res.1)) res.2 := by
  refine met_V (by decide +kernel) (Nat.le_of_ble_eq_true rfl) (fun X hC => ?_)
  have hC : Ok G 3 8 X cX11_copy RX11 (some .int) := hC
  unfold p_X11_copy at h
  show V G 3 8 X ((some (.int res.1)), res.2) σ [(0, .ref (ga G 0)), (1, .int x1), (2, .int x2), (3, .int x3), (4, .int x4), (5, .int x5)] [] 0
  refine v_blk hC (is := [(.iload_n 1, 0)]) (pc' := 1) (ls' := [(0, .ref (ga G 0)), (1, .int x1), (2, .int x2), (3, .int x3), (4, .int x4), (5, .int x5)]) (st' := [.int x1]) (by decide +kernel) rfl ?_
  obtain ⟨v1, s2, e3, h⟩ := bndI h
  refine v_cS (idx := 258) hC ⟨tt_at 297 (by decide +kernel) rfl, tsX11_isShelf, tnX11_isShelf, tcX11_isShelf, tmX11_isShelf⟩ (c_X11_isShelf e3) (by decide) (by decide) (by decide +kernel) (rest := []) rfl rfl (Nat.le_of_ble_eq_true rfl) rfl ?_
  refine v_if_eq hC (off := 10) (tgt := 14) (by decide +kernel) (by decide) h (fun hq h => ?_) (fun hq h => ?_)
  · refine v_blk hC (is := [(.iconst (-1), (-1 : Int32))]) (pc' := 15) (ls' := [(0, .ref (ga G 0)), (1, .int x1), (2, .int x2), (3, .int x3), (4, .int x4), (5, .int x5)]) (st' := [.int (-1 : Int32)]) (by decide +kernel) rfl ?_
    exact v_iret hC h (by decide +kernel)
  · refine v_blk hC (is := [(.iload_n 3, 0)]) (pc' := 8) (ls' := [(0, .ref (ga G 0)), (1, .int x1), (2, .int x2), (3, .int x3), (4, .int x4), (5, .int x5)]) (st' := [.int x3]) (by decide +kernel) rfl ?_
    obtain ⟨v4, s5, e6, h⟩ := bndI h
    refine v_cS (idx := 258) hC ⟨tt_at 297 (by decide +kernel) rfl, tsX11_isShelf, tnX11_isShelf, tcX11_isShelf, tmX11_isShelf⟩ (c_X11_isShelf e6) (by decide) (by decide) (by decide +kernel) (rest := []) rfl rfl (Nat.le_of_ble_eq_true rfl) rfl ?_
    refine v_if_ne hC (off := 5) (tgt := 16) (by decide +kernel) (by decide) h (fun hq h => ?_) (fun hq h => ?_)
    · refine v_blk hC (is := [(.aload_n 0, 0)]) (pc' := 17) (ls' := [(0, .ref (ga G 0)), (1, .int x1), (2, .int x2), (3, .int x3), (4, .int x4), (5, .int x5)]) (st' := [.ref (ga G 0)]) (by decide +kernel) rfl ?_
      refine gX11_4 hC lfX11_31 (by decide +kernel) ?_
      refine v_blk hC (is := [(.iload_n 1, 0)]) (pc' := 21) (ls' := [(0, .ref (ga G 0)), (1, .int x1), (2, .int x2), (3, .int x3), (4, .int x4), (5, .int x5)]) (st' := [.int x1, .ref (ga G 5)]) (by decide +kernel) rfl ?_
      refine v_aald hC (t0 := 2) (by decide) enr_shelves rfl (by decide +kernel) h (fun hi7 h => ?_)
      refine v_blk hC (is := [(.astore 6, 0), (.aload_n 0, 0)]) (pc' := 25) (ls' := [(6, .ref (ga G (6 + (x1).toNatClampNeg))), (0, .ref (ga G 0)), (1, .int x1), (2, .int x2), (3, .int x3), (4, .int x4), (5, .int x5)]) (st' := [.ref (ga G 0)]) (by decide +kernel) rfl ?_
      refine gX11_4 hC lfX11_31 (by decide +kernel) ?_
      refine v_blk hC (is := [(.iload_n 3, 0)]) (pc' := 29) (ls' := [(6, .ref (ga G (6 + (x1).toNatClampNeg))), (0, .ref (ga G 0)), (1, .int x1), (2, .int x2), (3, .int x3), (4, .int x4), (5, .int x5)]) (st' := [.int x3, .ref (ga G 5)]) (by decide +kernel) rfl ?_
      refine v_aald hC (t0 := 2) (by decide) enr_shelves rfl (by decide +kernel) h (fun hi8 h => ?_)
      refine v_blk hC (is := [(.astore 7, 0), (.aload 6, 0)]) (pc' := 34) (ls' := [(7, .ref (ga G (6 + (x3).toNatClampNeg))), (6, .ref (ga G (6 + (x1).toNatClampNeg))), (0, .ref (ga G 0)), (1, .int x1), (2, .int x2), (3, .int x3), (4, .int x4), (5, .int x5)]) (st' := [.ref (ga G (6 + (x1).toNatClampNeg))]) (by decide +kernel) rfl ?_
      refine gX8_1 hC (shelf_at hi7) lfX11_261 (by decide +kernel) h (fun v9 h => ?_)
      refine v_if_eq hC (off := 11) (tgt := 48) (by decide +kernel) (by decide) h (fun hq h => ?_) (fun hq h => ?_)
      · refine v_blk hC (is := [(.bipush (-11), (-11 : Int32))]) (pc' := 50) (ls' := [(7, .ref (ga G (6 + (x3).toNatClampNeg))), (6, .ref (ga G (6 + (x1).toNatClampNeg))), (0, .ref (ga G 0)), (1, .int x1), (2, .int x2), (3, .int x3), (4, .int x4), (5, .int x5)]) (st' := [.int (-11 : Int32)]) (by decide +kernel) rfl ?_
        exact v_iret hC h (by decide +kernel)
      · refine v_blk hC (is := [(.aload 7, 0)]) (pc' := 42) (ls' := [(7, .ref (ga G (6 + (x3).toNatClampNeg))), (6, .ref (ga G (6 + (x1).toNatClampNeg))), (0, .ref (ga G 0)), (1, .int x1), (2, .int x2), (3, .int x3), (4, .int x4), (5, .int x5)]) (st' := [.ref (ga G (6 + (x3).toNatClampNeg))]) (by decide +kernel) rfl ?_
        refine gX8_1 hC (shelf_at hi8) lfX11_261 (by decide +kernel) h (fun v10 h => ?_)
        refine v_if_ne hC (off := 6) (tgt := 51) (by decide +kernel) (by decide) h (fun hq h => ?_) (fun hq h => ?_)
        · refine v_blk hC (is := [(.aload 6, 0)]) (pc' := 53) (ls' := [(7, .ref (ga G (6 + (x3).toNatClampNeg))), (6, .ref (ga G (6 + (x1).toNatClampNeg))), (0, .ref (ga G 0)), (1, .int x1), (2, .int x2), (3, .int x3), (4, .int x4), (5, .int x5)]) (st' := [.ref (ga G (6 + (x1).toNatClampNeg))]) (by decide +kernel) rfl ?_
          refine gX8_1 hC (shelf_at hi7) lfX11_261 (by decide +kernel) h (fun v11 h => ?_)
          refine v_blk hC (is := [(.iconst 2, (2 : Int32))]) (pc' := 57) (ls' := [(7, .ref (ga G (6 + (x3).toNatClampNeg))), (6, .ref (ga G (6 + (x1).toNatClampNeg))), (0, .ref (ga G 0)), (1, .int x1), (2, .int x2), (3, .int x3), (4, .int x4), (5, .int x5)]) (st' := [.int (2 : Int32), .int v11]) (by decide +kernel) rfl ?_
          refine v_icmp_ne hC (off := 25) (tgt := 82) (by decide +kernel) (by decide) h (fun hq h => ?_) (fun hq h => ?_)
          · refine v_blk hC (is := [(.bipush (-12), (-12 : Int32))]) (pc' := 84) (ls' := [(7, .ref (ga G (6 + (x3).toNatClampNeg))), (6, .ref (ga G (6 + (x1).toNatClampNeg))), (0, .ref (ga G 0)), (1, .int x1), (2, .int x2), (3, .int x3), (4, .int x4), (5, .int x5)]) (st' := [.int (-12 : Int32)]) (by decide +kernel) rfl ?_
            exact v_iret hC h (by decide +kernel)
          · refine v_blk hC (is := [(.aload 7, 0)]) (pc' := 62) (ls' := [(7, .ref (ga G (6 + (x3).toNatClampNeg))), (6, .ref (ga G (6 + (x1).toNatClampNeg))), (0, .ref (ga G 0)), (1, .int x1), (2, .int x2), (3, .int x3), (4, .int x4), (5, .int x5)]) (st' := [.ref (ga G (6 + (x3).toNatClampNeg))]) (by decide +kernel) rfl ?_
            refine gX8_1 hC (shelf_at hi8) lfX11_261 (by decide +kernel) h (fun v12 h => ?_)
            refine v_blk hC (is := [(.iconst 2, (2 : Int32))]) (pc' := 66) (ls' := [(7, .ref (ga G (6 + (x3).toNatClampNeg))), (6, .ref (ga G (6 + (x1).toNatClampNeg))), (0, .ref (ga G 0)), (1, .int x1), (2, .int x2), (3, .int x3), (4, .int x4), (5, .int x5)]) (st' := [.int (2 : Int32), .int v12]) (by decide +kernel) rfl ?_
            refine v_icmp_ne hC (off := 16) (tgt := 82) (by decide +kernel) (by decide) h (fun hq h => ?_) (fun hq h => ?_)
            · refine v_blk hC (is := [(.bipush (-12), (-12 : Int32))]) (pc' := 84) (ls' := [(7, .ref (ga G (6 + (x3).toNatClampNeg))), (6, .ref (ga G (6 + (x1).toNatClampNeg))), (0, .ref (ga G 0)), (1, .int x1), (2, .int x2), (3, .int x3), (4, .int x4), (5, .int x5)]) (st' := [.int (-12 : Int32)]) (by decide +kernel) rfl ?_
              exact v_iret hC h (by decide +kernel)
            · refine v_blk hC (is := [(.aload 6, 0)]) (pc' := 71) (ls' := [(7, .ref (ga G (6 + (x3).toNatClampNeg))), (6, .ref (ga G (6 + (x1).toNatClampNeg))), (0, .ref (ga G 0)), (1, .int x1), (2, .int x2), (3, .int x3), (4, .int x4), (5, .int x5)]) (st' := [.ref (ga G (6 + (x1).toNatClampNeg))]) (by decide +kernel) rfl ?_
              refine gX8_4 hC (shelf_at hi7) lfX11_40 (by decide +kernel) h (fun v13 h => ?_)
              refine v_blk hC (is := [(.aload 7, 0)]) (pc' := 76) (ls' := [(7, .ref (ga G (6 + (x3).toNatClampNeg))), (6, .ref (ga G (6 + (x1).toNatClampNeg))), (0, .ref (ga G 0)), (1, .int x1), (2, .int x2), (3, .int x3), (4, .int x4), (5, .int x5)]) (st' := [.ref (ga G (6 + (x3).toNatClampNeg)), .int v13]) (by decide +kernel) rfl ?_
              refine gX8_4 hC (shelf_at hi8) lfX11_40 (by decide +kernel) h (fun v14 h => ?_)
              refine v_icmp_eq hC (off := 6) (tgt := 85) (by decide +kernel) (by decide) h (fun hq h => ?_) (fun hq h => ?_)
              · refine v_blk hC (is := [(.aload 6, 0), (.iload_n 2, 0), (.iload 5, 0)]) (pc' := 90) (ls' := [(7, .ref (ga G (6 + (x3).toNatClampNeg))), (6, .ref (ga G (6 + (x1).toNatClampNeg))), (0, .ref (ga G 0)), (1, .int x1), (2, .int x2), (3, .int x3), (4, .int x4), (5, .int x5)]) (st' := [.int x5, .int x2, .ref (ga G (6 + (x1).toNatClampNeg))]) (by decide +kernel) rfl ?_
                obtain ⟨v15, s16, e17, h⟩ := bndI h
                refine v_cVN (idx := 288) hC ⟨List.mem_of_getElem? (i := 67) (by decide +kernel), tiX8_hasPlaces, tvX8_hasPlaces, tnX8_hasPlaces, tcX8_hasPlaces, tmX8_hasPlaces⟩ (isO_X8 (shelf_at hi7)) rfl (c_X8_hasPlaces (shelf_at hi7) e17) (by decide) (by decide) (by decide +kernel) (rest := []) rfl rfl (Nat.le_of_ble_eq_true rfl) rfl ?_
                refine v_if_eq hC (off := 15) (tgt := 108) (by decide +kernel) (by decide) h (fun hq h => ?_) (fun hq h => ?_)
                · refine v_blk hC (is := [(.bipush (-13), (-13 : Int32))]) (pc' := 110) (ls' := [(7, .ref (ga G (6 + (x3).toNatClampNeg))), (6, .ref (ga G (6 + (x1).toNatClampNeg))), (0, .ref (ga G 0)), (1, .int x1), (2, .int x2), (3, .int x3), (4, .int x4), (5, .int x5)]) (st' := [.int (-13 : Int32)]) (by decide +kernel) rfl ?_
                  exact v_iret hC h (by decide +kernel)
                · refine v_blk hC (is := [(.aload 7, 0), (.iload 4, 0), (.iload 5, 0)]) (pc' := 102) (ls' := [(7, .ref (ga G (6 + (x3).toNatClampNeg))), (6, .ref (ga G (6 + (x1).toNatClampNeg))), (0, .ref (ga G 0)), (1, .int x1), (2, .int x2), (3, .int x3), (4, .int x4), (5, .int x5)]) (st' := [.int x5, .int x4, .ref (ga G (6 + (x3).toNatClampNeg))]) (by decide +kernel) rfl ?_
                  obtain ⟨v18, s19, e20, h⟩ := bndI h
                  refine v_cVN (idx := 288) hC ⟨List.mem_of_getElem? (i := 67) (by decide +kernel), tiX8_hasPlaces, tvX8_hasPlaces, tnX8_hasPlaces, tcX8_hasPlaces, tmX8_hasPlaces⟩ (isO_X8 (shelf_at hi8)) rfl (c_X8_hasPlaces (shelf_at hi8) e20) (by decide) (by decide) (by decide +kernel) (rest := []) rfl rfl (Nat.le_of_ble_eq_true rfl) rfl ?_
                  refine v_if_ne hC (off := 6) (tgt := 111) (by decide +kernel) (by decide) h (fun hq h => ?_) (fun hq h => ?_)
                  · refine v_blk hC (is := [(.aload 6, 0)]) (pc' := 113) (ls' := [(7, .ref (ga G (6 + (x3).toNatClampNeg))), (6, .ref (ga G (6 + (x1).toNatClampNeg))), (0, .ref (ga G 0)), (1, .int x1), (2, .int x2), (3, .int x3), (4, .int x4), (5, .int x5)]) (st' := [.ref (ga G (6 + (x1).toNatClampNeg))]) (by decide +kernel) rfl ?_
                    refine gX8_0 hC (shelf_at hi7) lfX11_239 (by decide +kernel) ?_
                    refine v_blk hC (is := [(.iload_n 2, 0), (.aload 7, 0)]) (pc' := 119) (ls' := [(7, .ref (ga G (6 + (x3).toNatClampNeg))), (6, .ref (ga G (6 + (x1).toNatClampNeg))), (0, .ref (ga G 0)), (1, .int x1), (2, .int x2), (3, .int x3), (4, .int x4), (5, .int x5)]) (st' := [.ref (ga G (6 + (x3).toNatClampNeg)), .int x2, .ref (ga G (8 + (6 + (x1).toNatClampNeg)))]) (by decide +kernel) rfl ?_
                    refine gX8_0 hC (shelf_at hi8) lfX11_239 (by decide +kernel) ?_
                    refine v_blk hC (is := [(.iload 4, 0), (.iload 5, 0)]) (pc' := 126) (ls' := [(7, .ref (ga G (6 + (x3).toNatClampNeg))), (6, .ref (ga G (6 + (x1).toNatClampNeg))), (0, .ref (ga G 0)), (1, .int x1), (2, .int x2), (3, .int x3), (4, .int x4), (5, .int x5)]) (st' := [.int x5, .int x4, .ref (ga G (8 + (6 + (x3).toNatClampNeg))), .int x2, .ref (ga G (8 + (6 + (x1).toNatClampNeg)))]) (by decide +kernel) rfl ?_
                    refine v_copy hC (idx := 291) (tt_at 868 (by decide +kernel) rfl) acn acs aci (isA_cells (shelf_at hi7)) (isA_cells (shelf_at hi8)) (al_cells (shelf_at hi7)) (al_cells (shelf_at hi8)) (by decide) (by decide) (by decide +kernel) h (fun s21 h => ?_)
                    refine v_blk hC (is := [(.iload 5, 0)]) (pc' := 131) (ls' := [(7, .ref (ga G (6 + (x3).toNatClampNeg))), (6, .ref (ga G (6 + (x1).toNatClampNeg))), (0, .ref (ga G 0)), (1, .int x1), (2, .int x2), (3, .int x3), (4, .int x4), (5, .int x5)]) (st' := [.int x5]) (by decide +kernel) rfl ?_
                    exact v_iret hC h (by decide +kernel)
                  · refine v_blk hC (is := [(.bipush (-13), (-13 : Int32))]) (pc' := 110) (ls' := [(7, .ref (ga G (6 + (x3).toNatClampNeg))), (6, .ref (ga G (6 + (x1).toNatClampNeg))), (0, .ref (ga G 0)), (1, .int x1), (2, .int x2), (3, .int x3), (4, .int x4), (5, .int x5)]) (st' := [.int (-13 : Int32)]) (by decide +kernel) rfl ?_
                    exact v_iret hC h (by decide +kernel)
              · refine v_blk hC (is := [(.bipush (-12), (-12 : Int32))]) (pc' := 84) (ls' := [(7, .ref (ga G (6 + (x3).toNatClampNeg))), (6, .ref (ga G (6 + (x1).toNatClampNeg))), (0, .ref (ga G 0)), (1, .int x1), (2, .int x2), (3, .int x3), (4, .int x4), (5, .int x5)]) (st' := [.int (-12 : Int32)]) (by decide +kernel) rfl ?_
                exact v_iret hC h (by decide +kernel)
        · refine v_blk hC (is := [(.bipush (-11), (-11 : Int32))]) (pc' := 50) (ls' := [(7, .ref (ga G (6 + (x3).toNatClampNeg))), (6, .ref (ga G (6 + (x1).toNatClampNeg))), (0, .ref (ga G 0)), (1, .int x1), (2, .int x2), (3, .int x3), (4, .int x4), (5, .int x5)]) (st' := [.int (-11 : Int32)]) (by decide +kernel) rfl ?_
          exact v_iret hC h (by decide +kernel)
    · refine v_blk hC (is := [(.iconst (-1), (-1 : Int32))]) (pc' := 15) (ls' := [(0, .ref (ga G 0)), (1, .int x1), (2, .int x2), (3, .int x3), (4, .int x4), (5, .int x5)]) (st' := [.int (-1 : Int32)]) (by decide +kernel) rfl ?_
      exact v_iret hC h (by decide +kernel)

def p_X11_cost (x1 : Int32) (σ : Mem) : Option (Int32 × Mem) := (bnd (p_X11_refusal x1 (1 : Int32) σ) fun v1 s2 => (if v1 = 0 then (if x1 < 0 ∨ 8 ≤ (x1).toNatClampNeg then none else (lt (s2 (6 + (x1).toNatClampNeg) 2) fun v5 => (if v5 < 0 ∨ 8 ≤ (v5).toNatClampNeg then none else (if x1 < 0 ∨ 8 ≤ (x1).toNatClampNeg then none else (lt (s2 (6 + (x1).toNatClampNeg) 3) fun v8 => (bnd (p_K_price (33 + 8 * 1 + (v5).toNatClampNeg) v8 s2) fun v9 s10 => some (v9, s10))))))) else some (v1, s2)))
set_option maxHeartbeats 4000000 in
set_option maxRecDepth 100000 in
theorem c_X11_cost {G : Gl} {x1 : Int32} {σ : Mem} {res : Int32 × Mem}  (h : p_X11_cost x1 σ = some res) : MetX G yX11_cost cX11_cost 3 (some .int) 4 [.ref (ga G 0), .int x1] σ (some (.int res.1)) res.2 := by
  refine met_V (by decide +kernel) (Nat.le_of_ble_eq_true rfl) (fun X hC => ?_)
  have hC : Ok G 4 3 X cX11_cost RX11 (some .int) := hC
  unfold p_X11_cost at h
  show V G 4 3 X ((some (.int res.1)), res.2) σ [(0, .ref (ga G 0)), (1, .int x1)] [] 0
  refine v_blk hC (is := [(.aload_n 0, 0), (.iload_n 1, 0), (.iconst 1, (1 : Int32))]) (pc' := 3) (ls' := [(0, .ref (ga G 0)), (1, .int x1)]) (st' := [.int (1 : Int32), .int x1, .ref (ga G 0)]) (by decide +kernel) rfl ?_
  obtain ⟨v1, s2, e3, h⟩ := bndI h
  refine v_cV (idx := 36) hC ⟨tt_at 293 (by decide +kernel) rfl, tiX11_refusal, tvX11_refusal, tnX11_refusal, tcX11_refusal, tmX11_refusal⟩ isO_X11 rfl (c_X11_refusal e3) (by decide) (by decide) (by decide +kernel) (rest := []) rfl rfl (Nat.le_of_ble_eq_true rfl) rfl ?_
  refine v_blk hC (is := [(.istore_n 2, 0), (.iload_n 2, 0)]) (pc' := 8) (ls' := [(2, .int v1), (0, .ref (ga G 0)), (1, .int x1)]) (st' := [.int v1]) (by decide +kernel) rfl ?_
  refine v_if_eq hC (off := 5) (tgt := 13) (by decide +kernel) (by decide) h (fun hq h => ?_) (fun hq h => ?_)
  · refine v_blk hC (is := [(.aload_n 0, 0)]) (pc' := 14) (ls' := [(2, .int v1), (0, .ref (ga G 0)), (1, .int x1)]) (st' := [.ref (ga G 0)]) (by decide +kernel) rfl ?_
    refine gX11_0 hC lfX11_10 (by decide +kernel) ?_
    refine gX3_0 hC cape1 lfX11_297 (by decide +kernel) ?_
    refine v_blk hC (is := [(.aload_n 0, 0)]) (pc' := 21) (ls' := [(2, .int v1), (0, .ref (ga G 0)), (1, .int x1)]) (st' := [.ref (ga G 0), .ref (ga G (21 + 1))]) (by decide +kernel) rfl ?_
    refine gX11_4 hC lfX11_31 (by decide +kernel) ?_
    refine v_blk hC (is := [(.iload_n 1, 0)]) (pc' := 25) (ls' := [(2, .int v1), (0, .ref (ga G 0)), (1, .int x1)]) (st' := [.int x1, .ref (ga G 5), .ref (ga G (21 + 1))]) (by decide +kernel) rfl ?_
    refine v_aald hC (t0 := 2) (by decide) enr_shelves rfl (by decide +kernel) h (fun hi4 h => ?_)
    refine gX8_2 hC (shelf_at hi4) lfX11_108 (by decide +kernel) h (fun v5 h => ?_)
    refine v_aald hC (t0 := 1) (kinds_lt cape1) (enr_kinds cape1) rfl (by decide +kernel) h (fun hi6 h => ?_)
    refine v_blk hC (is := [(.aload_n 0, 0)]) (pc' := 31) (ls' := [(2, .int v1), (0, .ref (ga G 0)), (1, .int x1)]) (st' := [.ref (ga G 0), .ref (ga G (33 + 8 * 1 + (v5).toNatClampNeg))]) (by decide +kernel) rfl ?_
    refine gX11_4 hC lfX11_31 (by decide +kernel) ?_
    refine v_blk hC (is := [(.iload_n 1, 0)]) (pc' := 35) (ls' := [(2, .int v1), (0, .ref (ga G 0)), (1, .int x1)]) (st' := [.int x1, .ref (ga G 5), .ref (ga G (33 + 8 * 1 + (v5).toNatClampNeg))]) (by decide +kernel) rfl ?_
    refine v_aald hC (t0 := 2) (by decide) enr_shelves rfl (by decide +kernel) h (fun hi7 h => ?_)
    refine gX8_3 hC (shelf_at hi7) lfX11_110 (by decide +kernel) h (fun v8 h => ?_)
    obtain ⟨v9, s10, e11, h⟩ := bndI h
    refine kX11_price hC e11 (by decide) (by decide +kernel) (rest := []) rfl (Nat.le_of_ble_eq_true rfl) rfl ?_
    exact v_iret hC h (by decide +kernel)
  · refine v_blk hC (is := [(.iload_n 2, 0)]) (pc' := 12) (ls' := [(2, .int v1), (0, .ref (ga G 0)), (1, .int x1)]) (st' := [.int v1]) (by decide +kernel) rfl ?_
    exact v_iret hC h (by decide +kernel)
