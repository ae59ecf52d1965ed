def p_X3_becomes (c : Nat) (x1 : Nat) (σ : Mem) : Option (Unit × Mem) := (if (0 : Int32) < 0 ∨ (0 : Int32) < 0 ∨ (8 : Int32) < 0 ∨ 8 < ((0 : Int32)).toNatClampNeg + ((8 : Int32)).toNatClampNeg ∨ 8 < ((0 : Int32)).toNatClampNeg + ((8 : Int32)).toNatClampNeg then none else lt (mcp σ (24 + x1) (24 + c) ((0 : Int32)).toNatClampNeg ((0 : Int32)).toNatClampNeg ((8 : Int32)).toNatClampNeg) fun s1 => (if (0 : Int32) < 0 ∨ (0 : Int32) < 0 ∨ (8 : Int32) < 0 ∨ 8 < ((0 : Int32)).toNatClampNeg + ((8 : Int32)).toNatClampNeg ∨ 8 < ((0 : Int32)).toNatClampNeg + ((8 : Int32)).toNatClampNeg then none else lt (mcp s1 (27 + x1) (27 + c) ((0 : Int32)).toNatClampNeg ((0 : Int32)).toNatClampNeg ((8 : Int32)).toNatClampNeg) fun s2 => (if (0 : Int32) < 0 ∨ (0 : Int32) < 0 ∨ (8 : Int32) < 0 ∨ 8 < ((0 : Int32)).toNatClampNeg + ((8 : Int32)).toNatClampNeg ∨ 8 < ((0 : Int32)).toNatClampNeg + ((8 : Int32)).toNatClampNeg then none else lt (mcp s2 (30 + x1) (30 + c) ((0 : Int32)).toNatClampNeg ((0 : Int32)).toNatClampNeg ((8 : Int32)).toNatClampNeg) fun s3 => (if (0 : Int32) < 0 ∨ (0 : Int32) < 0 ∨ (64 : Int32) < 0 ∨ 64 < ((0 : Int32)).toNatClampNeg + ((64 : Int32)).toNatClampNeg ∨ 64 < ((0 : Int32)).toNatClampNeg + ((64 : Int32)).toNatClampNeg then none else lt (mcp s3 (33 + x1) (33 + c) ((0 : Int32)).toNatClampNeg ((0 : Int32)).toNatClampNeg ((64 : Int32)).toNatClampNeg) fun s4 => (lt (s4 x1 5) fun v5 => (wr s4 c 5 v5 fun s6 => (lt (s6 x1 6) fun v7 => (wr s6 c 6 v7 fun s8 => (lt (s8 x1 7) fun v9 => (wr s8 c 7 v9 fun s10 => (lt (s10 x1 8) fun v11 => (wr s10 c 8 v11 fun s12 => (lt (s12 x1 9) fun v13 => (wr s12 c 9 v13 fun s14 => some ((), s14)))))))))))))))
set_option maxHeartbeats 4000000 in
set_option maxRecDepth 100000 in
theorem c_X3_becomes {G : Gl} {c : Nat} {x1 : Nat} {σ : Mem} {res : Unit × Mem} (hc : isCape c) (hx1 : isCape x1) (h : p_X3_becomes c x1 σ = some res) : MetX G yX3_becomes cX3_becomes 2 none 1 [.ref (ga G c), .ref (ga G x1)] σ none res.2 := by
  refine met_V (by decide +kernel) (Nat.le_of_ble_eq_true rfl) (fun X hC => ?_)
  have hC : Ok G 1 2 X cX3_becomes RX3 none := hC
  unfold p_X3_becomes at h
  show V G 1 2 X (none, res.2) σ [(0, .ref (ga G c)), (1, .ref (ga G x1))] [] 0
  refine v_blk hC (is := [(.aload_n 1, 0)]) (pc' := 1) (ls' := [(0, .ref (ga G c)), (1, .ref (ga G x1))]) (st' := [.ref (ga G x1)]) (by decide +kernel) rfl ?_
  refine gX3_1 hC hx1 lfX3_39 (by decide +kernel) ?_
  refine v_blk hC (is := [(.iconst 0, (0 : Int32)), (.aload_n 0, 0)]) (pc' := 6) (ls' := [(0, .ref (ga G c)), (1, .ref (ga G x1))]) (st' := [.ref (ga G c), .int (0 : Int32), .ref (ga G (24 + x1))]) (by decide +kernel) rfl ?_
  refine gX3_1 hC hc lfX3_39 (by decide +kernel) ?_
  refine v_blk hC (is := [(.iconst 0, (0 : Int32)), (.bipush 8, (8 : Int32))]) (pc' := 12) (ls' := [(0, .ref (ga G c)), (1, .ref (ga G x1))]) (st' := [.int (8 : Int32), .int (0 : Int32), .ref (ga G (24 + c)), .int (0 : Int32), .ref (ga G (24 + x1))]) (by decide +kernel) rfl ?_
  refine v_copy hC (idx := 59) (tt_at 318 (by decide +kernel) rfl) acn acs aci (isA_kind hx1) (isA_kind hc) (al_kind hx1) (al_kind hc) (by decide) (by decide) (by decide +kernel) h (fun s1 h => ?_)
  refine v_blk hC (is := [(.aload_n 1, 0)]) (pc' := 16) (ls' := [(0, .ref (ga G c)), (1, .ref (ga G x1))]) (st' := [.ref (ga G x1)]) (by decide +kernel) rfl ?_
  refine gX3_2 hC hx1 lfX3_43 (by decide +kernel) ?_
  refine v_blk hC (is := [(.iconst 0, (0 : Int32)), (.aload_n 0, 0)]) (pc' := 21) (ls' := [(0, .ref (ga G c)), (1, .ref (ga G x1))]) (st' := [.ref (ga G c), .int (0 : Int32), .ref (ga G (27 + x1))]) (by decide +kernel) rfl ?_
  refine gX3_2 hC hc lfX3_43 (by decide +kernel) ?_
  refine v_blk hC (is := [(.iconst 0, (0 : Int32)), (.bipush 8, (8 : Int32))]) (pc' := 27) (ls' := [(0, .ref (ga G c)), (1, .ref (ga G x1))]) (st' := [.int (8 : Int32), .int (0 : Int32), .ref (ga G (27 + c)), .int (0 : Int32), .ref (ga G (27 + x1))]) (by decide +kernel) rfl ?_
  refine v_copy hC (idx := 59) (tt_at 318 (by decide +kernel) rfl) acn acs aci (isA_figure hx1) (isA_figure hc) (al_figure hx1) (al_figure hc) (by decide) (by decide) (by decide +kernel) h (fun s2 h => ?_)
  refine v_blk hC (is := [(.aload_n 1, 0)]) (pc' := 31) (ls' := [(0, .ref (ga G c)), (1, .ref (ga G x1))]) (st' := [.ref (ga G x1)]) (by decide +kernel) rfl ?_
  refine gX3_3 hC hx1 lfX3_46 (by decide +kernel) ?_
  refine v_blk hC (is := [(.iconst 0, (0 : Int32)), (.aload_n 0, 0)]) (pc' := 36) (ls' := [(0, .ref (ga G c)), (1, .ref (ga G x1))]) (st' := [.ref (ga G c), .int (0 : Int32), .ref (ga G (30 + x1))]) (by decide +kernel) rfl ?_
  refine gX3_3 hC hc lfX3_46 (by decide +kernel) ?_
  refine v_blk hC (is := [(.iconst 0, (0 : Int32)), (.bipush 8, (8 : Int32))]) (pc' := 42) (ls' := [(0, .ref (ga G c)), (1, .ref (ga G x1))]) (st' := [.int (8 : Int32), .int (0 : Int32), .ref (ga G (30 + c)), .int (0 : Int32), .ref (ga G (30 + x1))]) (by decide +kernel) rfl ?_
  refine v_copy hC (idx := 59) (tt_at 318 (by decide +kernel) rfl) acn acs aci (isA_boat hx1) (isA_boat hc) (al_boat hx1) (al_boat hc) (by decide) (by decide) (by decide +kernel) h (fun s3 h => ?_)
  refine v_blk hC (is := [(.aload_n 1, 0)]) (pc' := 46) (ls' := [(0, .ref (ga G c)), (1, .ref (ga G x1))]) (st' := [.ref (ga G x1)]) (by decide +kernel) rfl ?_
  refine gX3_4 hC hx1 lfX3_49 (by decide +kernel) ?_
  refine v_blk hC (is := [(.iconst 0, (0 : Int32)), (.aload_n 0, 0)]) (pc' := 51) (ls' := [(0, .ref (ga G c)), (1, .ref (ga G x1))]) (st' := [.ref (ga G c), .int (0 : Int32), .ref (ga G (33 + x1))]) (by decide +kernel) rfl ?_
  refine gX3_4 hC hc lfX3_49 (by decide +kernel) ?_
  refine v_blk hC (is := [(.iconst 0, (0 : Int32)), (.bipush 64, (64 : Int32))]) (pc' := 57) (ls' := [(0, .ref (ga G c)), (1, .ref (ga G x1))]) (st' := [.int (64 : Int32), .int (0 : Int32), .ref (ga G (33 + c)), .int (0 : Int32), .ref (ga G (33 + x1))]) (by decide +kernel) rfl ?_
  refine v_copy hC (idx := 59) (tt_at 318 (by decide +kernel) rfl) acn acs aci (isA_how hx1) (isA_how hc) (al_how hx1) (al_how hc) (by decide) (by decide) (by decide +kernel) h (fun s4 h => ?_)
  refine v_blk hC (is := [(.aload_n 0, 0), (.aload_n 1, 0)]) (pc' := 62) (ls' := [(0, .ref (ga G c)), (1, .ref (ga G x1))]) (st' := [.ref (ga G x1), .ref (ga G c)]) (by decide +kernel) rfl ?_
  refine gX3_5 hC hx1 lfX3_65 (by decide +kernel) h (fun v5 h => ?_)
  refine pX3_5 hC hc lfX3_65 (by decide +kernel) h (fun s6 h => ?_)
  refine v_blk hC (is := [(.aload_n 0, 0), (.aload_n 1, 0)]) (pc' := 70) (ls' := [(0, .ref (ga G c)), (1, .ref (ga G x1))]) (st' := [.ref (ga G x1), .ref (ga G c)]) (by decide +kernel) rfl ?_
  refine gX3_6 hC hx1 lfX3_68 (by decide +kernel) h (fun v7 h => ?_)
  refine pX3_6 hC hc lfX3_68 (by decide +kernel) h (fun s8 h => ?_)
  refine v_blk hC (is := [(.aload_n 0, 0), (.aload_n 1, 0)]) (pc' := 78) (ls' := [(0, .ref (ga G c)), (1, .ref (ga G x1))]) (st' := [.ref (ga G x1), .ref (ga G c)]) (by decide +kernel) rfl ?_
  refine gX3_7 hC hx1 lfX3_52 (by decide +kernel) h (fun v9 h => ?_)
  refine pX3_7 hC hc lfX3_52 (by decide +kernel) h (fun s10 h => ?_)
  refine v_blk hC (is := [(.aload_n 0, 0), (.aload_n 1, 0)]) (pc' := 86) (ls' := [(0, .ref (ga G c)), (1, .ref (ga G x1))]) (st' := [.ref (ga G x1), .ref (ga G c)]) (by decide +kernel) rfl ?_
  refine gX3_8 hC hx1 lfX3_56 (by decide +kernel) h (fun v11 h => ?_)
  refine pX3_8 hC hc lfX3_56 (by decide +kernel) h (fun s12 h => ?_)
  refine v_blk hC (is := [(.aload_n 0, 0), (.aload_n 1, 0)]) (pc' := 94) (ls' := [(0, .ref (ga G c)), (1, .ref (ga G x1))]) (st' := [.ref (ga G x1), .ref (ga G c)]) (by decide +kernel) rfl ?_
  refine gX3_9 hC hx1 lfX3_71 (by decide +kernel) h (fun v13 h => ?_)
  refine pX3_9 hC hc lfX3_71 (by decide +kernel) h (fun s14 h => ?_)
  exact v_vret hC h (by decide +kernel)

def p_X3_has (c : Nat) (x1 : Int32) (σ : Mem) : Option (Int32 × Mem) := (if x1 < 0 then some ((0 : Int32), σ) else (lt (σ c 5) fun v1 => (if v1 ≤ x1 then some ((0 : Int32), σ) else some ((1 : Int32), σ))))
set_option maxHeartbeats 4000000 in
set_option maxRecDepth 100000 in
theorem c_X3_has {G : Gl} {c : Nat} {x1 : Int32} {σ : Mem} {res : Int32 × Mem} (hc : isCape c) (h : p_X3_has c x1 σ = some res) : MetX G yX3_has cX3_has 2 (some .boolean) 1 [.ref (ga G c), .int x1] σ (some (.int res.1)) res.2 := by
  refine met_V (by decide +kernel) (Nat.le_of_ble_eq_true rfl) (fun X hC => ?_)
  have hC : Ok G 1 2 X cX3_has RX3 (some .boolean) := hC
  unfold p_X3_has at h
  show V G 1 2 X ((some (.int res.1)), res.2) σ [(0, .ref (ga G c)), (1, .int x1)] [] 0
  refine v_blk hC (is := [(.iload_n 1, 0)]) (pc' := 1) (ls' := [(0, .ref (ga G c)), (1, .int x1)]) (st' := [.int x1]) (by decide +kernel) rfl ?_
  refine v_if_lt hC (off := 15) (tgt := 16) (by decide +kernel) (by decide) h (fun hq h => ?_) (fun hq h => ?_)
  · refine v_blk hC (is := [(.iconst 0, (0 : Int32))]) (pc' := 17) (ls' := [(0, .ref (ga G c)), (1, .int x1)]) (st' := [.int (0 : Int32)]) (by decide +kernel) rfl ?_
    exact v_zret hC rfl h (by decide +kernel)
  · refine v_blk hC (is := [(.iload_n 1, 0), (.aload_n 0, 0)]) (pc' := 6) (ls' := [(0, .ref (ga G c)), (1, .int x1)]) (st' := [.ref (ga G c), .int x1]) (by decide +kernel) rfl ?_
    refine gX3_5 hC hc lfX3_65 (by decide +kernel) h (fun v1 h => ?_)
    refine v_icmp_ge hC (off := 7) (tgt := 16) (by decide +kernel) (by decide) h (fun hq h => ?_) (fun hq h => ?_)
    · refine v_blk hC (is := [(.iconst 0, (0 : Int32))]) (pc' := 17) (ls' := [(0, .ref (ga G c)), (1, .int x1)]) (st' := [.int (0 : Int32)]) (by decide +kernel) rfl ?_
      exact v_zret hC rfl h (by decide +kernel)
    · refine v_blk hC (is := [(.iconst 1, (1 : Int32))]) (pc' := 13) (ls' := [(0, .ref (ga G c)), (1, .int x1)]) (st' := [.int (1 : Int32)]) (by decide +kernel) rfl ?_
      refine v_goto hC (off := 4) (tgt := 17) (by decide +kernel) (by decide) ?_
      exact v_zret hC rfl h (by decide +kernel)

def p_X3_hasTwo (c : Nat) (x1 : Int32) (x2 : Int32) (σ : Mem) : Option (Int32 × Mem) := (bnd (p_X3_has c x1 σ) fun v1 s2 => (if v1 = 0 then some ((0 : Int32), s2) else (bnd (p_X3_has c x2 s2) fun v4 s5 => (if v4 = 0 then some ((0 : Int32), s5) else (if x1 = x2 then some ((0 : Int32), s5) else some ((1 : Int32), s5))))))
set_option maxHeartbeats 4000000 in
set_option maxRecDepth 100000 in
theorem c_X3_hasTwo {G : Gl} {c : Nat} {x1 : Int32} {x2 : Int32} {σ : Mem} {res : Int32 × Mem} (hc : isCape c) (h : p_X3_hasTwo c x1 x2 σ = some res) : MetX G yX3_hasTwo cX3_hasTwo 3 (some .boolean) 2 [.ref (ga G c), .int x1, .int x2] σ (some (.int res.1)) res.2 := by
  refine met_V (by decide +kernel) (Nat.le_of_ble_eq_true rfl) (fun X hC => ?_)
  have hC : Ok G 2 3 X cX3_hasTwo RX3 (some .boolean) := hC
  unfold p_X3_hasTwo at h
  show V G 2 3 X ((some (.int res.1)), res.2) σ [(0, .ref (ga G c)), (1, .int x1), (2, .int x2)] [] 0
  refine v_blk hC (is := [(.aload_n 0, 0), (.iload_n 1, 0)]) (pc' := 2) (ls' := [(0, .ref (ga G c)), (1, .int x1), (2, .int x2)]) (st' := [.int x1, .ref (ga G c)]) (by decide +kernel) rfl ?_
  obtain ⟨v1, s2, e3, h⟩ := bndI h
  refine v_cV (idx := 74) hC ⟨tt_at 342 (by decide +kernel) rfl, tiX3_has, tvX3_has, tnX3_has, tcX3_has, tmX3_has⟩ (isO_X3 hc) rfl (c_X3_has hc e3) (by decide) (by decide) (by decide +kernel) (rest := []) rfl rfl (Nat.le_of_ble_eq_true rfl) rfl ?_
  refine v_if_eq hC (off := 20) (tgt := 25) (by decide +kernel) (by decide) h (fun hq h => ?_) (fun hq h => ?_)
  · refine v_blk hC (is := [(.iconst 0, (0 : Int32))]) (pc' := 26) (ls' := [(0, .ref (ga G c)), (1, .int x1), (2, .int x2)]) (st' := [.int (0 : Int32)]) (by decide +kernel) rfl ?_
    exact v_zret hC rfl h (by decide +kernel)
  · refine v_blk hC (is := [(.aload_n 0, 0), (.iload_n 2, 0)]) (pc' := 10) (ls' := [(0, .ref (ga G c)), (1, .int x1), (2, .int x2)]) (st' := [.int x2, .ref (ga G c)]) (by decide +kernel) rfl ?_
    obtain ⟨v4, s5, e6, h⟩ := bndI h
    refine v_cV (idx := 74) hC ⟨tt_at 342 (by decide +kernel) rfl, tiX3_has, tvX3_has, tnX3_has, tcX3_has, tmX3_has⟩ (isO_X3 hc) rfl (c_X3_has hc e6) (by decide) (by decide) (by decide +kernel) (rest := []) rfl rfl (Nat.le_of_ble_eq_true rfl) rfl ?_
    refine v_if_eq hC (off := 12) (tgt := 25) (by decide +kernel) (by decide) h (fun hq h => ?_) (fun hq h => ?_)
    · refine v_blk hC (is := [(.iconst 0, (0 : Int32))]) (pc' := 26) (ls' := [(0, .ref (ga G c)), (1, .int x1), (2, .int x2)]) (st' := [.int (0 : Int32)]) (by decide +kernel) rfl ?_
      exact v_zret hC rfl h (by decide +kernel)
    · refine v_blk hC (is := [(.iload_n 1, 0), (.iload_n 2, 0)]) (pc' := 18) (ls' := [(0, .ref (ga G c)), (1, .int x1), (2, .int x2)]) (st' := [.int x2, .int x1]) (by decide +kernel) rfl ?_
      refine v_icmp_eq hC (off := 7) (tgt := 25) (by decide +kernel) (by decide) h (fun hq h => ?_) (fun hq h => ?_)
      · refine v_blk hC (is := [(.iconst 0, (0 : Int32))]) (pc' := 26) (ls' := [(0, .ref (ga G c)), (1, .int x1), (2, .int x2)]) (st' := [.int (0 : Int32)]) (by decide +kernel) rfl ?_
        exact v_zret hC rfl h (by decide +kernel)
      · refine v_blk hC (is := [(.iconst 1, (1 : Int32))]) (pc' := 22) (ls' := [(0, .ref (ga G c)), (1, .int x1), (2, .int x2)]) (st' := [.int (1 : Int32)]) (by decide +kernel) rfl ?_
        refine v_goto hC (off := 4) (tgt := 26) (by decide +kernel) (by decide) ?_
        exact v_zret hC rfl h (by decide +kernel)

def p_X3_kindOf (c : Nat) (x1 : Int32) (σ : Mem) : Option (Nat × Mem) := (if x1 < 0 ∨ 8 ≤ (x1).toNatClampNeg then none else lt (σ (24 + c) (x1).toNatClampNeg) fun v1 => (if v1 < 0 ∨ 8 ≤ (v1).toNatClampNeg then none else some ((33 + 8 * c + (v1).toNatClampNeg), σ)))
set_option maxHeartbeats 4000000 in
set_option maxRecDepth 100000 in
theorem c_X3_kindOf {G : Gl} {c : Nat} {x1 : Int32} {σ : Mem} {res : Nat × Mem} (hc : isCape c) (h : p_X3_kindOf c x1 σ = some res) : MetX G yX3_kindOf cX3_kindOf 2 (some (.object "NoManMaySail$Sailor")) 1 [.ref (ga G c), .int x1] σ (some (.ref (ga G res.1))) res.2 := by
  refine met_V (by decide +kernel) (Nat.le_of_ble_eq_true rfl) (fun X hC => ?_)
  have hC : Ok G 1 2 X cX3_kindOf RX3 (some (.object "NoManMaySail$Sailor")) := hC
  unfold p_X3_kindOf at h
  show V G 1 2 X ((some (.ref (ga G res.1))), res.2) σ [(0, .ref (ga G c)), (1, .int x1)] [] 0
  refine v_blk hC (is := [(.aload_n 0, 0)]) (pc' := 1) (ls' := [(0, .ref (ga G c)), (1, .int x1)]) (st' := [.ref (ga G c)]) (by decide +kernel) rfl ?_
  refine gX3_0 hC hc lfX3_33 (by decide +kernel) ?_
  refine v_blk hC (is := [(.aload_n 0, 0)]) (pc' := 5) (ls' := [(0, .ref (ga G c)), (1, .int x1)]) (st' := [.ref (ga G c), .ref (ga G (21 + c))]) (by decide +kernel) rfl ?_
  refine gX3_1 hC hc lfX3_39 (by decide +kernel) ?_
  refine v_blk hC (is := [(.iload_n 1, 0)]) (pc' := 9) (ls' := [(0, .ref (ga G c)), (1, .int x1)]) (st' := [.int x1, .ref (ga G (24 + c)), .ref (ga G (21 + c))]) (by decide +kernel) rfl ?_
  refine v_iald hC (isA_kind hc) (al_kind hc) (by decide +kernel) h (fun v1 h => ?_)
  refine v_aald hC (t0 := 1) (kinds_lt hc) (enr_kinds hc) rfl (by decide +kernel) h (fun hi2 h => ?_)
  exact v_aret hC h (by decide +kernel)

def p_X3_isLost (c : Nat) (x1 : Int32) (σ : Mem) : Option (Int32 × Mem) := (lt (σ c 6) fun v1 => (bnd (p_X11_holds v1 x1 σ) fun v2 s3 => rz v2 s3))
set_option maxHeartbeats 4000000 in
set_option maxRecDepth 100000 in
theorem c_X3_isLost {G : Gl} {c : Nat} {x1 : Int32} {σ : Mem} {res : Int32 × Mem} (hc : isCape c) (h : p_X3_isLost c x1 σ = some res) : MetX G yX3_isLost cX3_isLost 2 (some .boolean) 2 [.ref (ga G c), .int x1] σ (some (.int res.1)) res.2 := by
  refine met_V (by decide +kernel) (Nat.le_of_ble_eq_true rfl) (fun X hC => ?_)
  have hC : Ok G 2 2 X cX3_isLost RX3 (some .boolean) := hC
  unfold p_X3_isLost at h
  show V G 2 2 X ((some (.int res.1)), res.2) σ [(0, .ref (ga G c)), (1, .int x1)] [] 0
  refine v_blk hC (is := [(.aload_n 0, 0)]) (pc' := 1) (ls' := [(0, .ref (ga G c)), (1, .int x1)]) (st' := [.ref (ga G c)]) (by decide +kernel) rfl ?_
  refine gX3_6 hC hc lfX3_68 (by decide +kernel) h (fun v1 h => ?_)
  refine v_blk hC (is := [(.iload_n 1, 0)]) (pc' := 5) (ls' := [(0, .ref (ga G c)), (1, .int x1)]) (st' := [.int x1, .int v1]) (by decide +kernel) rfl ?_
  obtain ⟨v2, s3, e4, h⟩ := bndI h
  refine v_cSN (idx := 78) hC ⟨List.mem_of_getElem? (i := 24) (by decide +kernel), tsX11_holds, tnX11_holds, tcX11_holds, tmX11_holds⟩ (c_X11_holds e4) (by decide) (by decide) (by decide +kernel) (rest := []) rfl rfl (Nat.le_of_ble_eq_true rfl) rfl ?_
  exact v_zretC hC h (by decide +kernel)

def p_X3_lostOnes (c : Nat) (σ : Mem) : Option (Int32 × Mem) := (lt (σ c 6) fun v1 => (bnd (p_J6_bitCount_0f7a4 v1 σ) fun v2 s3 => some (v2, s3)))
set_option maxHeartbeats 4000000 in
set_option maxRecDepth 100000 in
theorem c_X3_lostOnes {G : Gl} {c : Nat} {σ : Mem} {res : Int32 × Mem} (hc : isCape c) (h : p_X3_lostOnes c σ = some res) : MetX G yX3_lostOnes cX3_lostOnes 1 (some .int) 2 [.ref (ga G c)] σ (some (.int res.1)) res.2 := by
  refine met_V (by decide +kernel) (Nat.le_of_ble_eq_true rfl) (fun X hC => ?_)
  have hC : Ok G 2 1 X cX3_lostOnes RX3 (some .int) := hC
  unfold p_X3_lostOnes at h
  show V G 2 1 X ((some (.int res.1)), res.2) σ [(0, .ref (ga G c))] [] 0
  refine v_blk hC (is := [(.aload_n 0, 0)]) (pc' := 1) (ls' := [(0, .ref (ga G c))]) (st' := [.ref (ga G c)]) (by decide +kernel) rfl ?_
  refine gX3_6 hC hc lfX3_68 (by decide +kernel) h (fun v1 h => ?_)
  obtain ⟨v2, s3, e4, h⟩ := bndI h
  refine v_cS (idx := 82) hC ⟨tt_at 471 (by decide +kernel) rfl, tsJ6_bitCount_0f7a4, tnJ6_bitCount_0f7a4, tcJ6_bitCount_0f7a4, tmJ6_bitCount_0f7a4⟩ (c_J6_bitCount_0f7a4 e4) (by decide) (by decide) (by decide +kernel) (rest := []) rfl rfl (Nat.le_of_ble_eq_true rfl) rfl ?_
  exact v_iret hC h (by decide +kernel)

def p_X3_living (c : Nat) (σ : Mem) : Option (Int32 × Mem) := (lt (σ c 5) fun v1 => (lt (σ c 6) fun v2 => some (((((1 : Int32) <<< (v1 &&& 31)) - (1 : Int32)) &&& (v2 ^^^ (-1 : Int32))), σ)))
set_option maxHeartbeats 4000000 in
set_option maxRecDepth 100000 in
theorem c_X3_living {G : Gl} {c : Nat} {σ : Mem} {res : Int32 × Mem} (hc : isCape c) (h : p_X3_living c σ = some res) : MetX G yX3_living cX3_living 1 (some .int) 1 [.ref (ga G c)] σ (some (.int res.1)) res.2 := by
  refine met_V (by decide +kernel) (Nat.le_of_ble_eq_true rfl) (fun X hC => ?_)
  have hC : Ok G 1 1 X cX3_living RX3 (some .int) := hC
  unfold p_X3_living at h
  show V G 1 1 X ((some (.int res.1)), res.2) σ [(0, .ref (ga G c))] [] 0
  refine v_blk hC (is := [(.iconst 1, (1 : Int32)), (.aload_n 0, 0)]) (pc' := 2) (ls' := [(0, .ref (ga G c))]) (st' := [.ref (ga G c), .int (1 : Int32)]) (by decide +kernel) rfl ?_
  refine gX3_5 hC hc lfX3_65 (by decide +kernel) h (fun v1 h => ?_)
  refine v_blk hC (is := [(.ishl, 0), (.iconst 1, (1 : Int32)), (.isub, 0), (.aload_n 0, 0)]) (pc' := 9) (ls' := [(0, .ref (ga G c))]) (st' := [.ref (ga G c), .int (((1 : Int32) <<< (v1 &&& 31)) - (1 : Int32))]) (by decide +kernel) rfl ?_
  refine gX3_6 hC hc lfX3_68 (by decide +kernel) h (fun v2 h => ?_)
  refine v_blk hC (is := [(.iconst (-1), (-1 : Int32)), (.ixor, 0), (.iand, 0)]) (pc' := 15) (ls' := [(0, .ref (ga G c))]) (st' := [.int ((((1 : Int32) <<< (v1 &&& 31)) - (1 : Int32)) &&& (v2 ^^^ (-1 : Int32)))]) (by decide +kernel) rfl ?_
  exact v_iret hC h (by decide +kernel)

def p_X3_crew_B30 (k4 : Int32 → Int32 → Mem → Option (Int32 × Mem)) (c : Nat) (x1 : Int32) (x3 : Int32) (t0 : Int32) (t1 : Int32) (σ : Mem) : Option (Int32 × Mem) := k4 (t0 ||| t1) (x3 + (1 : Int32)) σ
def p_X3_crew_B4 (k4 : Int32 → Int32 → Mem → Option (Int32 × Mem)) (c : Nat) (x1 : Int32) (x2 : Int32) (x3 : Int32) (σ : Mem) : Option (Int32 × Mem) := (lt (σ c 5) fun v1 => (if v1 ≤ x3 then some (x2, σ) else (if x3 < 0 ∨ 8 ≤ (x3).toNatClampNeg then none else lt (σ (30 + c) (x3).toNatClampNeg) fun v2 => (if v2 = x1 then (p_X3_crew_B30 k4 c x1) x3 x2 ((1 : Int32) <<< (x3 &&& 31)) σ else (p_X3_crew_B30 k4 c x1) x3 x2 (0 : Int32) σ))))
def p_X3_crew_L4  (c : Nat) (x1 : Int32) : Nat → Int32 → Int32 → Mem → Option (Int32 × Mem)
  | 0 => fun _ _ _ => none
  | f + 1 => p_X3_crew_B4 (p_X3_crew_L4 c x1 f) c x1
def p_X3_crew (c : Nat) (x1 : Int32) (σ : Mem) : Option (Int32 × Mem) := (p_X3_crew_L4 c x1 1000) (0 : Int32) (0 : Int32) σ
set_option maxHeartbeats 4000000 in
set_option maxRecDepth 100000 in
theorem c_X3_crew {G : Gl} {c : Nat} {x1 : Int32} {σ : Mem} {res : Int32 × Mem} (hc : isCape c) (h : p_X3_crew c x1 σ = some res) : MetX G yX3_crew cX3_crew 4 (some .int) 1 [.ref (ga G c), .int x1] σ (some (.int res.1)) res.2 := by
  refine met_V (by decide +kernel) (Nat.le_of_ble_eq_true rfl) (fun X hC => ?_)
  have hC : Ok G 1 4 X cX3_crew RX3 (some .int) := hC
  have hB30 : ∀ (k4 : Int32 → Int32 → Mem → Option (Int32 × Mem)), (∀ (x2 : Int32), ∀ (x3 : Int32), ∀ σ : Mem, k4 x2 x3 σ = some res → V G 1 4 X ((some (.int res.1)), res.2) σ [(0, .ref (ga G c)), (1, .int x1), (2, .int x2), (3, .int x3)] [] 4) → ∀ (x3 : Int32), ∀ (t0 : Int32), ∀ (t1 : Int32), ∀ σ : Mem, p_X3_crew_B30 k4 c x1 x3 t0 t1 σ = some res → V G 1 4 X ((some (.int res.1)), res.2) σ [(0, .ref (ga G c)), (1, .int x1), (3, .int x3)] [.int t1, .int t0] 30 := by
    intro k4 hk4 x3 t0 t1 σ h
    unfold p_X3_crew_B30 at h
    refine v_blk hC (is := [(.ior, 0), (.istore_n 2, 0), (.iinc 3 1, (1 : Int32))]) (pc' := 35) (ls' := [(3, .int (x3 + (1 : Int32))), (2, .int (t0 ||| t1)), (0, .ref (ga G c)), (1, .int x1)]) (st' := []) (by decide +kernel) rfl ?_
    refine v_goto hC (off := (-31)) (tgt := 4) (by decide +kernel) (by decide) ?_
    refine v_sub [2, 3, 1, 0] (ls' := [(0, .ref (ga G c)), (1, .int x1), (2, .int (t0 ||| t1)), (3, .int (x3 + (1 : Int32)))]) rfl ?_
    exact hk4 _ _ _ h
  have hB4 : ∀ (k4 : Int32 → Int32 → Mem → Option (Int32 × Mem)), (∀ (x2 : Int32), ∀ (x3 : Int32), ∀ σ : Mem, k4 x2 x3 σ = some res → V G 1 4 X ((some (.int res.1)), res.2) σ [(0, .ref (ga G c)), (1, .int x1), (2, .int x2), (3, .int x3)] [] 4) → ∀ (x2 : Int32), ∀ (x3 : Int32), ∀ σ : Mem, p_X3_crew_B4 k4 c x1 x2 x3 σ = some res → V G 1 4 X ((some (.int res.1)), res.2) σ [(0, .ref (ga G c)), (1, .int x1), (2, .int x2), (3, .int x3)] [] 4 := by
    intro k4 hk4 x2 x3 σ h
    unfold p_X3_crew_B4 at h
    refine v_blk hC (is := [(.iload_n 3, 0), (.aload_n 0, 0)]) (pc' := 6) (ls' := [(0, .ref (ga G c)), (1, .int x1), (2, .int x2), (3, .int x3)]) (st' := [.ref (ga G c), .int x3]) (by decide +kernel) rfl ?_
    refine gX3_5 hC hc lfX3_65 (by decide +kernel) h (fun v1 h => ?_)
    refine v_icmp_ge hC (off := 29) (tgt := 38) (by decide +kernel) (by decide) h (fun hq h => ?_) (fun hq h => ?_)
    · refine v_blk hC (is := [(.iload_n 2, 0)]) (pc' := 39) (ls' := [(0, .ref (ga G c)), (1, .int x1), (2, .int x2), (3, .int x3)]) (st' := [.int x2]) (by decide +kernel) rfl ?_
      exact v_iret hC h (by decide +kernel)
    · refine v_blk hC (is := [(.iload_n 2, 0), (.aload_n 0, 0)]) (pc' := 14) (ls' := [(0, .ref (ga G c)), (1, .int x1), (2, .int x2), (3, .int x3)]) (st' := [.ref (ga G c), .int x2]) (by decide +kernel) rfl ?_
      refine gX3_3 hC hc lfX3_46 (by decide +kernel) ?_
      refine v_blk hC (is := [(.iload_n 3, 0)]) (pc' := 18) (ls' := [(0, .ref (ga G c)), (1, .int x1), (2, .int x2), (3, .int x3)]) (st' := [.int x3, .ref (ga G (30 + c)), .int x2]) (by decide +kernel) rfl ?_
      refine v_iald hC (isA_boat hc) (al_boat hc) (by decide +kernel) h (fun v2 h => ?_)
      refine v_blk hC (is := [(.iload_n 1, 0)]) (pc' := 20) (ls' := [(0, .ref (ga G c)), (1, .int x1), (2, .int x2), (3, .int x3)]) (st' := [.int x1, .int v2, .int x2]) (by decide +kernel) rfl ?_
      refine v_icmp_ne hC (off := 9) (tgt := 29) (by decide +kernel) (by decide) h (fun hq h => ?_) (fun hq h => ?_)
      · refine v_blk hC (is := [(.iconst 0, (0 : Int32))]) (pc' := 30) (ls' := [(0, .ref (ga G c)), (1, .int x1), (2, .int x2), (3, .int x3)]) (st' := [.int (0 : Int32), .int x2]) (by decide +kernel) rfl ?_
        refine v_sub [0, 1, 3] (ls' := [(0, .ref (ga G c)), (1, .int x1), (3, .int x3)]) rfl ?_
        exact (hB30 _ hk4) _ _ _ _ h
      · refine v_blk hC (is := [(.iconst 1, (1 : Int32)), (.iload_n 3, 0), (.ishl, 0)]) (pc' := 26) (ls' := [(0, .ref (ga G c)), (1, .int x1), (2, .int x2), (3, .int x3)]) (st' := [.int ((1 : Int32) <<< (x3 &&& 31)), .int x2]) (by decide +kernel) rfl ?_
        refine v_goto hC (off := 4) (tgt := 30) (by decide +kernel) (by decide) ?_
        refine v_sub [0, 1, 3] (ls' := [(0, .ref (ga G c)), (1, .int x1), (3, .int x3)]) rfl ?_
        exact (hB30 _ hk4) _ _ _ _ h
  have hL4 : ∀ f : Nat, ∀ (x2 : Int32), ∀ (x3 : Int32), ∀ σ : Mem, p_X3_crew_L4 c x1 f x2 x3 σ = some res → V G 1 4 X ((some (.int res.1)), res.2) σ [(0, .ref (ga G c)), (1, .int x1), (2, .int x2), (3, .int x3)] [] 4 := by
    intro  f
    induction f with
    | zero => intro x2 x3 σ h; exact none_some h
    | succ f ih => intro x2 x3 σ h; exact hB4 (p_X3_crew_L4 c x1 f)  ih  x2 x3 σ h
  unfold p_X3_crew at h
  show V G 1 4 X ((some (.int res.1)), res.2) σ [(0, .ref (ga G c)), (1, .int x1)] [] 0
  refine v_blk hC (is := [(.iconst 0, (0 : Int32)), (.istore_n 2, 0), (.iconst 0, (0 : Int32)), (.istore_n 3, 0)]) (pc' := 4) (ls' := [(3, .int (0 : Int32)), (2, .int (0 : Int32)), (0, .ref (ga G c)), (1, .int x1)]) (st' := []) (by decide +kernel) rfl ?_
  refine v_sub [2, 3, 1, 0] (ls' := [(0, .ref (ga G c)), (1, .int x1), (2, .int (0 : Int32)), (3, .int (0 : Int32))]) rfl ?_
  exact (hL4 1000) _ _ _ h

def p_X3_aboard_B4 (k4 : Int32 → Int32 → Mem → Option (Int32 × Mem)) (c : Nat) (x1 : Int32) (x2 : Int32) (σ : Mem) : Option (Int32 × Mem) := (if (3 : Int32) ≤ x2 then some (x1, σ) else (bnd (p_X3_crew c x2 σ) fun v1 s2 => k4 (x1 ||| v1) (x2 + (1 : Int32)) s2))
def p_X3_aboard_L4  (c : Nat) : Nat → Int32 → Int32 → Mem → Option (Int32 × Mem)
  | 0 => fun _ _ _ => none
  | f + 1 => p_X3_aboard_B4 (p_X3_aboard_L4 c f) c
def p_X3_aboard (c : Nat) (σ : Mem) : Option (Int32 × Mem) := (p_X3_aboard_L4 c 1000) (0 : Int32) (0 : Int32) σ
set_option maxHeartbeats 4000000 in
set_option maxRecDepth 100000 in
theorem c_X3_aboard {G : Gl} {c : Nat} {σ : Mem} {res : Int32 × Mem} (hc : isCape c) (h : p_X3_aboard c σ = some res) : MetX G yX3_aboard cX3_aboard 3 (some .int) 2 [.ref (ga G c)] σ (some (.int res.1)) res.2 := by
  refine met_V (by decide +kernel) (Nat.le_of_ble_eq_true rfl) (fun X hC => ?_)
  have hC : Ok G 2 3 X cX3_aboard RX3 (some .int) := hC
  have hB4 : ∀ (k4 : Int32 → Int32 → Mem → Option (Int32 × Mem)), (∀ (x1 : Int32), ∀ (x2 : Int32), ∀ σ : Mem, k4 x1 x2 σ = some res → V G 2 3 X ((some (.int res.1)), res.2) σ [(0, .ref (ga G c)), (1, .int x1), (2, .int x2)] [] 4) → ∀ (x1 : Int32), ∀ (x2 : Int32), ∀ σ : Mem, p_X3_aboard_B4 k4 c x1 x2 σ = some res → V G 2 3 X ((some (.int res.1)), res.2) σ [(0, .ref (ga G c)), (1, .int x1), (2, .int x2)] [] 4 := by
    intro k4 hk4 x1 x2 σ h
    unfold p_X3_aboard_B4 at h
    refine v_blk hC (is := [(.iload_n 2, 0), (.iconst 3, (3 : Int32))]) (pc' := 6) (ls' := [(0, .ref (ga G c)), (1, .int x1), (2, .int x2)]) (st' := [.int (3 : Int32), .int x2]) (by decide +kernel) rfl ?_
    refine v_icmp_ge hC (off := 17) (tgt := 23) (by decide +kernel) (by decide) h (fun hq h => ?_) (fun hq h => ?_)
    · refine v_blk hC (is := [(.iload_n 1, 0)]) (pc' := 24) (ls' := [(0, .ref (ga G c)), (1, .int x1), (2, .int x2)]) (st' := [.int x1]) (by decide +kernel) rfl ?_
      exact v_iret hC h (by decide +kernel)
    · refine v_blk hC (is := [(.iload_n 1, 0), (.aload_n 0, 0), (.iload_n 2, 0)]) (pc' := 12) (ls' := [(0, .ref (ga G c)), (1, .int x1), (2, .int x2)]) (st' := [.int x2, .ref (ga G c), .int x1]) (by decide +kernel) rfl ?_
      obtain ⟨v1, s2, e3, h⟩ := bndI h
      refine v_cV (idx := 88) hC ⟨tt_at 820 (by decide +kernel) rfl, tiX3_crew, tvX3_crew, tnX3_crew, tcX3_crew, tmX3_crew⟩ (isO_X3 hc) rfl (c_X3_crew hc e3) (by decide) (by decide) (by decide +kernel) (rest := [.int x1]) rfl rfl (Nat.le_of_ble_eq_true rfl) rfl ?_
      refine v_blk hC (is := [(.ior, 0), (.istore_n 1, 0), (.iinc 2 1, (1 : Int32))]) (pc' := 20) (ls' := [(2, .int (x2 + (1 : Int32))), (1, .int (x1 ||| v1)), (0, .ref (ga G c))]) (st' := []) (by decide +kernel) rfl ?_
      refine v_goto hC (off := (-16)) (tgt := 4) (by decide +kernel) (by decide) ?_
      refine v_sub [2, 1, 0] (ls' := [(0, .ref (ga G c)), (1, .int (x1 ||| v1)), (2, .int (x2 + (1 : Int32)))]) rfl ?_
      exact hk4 _ _ _ h
  have hL4 : ∀ f : Nat, ∀ (x1 : Int32), ∀ (x2 : Int32), ∀ σ : Mem, p_X3_aboard_L4 c f x1 x2 σ = some res → V G 2 3 X ((some (.int res.1)), res.2) σ [(0, .ref (ga G c)), (1, .int x1), (2, .int x2)] [] 4 := by
    intro  f
    induction f with
    | zero => intro x1 x2 σ h; exact none_some h
    | succ f ih => intro x1 x2 σ h; exact hB4 (p_X3_aboard_L4 c f)  ih  x1 x2 σ h
  unfold p_X3_aboard at h
  show V G 2 3 X ((some (.int res.1)), res.2) σ [(0, .ref (ga G c))] [] 0
  refine v_blk hC (is := [(.iconst 0, (0 : Int32)), (.istore_n 1, 0), (.iconst 0, (0 : Int32)), (.istore_n 2, 0)]) (pc' := 4) (ls' := [(2, .int (0 : Int32)), (1, .int (0 : Int32)), (0, .ref (ga G c))]) (st' := []) (by decide +kernel) rfl ?_
  refine v_sub [2, 1, 0] (ls' := [(0, .ref (ga G c)), (1, .int (0 : Int32)), (2, .int (0 : Int32))]) rfl ?_
  exact (hL4 1000) _ _ _ h

def p_X3_counts (c : Nat) (x1 : Int32) (x2 : Int32) (x3 : Int32) (σ : Mem) : Option (Int32 × Mem) := (if ((x1 * (8 : Int32)) + x2) < 0 ∨ 64 ≤ (((x1 * (8 : Int32)) + x2)).toNatClampNeg then none else lt (σ (33 + c) (((x1 * (8 : Int32)) + x2)).toNatClampNeg) fun v1 => (if v1 ≤ 0 then some ((0 : Int32), σ) else (if v1 < x3 then some ((0 : Int32), σ) else some ((1 : Int32), σ))))
set_option maxHeartbeats 4000000 in
set_option maxRecDepth 100000 in
theorem c_X3_counts {G : Gl} {c : Nat} {x1 : Int32} {x2 : Int32} {x3 : Int32} {σ : Mem} {res : Int32 × Mem} (hc : isCape c) (h : p_X3_counts c x1 x2 x3 σ = some res) : MetX G yX3_counts cX3_counts 5 (some .boolean) 1 [.ref (ga G c), .int x1, .int x2, .int x3] σ (some (.int res.1)) res.2 := by
  refine met_V (by decide +kernel) (Nat.le_of_ble_eq_true rfl) (fun X hC => ?_)
  have hC : Ok G 1 5 X cX3_counts RX3 (some .boolean) := hC
  unfold p_X3_counts at h
  show V G 1 5 X ((some (.int res.1)), res.2) σ [(0, .ref (ga G c)), (1, .int x1), (2, .int x2), (3, .int x3)] [] 0
  refine v_blk hC (is := [(.aload_n 0, 0)]) (pc' := 1) (ls' := [(0, .ref (ga G c)), (1, .int x1), (2, .int x2), (3, .int x3)]) (st' := [.ref (ga G c)]) (by decide +kernel) rfl ?_
  refine gX3_4 hC hc lfX3_49 (by decide +kernel) ?_
  refine v_blk hC (is := [(.iload_n 1, 0), (.bipush 8, (8 : Int32)), (.imul, 0), (.iload_n 2, 0), (.iadd, 0)]) (pc' := 10) (ls' := [(0, .ref (ga G c)), (1, .int x1), (2, .int x2), (3, .int x3)]) (st' := [.int ((x1 * (8 : Int32)) + x2), .ref (ga G (33 + c))]) (by decide +kernel) rfl ?_
  refine v_iald hC (isA_how hc) (al_how hc) (by decide +kernel) h (fun v1 h => ?_)
  refine v_blk hC (is := [(.istore 4, 0), (.iload 4, 0)]) (pc' := 15) (ls' := [(4, .int v1), (0, .ref (ga G c)), (1, .int x1), (2, .int x2), (3, .int x3)]) (st' := [.int v1]) (by decide +kernel) rfl ?_
  refine v_if_le hC (off := 13) (tgt := 28) (by decide +kernel) (by decide) h (fun hq h => ?_) (fun hq h => ?_)
  · refine v_blk hC (is := [(.iconst 0, (0 : Int32))]) (pc' := 29) (ls' := [(4, .int v1), (0, .ref (ga G c)), (1, .int x1), (2, .int x2), (3, .int x3)]) (st' := [.int (0 : Int32)]) (by decide +kernel) rfl ?_
    exact v_zret hC rfl h (by decide +kernel)
  · refine v_blk hC (is := [(.iload 4, 0), (.iload_n 3, 0)]) (pc' := 21) (ls' := [(4, .int v1), (0, .ref (ga G c)), (1, .int x1), (2, .int x2), (3, .int x3)]) (st' := [.int x3, .int v1]) (by decide +kernel) rfl ?_
    refine v_icmp_lt hC (off := 7) (tgt := 28) (by decide +kernel) (by decide) h (fun hq h => ?_) (fun hq h => ?_)
    · refine v_blk hC (is := [(.iconst 0, (0 : Int32))]) (pc' := 29) (ls' := [(4, .int v1), (0, .ref (ga G c)), (1, .int x1), (2, .int x2), (3, .int x3)]) (st' := [.int (0 : Int32)]) (by decide +kernel) rfl ?_
      exact v_zret hC rfl h (by decide +kernel)
    · refine v_blk hC (is := [(.iconst 1, (1 : Int32))]) (pc' := 25) (ls' := [(4, .int v1), (0, .ref (ga G c)), (1, .int x1), (2, .int x2), (3, .int x3)]) (st' := [.int (1 : Int32)]) (by decide +kernel) rfl ?_
      refine v_goto hC (off := 4) (tgt := 29) (by decide +kernel) (by decide) ?_
      exact v_zret hC rfl h (by decide +kernel)

def p_X3_agree (c : Nat) (x1 : Int32) (x2 : Int32) (x3 : Int32) (σ : Mem) : Option (Int32 × Mem) := (bnd (p_X3_kindOf c x1 σ) fun v1 s2 => (bnd (p_K_isGhost v1 s2) fun v4 s5 => (if v4 = 0 then (bnd (p_X3_kindOf c x2 s5) fun v7 s8 => (bnd (p_K_isGhost v7 s8) fun v10 s11 => (if v10 = 0 then (bnd (p_X3_counts c x1 x2 x3 s11) fun v13 s14 => (if v13 = 0 then (bnd (p_X3_counts c x2 x1 x3 s14) fun v16 s17 => (if v16 = 0 then some ((1 : Int32), s17) else some ((0 : Int32), s17))) else some ((0 : Int32), s14))) else some ((1 : Int32), s11)))) else some ((1 : Int32), s5))))
set_option maxHeartbeats 4000000 in
set_option maxRecDepth 100000 in
theorem c_X3_agree {G : Gl} {c : Nat} {x1 : Int32} {x2 : Int32} {x3 : Int32} {σ : Mem} {res : Int32 × Mem} (hc : isCape c) (h : p_X3_agree c x1 x2 x3 σ = some res) : MetX G yX3_agree cX3_agree 4 (some .boolean) 2 [.ref (ga G c), .int x1, .int x2, .int x3] σ (some (.int res.1)) res.2 := by
  refine met_V (by decide +kernel) (Nat.le_of_ble_eq_true rfl) (fun X hC => ?_)
  have hC : Ok G 2 4 X cX3_agree RX3 (some .boolean) := hC
  unfold p_X3_agree at h
  show V G 2 4 X ((some (.int res.1)), res.2) σ [(0, .ref (ga G c)), (1, .int x1), (2, .int x2), (3, .int x3)] [] 0
  refine v_blk hC (is := [(.aload_n 0, 0), (.iload_n 1, 0)]) (pc' := 2) (ls' := [(0, .ref (ga G c)), (1, .int x1), (2, .int x2), (3, .int x3)]) (st' := [.int x1, .ref (ga G c)]) (by decide +kernel) rfl ?_
  obtain ⟨v1, s2, e3, h⟩ := bndI h
  refine v_cV (idx := 91) hC ⟨tt_at 380 (by decide +kernel) rfl, tiX3_kindOf, tvX3_kindOf, tnX3_kindOf, tcX3_kindOf, tmX3_kindOf⟩ (isO_X3 hc) rfl (c_X3_kindOf hc e3) (by decide) (by decide) (by decide +kernel) (rest := []) rfl rfl (Nat.le_of_ble_eq_true rfl) rfl ?_
  obtain ⟨v4, s5, e6, h⟩ := bndI h
  refine kX3_isGhost hC e6 (by decide) (by decide +kernel) (rest := []) rfl (Nat.le_of_ble_eq_true rfl) rfl ?_
  refine v_if_ne hC (off := 14) (tgt := 22) (by decide +kernel) (by decide) h (fun hq h => ?_) (fun hq h => ?_)
  · refine v_blk hC (is := [(.iconst 1, (1 : Int32))]) (pc' := 23) (ls' := [(0, .ref (ga G c)), (1, .int x1), (2, .int x2), (3, .int x3)]) (st' := [.int (1 : Int32)]) (by decide +kernel) rfl ?_
    exact v_zret hC rfl h (by decide +kernel)
  · refine v_blk hC (is := [(.aload_n 0, 0), (.iload_n 2, 0)]) (pc' := 13) (ls' := [(0, .ref (ga G c)), (1, .int x1), (2, .int x2), (3, .int x3)]) (st' := [.int x2, .ref (ga G c)]) (by decide +kernel) rfl ?_
    obtain ⟨v7, s8, e9, h⟩ := bndI h
    refine v_cV (idx := 91) hC ⟨tt_at 380 (by decide +kernel) rfl, tiX3_kindOf, tvX3_kindOf, tnX3_kindOf, tcX3_kindOf, tmX3_kindOf⟩ (isO_X3 hc) rfl (c_X3_kindOf hc e9) (by decide) (by decide) (by decide +kernel) (rest := []) rfl rfl (Nat.le_of_ble_eq_true rfl) rfl ?_
    obtain ⟨v10, s11, e12, h⟩ := bndI h
    refine kX3_isGhost hC e12 (by decide) (by decide +kernel) (rest := []) rfl (Nat.le_of_ble_eq_true rfl) rfl ?_
    refine v_if_eq hC (off := 5) (tgt := 24) (by decide +kernel) (by decide) h (fun hq h => ?_) (fun hq h => ?_)
    · refine v_blk hC (is := [(.aload_n 0, 0), (.iload_n 1, 0), (.iload_n 2, 0), (.iload_n 3, 0)]) (pc' := 28) (ls' := [(0, .ref (ga G c)), (1, .int x1), (2, .int x2), (3, .int x3)]) (st' := [.int x3, .int x2, .int x1, .ref (ga G c)]) (by decide +kernel) rfl ?_
      obtain ⟨v13, s14, e15, h⟩ := bndI h
      refine v_cV (idx := 99) hC ⟨tt_at 463 (by decide +kernel) rfl, tiX3_counts, tvX3_counts, tnX3_counts, tcX3_counts, tmX3_counts⟩ (isO_X3 hc) rfl (c_X3_counts hc e15) (by decide) (by decide) (by decide +kernel) (rest := []) rfl rfl (Nat.le_of_ble_eq_true rfl) rfl ?_
      refine v_if_ne hC (off := 17) (tgt := 48) (by decide +kernel) (by decide) h (fun hq h => ?_) (fun hq h => ?_)
      · refine v_blk hC (is := [(.iconst 0, (0 : Int32))]) (pc' := 49) (ls' := [(0, .ref (ga G c)), (1, .int x1), (2, .int x2), (3, .int x3)]) (st' := [.int (0 : Int32)]) (by decide +kernel) rfl ?_
        exact v_zret hC rfl h (by decide +kernel)
      · refine v_blk hC (is := [(.aload_n 0, 0), (.iload_n 2, 0), (.iload_n 1, 0), (.iload_n 3, 0)]) (pc' := 38) (ls' := [(0, .ref (ga G c)), (1, .int x1), (2, .int x2), (3, .int x3)]) (st' := [.int x3, .int x1, .int x2, .ref (ga G c)]) (by decide +kernel) rfl ?_
        obtain ⟨v16, s17, e18, h⟩ := bndI h
        refine v_cV (idx := 99) hC ⟨tt_at 463 (by decide +kernel) rfl, tiX3_counts, tvX3_counts, tnX3_counts, tcX3_counts, tmX3_counts⟩ (isO_X3 hc) rfl (c_X3_counts hc e18) (by decide) (by decide) (by decide +kernel) (rest := []) rfl rfl (Nat.le_of_ble_eq_true rfl) rfl ?_
        refine v_if_ne hC (off := 7) (tgt := 48) (by decide +kernel) (by decide) h (fun hq h => ?_) (fun hq h => ?_)
        · refine v_blk hC (is := [(.iconst 0, (0 : Int32))]) (pc' := 49) (ls' := [(0, .ref (ga G c)), (1, .int x1), (2, .int x2), (3, .int x3)]) (st' := [.int (0 : Int32)]) (by decide +kernel) rfl ?_
          exact v_zret hC rfl h (by decide +kernel)
        · refine v_blk hC (is := [(.iconst 1, (1 : Int32))]) (pc' := 45) (ls' := [(0, .ref (ga G c)), (1, .int x1), (2, .int x2), (3, .int x3)]) (st' := [.int (1 : Int32)]) (by decide +kernel) rfl ?_
          refine v_goto hC (off := 4) (tgt := 49) (by decide +kernel) (by decide) ?_
          exact v_zret hC rfl h (by decide +kernel)
    · refine v_blk hC (is := [(.iconst 1, (1 : Int32))]) (pc' := 23) (ls' := [(0, .ref (ga G c)), (1, .int x1), (2, .int x2), (3, .int x3)]) (st' := [.int (1 : Int32)]) (by decide +kernel) rfl ?_
      exact v_zret hC rfl h (by decide +kernel)

def p_X3_friends_B44 (k4 : Int32 → Int32 → Mem → Option (Int32 × Mem)) (c : Nat) (x1 : Int32) (x2 : Int32) (x3 : Int32) (σ : Mem) : Option (Int32 × Mem) := k4 x2 (x3 + (1 : Int32)) σ
def p_X3_friends_B4 (k4 : Int32 → Int32 → Mem → Option (Int32 × Mem)) (c : Nat) (x1 : Int32) (x2 : Int32) (x3 : Int32) (σ : Mem) : Option (Int32 × Mem) := (lt (σ c 5) fun v1 => (if v1 ≤ x3 then some (x2, σ) else (if x3 = x1 then (p_X3_friends_B44 k4 c x1) x2 x3 σ else (bnd (p_X3_isLost c x3 σ) fun v2 s3 => (if v2 = 0 then (lt (s3 c 7) fun v5 => (bnd (p_X3_agree c x1 x3 v5 s3) fun v6 s7 => (if v6 = 0 then (p_X3_friends_B44 k4 c x1) x2 x3 s7 else (p_X3_friends_B44 k4 c x1) (x2 ||| ((1 : Int32) <<< (x3 &&& 31))) x3 s7))) else (p_X3_friends_B44 k4 c x1) x2 x3 s3)))))
def p_X3_friends_L4  (c : Nat) (x1 : Int32) : Nat → Int32 → Int32 → Mem → Option (Int32 × Mem)
  | 0 => fun _ _ _ => none
  | f + 1 => p_X3_friends_B4 (p_X3_friends_L4 c x1 f) c x1
def p_X3_friends (c : Nat) (x1 : Int32) (σ : Mem) : Option (Int32 × Mem) := (p_X3_friends_L4 c x1 1000) (0 : Int32) (0 : Int32) σ
set_option maxHeartbeats 4000000 in
set_option maxRecDepth 100000 in
theorem c_X3_friends {G : Gl} {c : Nat} {x1 : Int32} {σ : Mem} {res : Int32 × Mem} (hc : isCape c) (h : p_X3_friends c x1 σ = some res) : MetX G yX3_friends cX3_friends 4 (some .int) 3 [.ref (ga G c), .int x1] σ (some (.int res.1)) res.2 := by
  refine met_V (by decide +kernel) (Nat.le_of_ble_eq_true rfl) (fun X hC => ?_)
  have hC : Ok G 3 4 X cX3_friends RX3 (some .int) := hC
  have hB44 : ∀ (k4 : Int32 → Int32 → Mem → Option (Int32 × Mem)), (∀ (x2 : Int32), ∀ (x3 : Int32), ∀ σ : Mem, k4 x2 x3 σ = some res → V G 3 4 X ((some (.int res.1)), res.2) σ [(0, .ref (ga G c)), (1, .int x1), (2, .int x2), (3, .int x3)] [] 4) → ∀ (x2 : Int32), ∀ (x3 : Int32), ∀ σ : Mem, p_X3_friends_B44 k4 c x1 x2 x3 σ = some res → V G 3 4 X ((some (.int res.1)), res.2) σ [(0, .ref (ga G c)), (1, .int x1), (2, .int x2), (3, .int x3)] [] 44 := by
    intro k4 hk4 x2 x3 σ h
    unfold p_X3_friends_B44 at h
    refine v_blk hC (is := [(.iinc 3 1, (1 : Int32))]) (pc' := 47) (ls' := [(3, .int (x3 + (1 : Int32))), (0, .ref (ga G c)), (1, .int x1), (2, .int x2)]) (st' := []) (by decide +kernel) rfl ?_
    refine v_goto hC (off := (-43)) (tgt := 4) (by decide +kernel) (by decide) ?_
    refine v_sub [1, 2, 3, 0] (ls' := [(0, .ref (ga G c)), (1, .int x1), (2, .int x2), (3, .int (x3 + (1 : Int32)))]) rfl ?_
    exact hk4 _ _ _ h
  have hB4 : ∀ (k4 : Int32 → Int32 → Mem → Option (Int32 × Mem)), (∀ (x2 : Int32), ∀ (x3 : Int32), ∀ σ : Mem, k4 x2 x3 σ = some res → V G 3 4 X ((some (.int res.1)), res.2) σ [(0, .ref (ga G c)), (1, .int x1), (2, .int x2), (3, .int x3)] [] 4) → ∀ (x2 : Int32), ∀ (x3 : Int32), ∀ σ : Mem, p_X3_friends_B4 k4 c x1 x2 x3 σ = some res → V G 3 4 X ((some (.int res.1)), res.2) σ [(0, .ref (ga G c)), (1, .int x1), (2, .int x2), (3, .int x3)] [] 4 := by
    intro k4 hk4 x2 x3 σ h
    unfold p_X3_friends_B4 at h
    refine v_blk hC (is := [(.iload_n 3, 0), (.aload_n 0, 0)]) (pc' := 6) (ls' := [(0, .ref (ga G c)), (1, .int x1), (2, .int x2), (3, .int x3)]) (st' := [.ref (ga G c), .int x3]) (by decide +kernel) rfl ?_
    refine gX3_5 hC hc lfX3_65 (by decide +kernel) h (fun v1 h => ?_)
    refine v_icmp_ge hC (off := 41) (tgt := 50) (by decide +kernel) (by decide) h (fun hq h => ?_) (fun hq h => ?_)
    · refine v_blk hC (is := [(.iload_n 2, 0)]) (pc' := 51) (ls' := [(0, .ref (ga G c)), (1, .int x1), (2, .int x2), (3, .int x3)]) (st' := [.int x2]) (by decide +kernel) rfl ?_
      exact v_iret hC h (by decide +kernel)
    · refine v_blk hC (is := [(.iload_n 3, 0), (.iload_n 1, 0)]) (pc' := 14) (ls' := [(0, .ref (ga G c)), (1, .int x1), (2, .int x2), (3, .int x3)]) (st' := [.int x1, .int x3]) (by decide +kernel) rfl ?_
      refine v_icmp_eq hC (off := 30) (tgt := 44) (by decide +kernel) (by decide) h (fun hq h => ?_) (fun hq h => ?_)
      · exact (hB44 _ hk4) _ _ _ h
      · refine v_blk hC (is := [(.aload_n 0, 0), (.iload_n 3, 0)]) (pc' := 19) (ls' := [(0, .ref (ga G c)), (1, .int x1), (2, .int x2), (3, .int x3)]) (st' := [.int x3, .ref (ga G c)]) (by decide +kernel) rfl ?_
        obtain ⟨v2, s3, e4, h⟩ := bndI h
        refine v_cV (idx := 103) hC ⟨tt_at 350 (by decide +kernel) rfl, tiX3_isLost, tvX3_isLost, tnX3_isLost, tcX3_isLost, tmX3_isLost⟩ (isO_X3 hc) rfl (c_X3_isLost hc e4) (by decide) (by decide) (by decide +kernel) (rest := []) rfl rfl (Nat.le_of_ble_eq_true rfl) rfl ?_
        refine v_if_ne hC (off := 22) (tgt := 44) (by decide +kernel) (by decide) h (fun hq h => ?_) (fun hq h => ?_)
        · exact (hB44 _ hk4) _ _ _ h
        · refine v_blk hC (is := [(.aload_n 0, 0), (.iload_n 1, 0), (.iload_n 3, 0), (.aload_n 0, 0)]) (pc' := 29) (ls' := [(0, .ref (ga G c)), (1, .int x1), (2, .int x2), (3, .int x3)]) (st' := [.ref (ga G c), .int x3, .int x1, .ref (ga G c)]) (by decide +kernel) rfl ?_
          refine gX3_7 hC hc lfX3_52 (by decide +kernel) h (fun v5 h => ?_)
          obtain ⟨v6, s7, e8, h⟩ := bndI h
          refine v_cV (idx := 106) hC ⟨tt_at 445 (by decide +kernel) rfl, tiX3_agree, tvX3_agree, tnX3_agree, tcX3_agree, tmX3_agree⟩ (isO_X3 hc) rfl (c_X3_agree hc e8) (by decide) (by decide) (by decide +kernel) (rest := []) rfl rfl (Nat.le_of_ble_eq_true rfl) rfl ?_
          refine v_if_eq hC (off := 9) (tgt := 44) (by decide +kernel) (by decide) h (fun hq h => ?_) (fun hq h => ?_)
          · exact (hB44 _ hk4) _ _ _ h
          · refine v_blk hC (is := [(.iload_n 2, 0), (.iconst 1, (1 : Int32)), (.iload_n 3, 0), (.ishl, 0), (.ior, 0), (.istore_n 2, 0)]) (pc' := 44) (ls' := [(2, .int (x2 ||| ((1 : Int32) <<< (x3 &&& 31)))), (0, .ref (ga G c)), (1, .int x1), (3, .int x3)]) (st' := []) (by decide +kernel) rfl ?_
            refine v_sub [1, 2, 0, 3] (ls' := [(0, .ref (ga G c)), (1, .int x1), (2, .int (x2 ||| ((1 : Int32) <<< (x3 &&& 31)))), (3, .int x3)]) rfl ?_
            exact (hB44 _ hk4) _ _ _ h
  have hL4 : ∀ f : Nat, ∀ (x2 : Int32), ∀ (x3 : Int32), ∀ σ : Mem, p_X3_friends_L4 c x1 f x2 x3 σ = some res → V G 3 4 X ((some (.int res.1)), res.2) σ [(0, .ref (ga G c)), (1, .int x1), (2, .int x2), (3, .int x3)] [] 4 := by
    intro  f
    induction f with
    | zero => intro x2 x3 σ h; exact none_some h
    | succ f ih => intro x2 x3 σ h; exact hB4 (p_X3_friends_L4 c x1 f)  ih  x2 x3 σ h
  unfold p_X3_friends at h
  show V G 3 4 X ((some (.int res.1)), res.2) σ [(0, .ref (ga G c)), (1, .int x1)] [] 0
  refine v_blk hC (is := [(.iconst 0, (0 : Int32)), (.istore_n 2, 0), (.iconst 0, (0 : Int32)), (.istore_n 3, 0)]) (pc' := 4) (ls' := [(3, .int (0 : Int32)), (2, .int (0 : Int32)), (0, .ref (ga G c)), (1, .int x1)]) (st' := []) (by decide +kernel) rfl ?_
  refine v_sub [2, 3, 1, 0] (ls' := [(0, .ref (ga G c)), (1, .int x1), (2, .int (0 : Int32)), (3, .int (0 : Int32))]) rfl ?_
  exact (hL4 1000) _ _ _ h

def p_X3_savedBy_B33 (k4 : Int32 → Int32 → Mem → Option (Int32 × Mem)) (c : Nat) (x1 : Int32) (x3 : Int32) (t0 : Int32) (t1 : Int32) (σ : Mem) : Option (Int32 × Mem) := k4 (t0 ||| t1) (x3 + (1 : Int32)) σ
def p_X3_savedBy_B4 (k4 : Int32 → Int32 → Mem → Option (Int32 × Mem)) (c : Nat) (x1 : Int32) (x2 : Int32) (x3 : Int32) (σ : Mem) : Option (Int32 × Mem) := (lt (σ c 5) fun v1 => (if v1 ≤ x3 then some (x2, σ) else (lt (σ c 7) fun v2 => (bnd (p_X3_counts c x1 x3 v2 σ) fun v3 s4 => (if v3 = 0 then (p_X3_savedBy_B33 k4 c x1) x3 x2 (0 : Int32) s4 else (p_X3_savedBy_B33 k4 c x1) x3 x2 ((1 : Int32) <<< (x3 &&& 31)) s4)))))
def p_X3_savedBy_L4  (c : Nat) (x1 : Int32) : Nat → Int32 → Int32 → Mem → Option (Int32 × Mem)
  | 0 => fun _ _ _ => none
  | f + 1 => p_X3_savedBy_B4 (p_X3_savedBy_L4 c x1 f) c x1
def p_X3_savedBy (c : Nat) (x1 : Int32) (σ : Mem) : Option (Int32 × Mem) := (p_X3_savedBy_L4 c x1 1000) (0 : Int32) (0 : Int32) σ
set_option maxHeartbeats 4000000 in
set_option maxRecDepth 100000 in
theorem c_X3_savedBy {G : Gl} {c : Nat} {x1 : Int32} {σ : Mem} {res : Int32 × Mem} (hc : isCape c) (h : p_X3_savedBy c x1 σ = some res) : MetX G yX3_savedBy cX3_savedBy 4 (some .int) 2 [.ref (ga G c), .int x1] σ (some (.int res.1)) res.2 := by
  refine met_V (by decide +kernel) (Nat.le_of_ble_eq_true rfl) (fun X hC => ?_)
  have hC : Ok G 2 4 X cX3_savedBy RX3 (some .int) := hC
  have hB33 : ∀ (k4 : Int32 → Int32 → Mem → Option (Int32 × Mem)), (∀ (x2 : Int32), ∀ (x3 : Int32), ∀ σ : Mem, k4 x2 x3 σ = some res → V G 2 4 X ((some (.int res.1)), res.2) σ [(0, .ref (ga G c)), (1, .int x1), (2, .int x2), (3, .int x3)] [] 4) → ∀ (x3 : Int32), ∀ (t0 : Int32), ∀ (t1 : Int32), ∀ σ : Mem, p_X3_savedBy_B33 k4 c x1 x3 t0 t1 σ = some res → V G 2 4 X ((some (.int res.1)), res.2) σ [(0, .ref (ga G c)), (1, .int x1), (3, .int x3)] [.int t1, .int t0] 33 := by
    intro k4 hk4 x3 t0 t1 σ h
    unfold p_X3_savedBy_B33 at h
    refine v_blk hC (is := [(.ior, 0), (.istore_n 2, 0), (.iinc 3 1, (1 : Int32))]) (pc' := 38) (ls' := [(3, .int (x3 + (1 : Int32))), (2, .int (t0 ||| t1)), (0, .ref (ga G c)), (1, .int x1)]) (st' := []) (by decide +kernel) rfl ?_
    refine v_goto hC (off := (-34)) (tgt := 4) (by decide +kernel) (by decide) ?_
    refine v_sub [2, 3, 1, 0] (ls' := [(0, .ref (ga G c)), (1, .int x1), (2, .int (t0 ||| t1)), (3, .int (x3 + (1 : Int32)))]) rfl ?_
    exact hk4 _ _ _ h
  have hB4 : ∀ (k4 : Int32 → Int32 → Mem → Option (Int32 × Mem)), (∀ (x2 : Int32), ∀ (x3 : Int32), ∀ σ : Mem, k4 x2 x3 σ = some res → V G 2 4 X ((some (.int res.1)), res.2) σ [(0, .ref (ga G c)), (1, .int x1), (2, .int x2), (3, .int x3)] [] 4) → ∀ (x2 : Int32), ∀ (x3 : Int32), ∀ σ : Mem, p_X3_savedBy_B4 k4 c x1 x2 x3 σ = some res → V G 2 4 X ((some (.int res.1)), res.2) σ [(0, .ref (ga G c)), (1, .int x1), (2, .int x2), (3, .int x3)] [] 4 := by
    intro k4 hk4 x2 x3 σ h
    unfold p_X3_savedBy_B4 at h
    refine v_blk hC (is := [(.iload_n 3, 0), (.aload_n 0, 0)]) (pc' := 6) (ls' := [(0, .ref (ga G c)), (1, .int x1), (2, .int x2), (3, .int x3)]) (st' := [.ref (ga G c), .int x3]) (by decide +kernel) rfl ?_
    refine gX3_5 hC hc lfX3_65 (by decide +kernel) h (fun v1 h => ?_)
    refine v_icmp_ge hC (off := 32) (tgt := 41) (by decide +kernel) (by decide) h (fun hq h => ?_) (fun hq h => ?_)
    · refine v_blk hC (is := [(.iload_n 2, 0)]) (pc' := 42) (ls' := [(0, .ref (ga G c)), (1, .int x1), (2, .int x2), (3, .int x3)]) (st' := [.int x2]) (by decide +kernel) rfl ?_
      exact v_iret hC h (by decide +kernel)
    · refine v_blk hC (is := [(.iload_n 2, 0), (.aload_n 0, 0), (.iload_n 1, 0), (.iload_n 3, 0), (.aload_n 0, 0)]) (pc' := 17) (ls' := [(0, .ref (ga G c)), (1, .int x1), (2, .int x2), (3, .int x3)]) (st' := [.ref (ga G c), .int x3, .int x1, .ref (ga G c), .int x2]) (by decide +kernel) rfl ?_
      refine gX3_7 hC hc lfX3_52 (by decide +kernel) h (fun v2 h => ?_)
      obtain ⟨v3, s4, e5, h⟩ := bndI h
      refine v_cV (idx := 99) hC ⟨tt_at 463 (by decide +kernel) rfl, tiX3_counts, tvX3_counts, tnX3_counts, tcX3_counts, tmX3_counts⟩ (isO_X3 hc) rfl (c_X3_counts hc e5) (by decide) (by decide) (by decide +kernel) (rest := [.int x2]) rfl rfl (Nat.le_of_ble_eq_true rfl) rfl ?_
      refine v_if_eq hC (off := 9) (tgt := 32) (by decide +kernel) (by decide) h (fun hq h => ?_) (fun hq h => ?_)
      · refine v_blk hC (is := [(.iconst 0, (0 : Int32))]) (pc' := 33) (ls' := [(0, .ref (ga G c)), (1, .int x1), (2, .int x2), (3, .int x3)]) (st' := [.int (0 : Int32), .int x2]) (by decide +kernel) rfl ?_
        refine v_sub [0, 1, 3] (ls' := [(0, .ref (ga G c)), (1, .int x1), (3, .int x3)]) rfl ?_
        exact (hB33 _ hk4) _ _ _ _ h
      · refine v_blk hC (is := [(.iconst 1, (1 : Int32)), (.iload_n 3, 0), (.ishl, 0)]) (pc' := 29) (ls' := [(0, .ref (ga G c)), (1, .int x1), (2, .int x2), (3, .int x3)]) (st' := [.int ((1 : Int32) <<< (x3 &&& 31)), .int x2]) (by decide +kernel) rfl ?_
        refine v_goto hC (off := 4) (tgt := 33) (by decide +kernel) (by decide) ?_
        refine v_sub [0, 1, 3] (ls' := [(0, .ref (ga G c)), (1, .int x1), (3, .int x3)]) rfl ?_
        exact (hB33 _ hk4) _ _ _ _ h
  have hL4 : ∀ f : Nat, ∀ (x2 : Int32), ∀ (x3 : Int32), ∀ σ : Mem, p_X3_savedBy_L4 c x1 f x2 x3 σ = some res → V G 2 4 X ((some (.int res.1)), res.2) σ [(0, .ref (ga G c)), (1, .int x1), (2, .int x2), (3, .int x3)] [] 4 := by
    intro  f
    induction f with
    | zero => intro x2 x3 σ h; exact none_some h
    | succ f ih => intro x2 x3 σ h; exact hB4 (p_X3_savedBy_L4 c x1 f)  ih  x2 x3 σ h
  unfold p_X3_savedBy at h
  show V G 2 4 X ((some (.int res.1)), res.2) σ [(0, .ref (ga G c)), (1, .int x1)] [] 0
  refine v_blk hC (is := [(.iconst 0, (0 : Int32)), (.istore_n 2, 0), (.iconst 0, (0 : Int32)), (.istore_n 3, 0)]) (pc' := 4) (ls' := [(3, .int (0 : Int32)), (2, .int (0 : Int32)), (0, .ref (ga G c)), (1, .int x1)]) (st' := []) (by decide +kernel) rfl ?_
  refine v_sub [2, 3, 1, 0] (ls' := [(0, .ref (ga G c)), (1, .int x1), (2, .int (0 : Int32)), (3, .int (0 : Int32))]) rfl ?_
  exact (hL4 1000) _ _ _ h

def p_X3_saversOf_B33 (k4 : Int32 → Int32 → Mem → Option (Int32 × Mem)) (c : Nat) (x1 : Int32) (x3 : Int32) (t0 : Int32) (t1 : Int32) (σ : Mem) : Option (Int32 × Mem) := k4 (t0 ||| t1) (x3 + (1 : Int32)) σ
def p_X3_saversOf_B4 (k4 : Int32 → Int32 → Mem → Option (Int32 × Mem)) (c : Nat) (x1 : Int32) (x2 : Int32) (x3 : Int32) (σ : Mem) : Option (Int32 × Mem) := (lt (σ c 5) fun v1 => (if v1 ≤ x3 then some (x2, σ) else (lt (σ c 7) fun v2 => (bnd (p_X3_counts c x3 x1 v2 σ) fun v3 s4 => (if v3 = 0 then (p_X3_saversOf_B33 k4 c x1) x3 x2 (0 : Int32) s4 else (p_X3_saversOf_B33 k4 c x1) x3 x2 ((1 : Int32) <<< (x3 &&& 31)) s4)))))
def p_X3_saversOf_L4  (c : Nat) (x1 : Int32) : Nat → Int32 → Int32 → Mem → Option (Int32 × Mem)
  | 0 => fun _ _ _ => none
  | f + 1 => p_X3_saversOf_B4 (p_X3_saversOf_L4 c x1 f) c x1
def p_X3_saversOf (c : Nat) (x1 : Int32) (σ : Mem) : Option (Int32 × Mem) := (p_X3_saversOf_L4 c x1 1000) (0 : Int32) (0 : Int32) σ
set_option maxHeartbeats 4000000 in
set_option maxRecDepth 100000 in
theorem c_X3_saversOf {G : Gl} {c : Nat} {x1 : Int32} {σ : Mem} {res : Int32 × Mem} (hc : isCape c) (h : p_X3_saversOf c x1 σ = some res) : MetX G yX3_saversOf cX3_saversOf 4 (some .int) 2 [.ref (ga G c), .int x1] σ (some (.int res.1)) res.2 := by
  refine met_V (by decide +kernel) (Nat.le_of_ble_eq_true rfl) (fun X hC => ?_)
  have hC : Ok G 2 4 X cX3_saversOf RX3 (some .int) := hC
  have hB33 : ∀ (k4 : Int32 → Int32 → Mem → Option (Int32 × Mem)), (∀ (x2 : Int32), ∀ (x3 : Int32), ∀ σ : Mem, k4 x2 x3 σ = some res → V G 2 4 X ((some (.int res.1)), res.2) σ [(0, .ref (ga G c)), (1, .int x1), (2, .int x2), (3, .int x3)] [] 4) → ∀ (x3 : Int32), ∀ (t0 : Int32), ∀ (t1 : Int32), ∀ σ : Mem, p_X3_saversOf_B33 k4 c x1 x3 t0 t1 σ = some res → V G 2 4 X ((some (.int res.1)), res.2) σ [(0, .ref (ga G c)), (1, .int x1), (3, .int x3)] [.int t1, .int t0] 33 := by
    intro k4 hk4 x3 t0 t1 σ h
    unfold p_X3_saversOf_B33 at h
    refine v_blk hC (is := [(.ior, 0), (.istore_n 2, 0), (.iinc 3 1, (1 : Int32))]) (pc' := 38) (ls' := [(3, .int (x3 + (1 : Int32))), (2, .int (t0 ||| t1)), (0, .ref (ga G c)), (1, .int x1)]) (st' := []) (by decide +kernel) rfl ?_
    refine v_goto hC (off := (-34)) (tgt := 4) (by decide +kernel) (by decide) ?_
    refine v_sub [2, 3, 1, 0] (ls' := [(0, .ref (ga G c)), (1, .int x1), (2, .int (t0 ||| t1)), (3, .int (x3 + (1 : Int32)))]) rfl ?_
    exact hk4 _ _ _ h
  have hB4 : ∀ (k4 : Int32 → Int32 → Mem → Option (Int32 × Mem)), (∀ (x2 : Int32), ∀ (x3 : Int32), ∀ σ : Mem, k4 x2 x3 σ = some res → V G 2 4 X ((some (.int res.1)), res.2) σ [(0, .ref (ga G c)), (1, .int x1), (2, .int x2), (3, .int x3)] [] 4) → ∀ (x2 : Int32), ∀ (x3 : Int32), ∀ σ : Mem, p_X3_saversOf_B4 k4 c x1 x2 x3 σ = some res → V G 2 4 X ((some (.int res.1)), res.2) σ [(0, .ref (ga G c)), (1, .int x1), (2, .int x2), (3, .int x3)] [] 4 := by
    intro k4 hk4 x2 x3 σ h
    unfold p_X3_saversOf_B4 at h
    refine v_blk hC (is := [(.iload_n 3, 0), (.aload_n 0, 0)]) (pc' := 6) (ls' := [(0, .ref (ga G c)), (1, .int x1), (2, .int x2), (3, .int x3)]) (st' := [.ref (ga G c), .int x3]) (by decide +kernel) rfl ?_
    refine gX3_5 hC hc lfX3_65 (by decide +kernel) h (fun v1 h => ?_)
    refine v_icmp_ge hC (off := 32) (tgt := 41) (by decide +kernel) (by decide) h (fun hq h => ?_) (fun hq h => ?_)
    · refine v_blk hC (is := [(.iload_n 2, 0)]) (pc' := 42) (ls' := [(0, .ref (ga G c)), (1, .int x1), (2, .int x2), (3, .int x3)]) (st' := [.int x2]) (by decide +kernel) rfl ?_
      exact v_iret hC h (by decide +kernel)
    · refine v_blk hC (is := [(.iload_n 2, 0), (.aload_n 0, 0), (.iload_n 3, 0), (.iload_n 1, 0), (.aload_n 0, 0)]) (pc' := 17) (ls' := [(0, .ref (ga G c)), (1, .int x1), (2, .int x2), (3, .int x3)]) (st' := [.ref (ga G c), .int x1, .int x3, .ref (ga G c), .int x2]) (by decide +kernel) rfl ?_
      refine gX3_7 hC hc lfX3_52 (by decide +kernel) h (fun v2 h => ?_)
      obtain ⟨v3, s4, e5, h⟩ := bndI h
      refine v_cV (idx := 99) hC ⟨tt_at 463 (by decide +kernel) rfl, tiX3_counts, tvX3_counts, tnX3_counts, tcX3_counts, tmX3_counts⟩ (isO_X3 hc) rfl (c_X3_counts hc e5) (by decide) (by decide) (by decide +kernel) (rest := [.int x2]) rfl rfl (Nat.le_of_ble_eq_true rfl) rfl ?_
      refine v_if_eq hC (off := 9) (tgt := 32) (by decide +kernel) (by decide) h (fun hq h => ?_) (fun hq h => ?_)
      · refine v_blk hC (is := [(.iconst 0, (0 : Int32))]) (pc' := 33) (ls' := [(0, .ref (ga G c)), (1, .int x1), (2, .int x2), (3, .int x3)]) (st' := [.int (0 : Int32), .int x2]) (by decide +kernel) rfl ?_
        refine v_sub [0, 1, 3] (ls' := [(0, .ref (ga G c)), (1, .int x1), (3, .int x3)]) rfl ?_
        exact (hB33 _ hk4) _ _ _ _ h
      · refine v_blk hC (is := [(.iconst 1, (1 : Int32)), (.iload_n 3, 0), (.ishl, 0)]) (pc' := 29) (ls' := [(0, .ref (ga G c)), (1, .int x1), (2, .int x2), (3, .int x3)]) (st' := [.int ((1 : Int32) <<< (x3 &&& 31)), .int x2]) (by decide +kernel) rfl ?_
        refine v_goto hC (off := 4) (tgt := 33) (by decide +kernel) (by decide) ?_
        refine v_sub [0, 1, 3] (ls' := [(0, .ref (ga G c)), (1, .int x1), (3, .int x3)]) rfl ?_
        exact (hB33 _ hk4) _ _ _ _ h
  have hL4 : ∀ f : Nat, ∀ (x2 : Int32), ∀ (x3 : Int32), ∀ σ : Mem, p_X3_saversOf_L4 c x1 f x2 x3 σ = some res → V G 2 4 X ((some (.int res.1)), res.2) σ [(0, .ref (ga G c)), (1, .int x1), (2, .int x2), (3, .int x3)] [] 4 := by
    intro  f
    induction f with
    | zero => intro x2 x3 σ h; exact none_some h
    | succ f ih => intro x2 x3 σ h; exact hB4 (p_X3_saversOf_L4 c x1 f)  ih  x2 x3 σ h
  unfold p_X3_saversOf at h
  show V G 2 4 X ((some (.int res.1)), res.2) σ [(0, .ref (ga G c)), (1, .int x1)] [] 0
  refine v_blk hC (is := [(.iconst 0, (0 : Int32)), (.istore_n 2, 0), (.iconst 0, (0 : Int32)), (.istore_n 3, 0)]) (pc' := 4) (ls' := [(3, .int (0 : Int32)), (2, .int (0 : Int32)), (0, .ref (ga G c)), (1, .int x1)]) (st' := []) (by decide +kernel) rfl ?_
  refine v_sub [2, 3, 1, 0] (ls' := [(0, .ref (ga G c)), (1, .int x1), (2, .int (0 : Int32)), (3, .int (0 : Int32))]) rfl ?_
  exact (hL4 1000) _ _ _ h

def p_X3_savings_B4 (k4 : Int32 → Int32 → Mem → Option (Int32 × Mem)) (c : Nat) (x1 : Int32) (x2 : Int32) (σ : Mem) : Option (Int32 × Mem) := (lt (σ c 5) fun v1 => (if v1 ≤ x2 then some (x1, σ) else (bnd (p_X3_savedBy c x2 σ) fun v2 s3 => (bnd (p_J6_bitCount_0f7a4 v2 s3) fun v5 s6 => k4 (x1 + v5) (x2 + (1 : Int32)) s6))))
def p_X3_savings_L4  (c : Nat) : Nat → Int32 → Int32 → Mem → Option (Int32 × Mem)
  | 0 => fun _ _ _ => none
  | f + 1 => p_X3_savings_B4 (p_X3_savings_L4 c f) c
def p_X3_savings (c : Nat) (σ : Mem) : Option (Int32 × Mem) := (p_X3_savings_L4 c 1000) (0 : Int32) (0 : Int32) σ
set_option maxHeartbeats 4000000 in
set_option maxRecDepth 100000 in
theorem c_X3_savings {G : Gl} {c : Nat} {σ : Mem} {res : Int32 × Mem} (hc : isCape c) (h : p_X3_savings c σ = some res) : MetX G yX3_savings cX3_savings 3 (some .int) 3 [.ref (ga G c)] σ (some (.int res.1)) res.2 := by
  refine met_V (by decide +kernel) (Nat.le_of_ble_eq_true rfl) (fun X hC => ?_)
  have hC : Ok G 3 3 X cX3_savings RX3 (some .int) := hC
  have hB4 : ∀ (k4 : Int32 → Int32 → Mem → Option (Int32 × Mem)), (∀ (x1 : Int32), ∀ (x2 : Int32), ∀ σ : Mem, k4 x1 x2 σ = some res → V G 3 3 X ((some (.int res.1)), res.2) σ [(0, .ref (ga G c)), (1, .int x1), (2, .int x2)] [] 4) → ∀ (x1 : Int32), ∀ (x2 : Int32), ∀ σ : Mem, p_X3_savings_B4 k4 c x1 x2 σ = some res → V G 3 3 X ((some (.int res.1)), res.2) σ [(0, .ref (ga G c)), (1, .int x1), (2, .int x2)] [] 4 := by
    intro k4 hk4 x1 x2 σ h
    unfold p_X3_savings_B4 at h
    refine v_blk hC (is := [(.iload_n 2, 0), (.aload_n 0, 0)]) (pc' := 6) (ls' := [(0, .ref (ga G c)), (1, .int x1), (2, .int x2)]) (st' := [.ref (ga G c), .int x2]) (by decide +kernel) rfl ?_
    refine gX3_5 hC hc lfX3_65 (by decide +kernel) h (fun v1 h => ?_)
    refine v_icmp_ge hC (off := 20) (tgt := 29) (by decide +kernel) (by decide) h (fun hq h => ?_) (fun hq h => ?_)
    · refine v_blk hC (is := [(.iload_n 1, 0)]) (pc' := 30) (ls' := [(0, .ref (ga G c)), (1, .int x1), (2, .int x2)]) (st' := [.int x1]) (by decide +kernel) rfl ?_
      exact v_iret hC h (by decide +kernel)
    · refine v_blk hC (is := [(.iload_n 1, 0), (.aload_n 0, 0), (.iload_n 2, 0)]) (pc' := 15) (ls' := [(0, .ref (ga G c)), (1, .int x1), (2, .int x2)]) (st' := [.int x2, .ref (ga G c), .int x1]) (by decide +kernel) rfl ?_
      obtain ⟨v2, s3, e4, h⟩ := bndI h
      refine v_cV (idx := 109) hC ⟨tt_at 837 (by decide +kernel) rfl, tiX3_savedBy, tvX3_savedBy, tnX3_savedBy, tcX3_savedBy, tmX3_savedBy⟩ (isO_X3 hc) rfl (c_X3_savedBy hc e4) (by decide) (by decide) (by decide +kernel) (rest := [.int x1]) rfl rfl (Nat.le_of_ble_eq_true rfl) rfl ?_
      obtain ⟨v5, s6, e7, h⟩ := bndI h
      refine v_cS (idx := 82) hC ⟨tt_at 471 (by decide +kernel) rfl, tsJ6_bitCount_0f7a4, tnJ6_bitCount_0f7a4, tcJ6_bitCount_0f7a4, tmJ6_bitCount_0f7a4⟩ (c_J6_bitCount_0f7a4 e7) (by decide) (by decide) (by decide +kernel) (rest := [.int x1]) rfl rfl (Nat.le_of_ble_eq_true rfl) rfl ?_
      refine v_blk hC (is := [(.iadd, 0), (.istore_n 1, 0), (.iinc 2 1, (1 : Int32))]) (pc' := 26) (ls' := [(2, .int (x2 + (1 : Int32))), (1, .int (x1 + v5)), (0, .ref (ga G c))]) (st' := []) (by decide +kernel) rfl ?_
      refine v_goto hC (off := (-22)) (tgt := 4) (by decide +kernel) (by decide) ?_
      refine v_sub [2, 1, 0] (ls' := [(0, .ref (ga G c)), (1, .int (x1 + v5)), (2, .int (x2 + (1 : Int32)))]) rfl ?_
      exact hk4 _ _ _ h
  have hL4 : ∀ f : Nat, ∀ (x1 : Int32), ∀ (x2 : Int32), ∀ σ : Mem, p_X3_savings_L4 c f x1 x2 σ = some res → V G 3 3 X ((some (.int res.1)), res.2) σ [(0, .ref (ga G c)), (1, .int x1), (2, .int x2)] [] 4 := by
    intro  f
    induction f with
    | zero => intro x1 x2 σ h; exact none_some h
    | succ f ih => intro x1 x2 σ h; exact hB4 (p_X3_savings_L4 c f)  ih  x1 x2 σ h
  unfold p_X3_savings at h
  show V G 3 3 X ((some (.int res.1)), res.2) σ [(0, .ref (ga G c))] [] 0
  refine v_blk hC (is := [(.iconst 0, (0 : Int32)), (.istore_n 1, 0), (.iconst 0, (0 : Int32)), (.istore_n 2, 0)]) (pc' := 4) (ls' := [(2, .int (0 : Int32)), (1, .int (0 : Int32)), (0, .ref (ga G c))]) (st' := []) (by decide +kernel) rfl ?_
  refine v_sub [2, 1, 0] (ls' := [(0, .ref (ga G c)), (1, .int (0 : Int32)), (2, .int (0 : Int32))]) rfl ?_
  exact (hL4 1000) _ _ _ h

def p_X3_skillOf_B39 (k4 : Int32 → Int32 → Mem → Option (Int32 × Mem)) (c : Nat) (x1 : Int32) (x3 : Int32) (t0 : Int32) (t1 : Int32) (σ : Mem) : Option (Int32 × Mem) := k4 (t0 + t1) (x3 + (1 : Int32)) σ
def p_X3_skillOf_B4 (k4 : Int32 → Int32 → Mem → Option (Int32 × Mem)) (c : Nat) (x1 : Int32) (x2 : Int32) (x3 : Int32) (σ : Mem) : Option (Int32 × Mem) := (lt (σ c 5) fun v1 => (if v1 ≤ x3 then some (x2, σ) else (bnd (p_X11_holds x1 x3 σ) fun v2 s3 => (if v2 = 0 then (p_X3_skillOf_B39 k4 c x1) x3 x2 (0 : Int32) s3 else (bnd (p_X3_kindOf c x3 s3) fun v5 s6 => (if x3 < 0 ∨ 8 ≤ (x3).toNatClampNeg then none else lt (s6 (27 + c) (x3).toNatClampNeg) fun v8 => (bnd (p_K_skill v5 v8 s6) fun v9 s10 => (p_X3_skillOf_B39 k4 c x1) x3 x2 v9 s10)))))))
def p_X3_skillOf_L4  (c : Nat) (x1 : Int32) : Nat → Int32 → Int32 → Mem → Option (Int32 × Mem)
  | 0 => fun _ _ _ => none
  | f + 1 => p_X3_skillOf_B4 (p_X3_skillOf_L4 c x1 f) c x1
def p_X3_skillOf (c : Nat) (x1 : Int32) (σ : Mem) : Option (Int32 × Mem) := (p_X3_skillOf_L4 c x1 1000) (0 : Int32) (0 : Int32) σ
set_option maxHeartbeats 4000000 in
set_option maxRecDepth 100000 in
theorem c_X3_skillOf {G : Gl} {c : Nat} {x1 : Int32} {σ : Mem} {res : Int32 × Mem} (hc : isCape c) (h : p_X3_skillOf c x1 σ = some res) : MetX G yX3_skillOf cX3_skillOf 4 (some .int) 4 [.ref (ga G c), .int x1] σ (some (.int res.1)) res.2 := by
  refine met_V (by decide +kernel) (Nat.le_of_ble_eq_true rfl) (fun X hC => ?_)
  have hC : Ok G 4 4 X cX3_skillOf RX3 (some .int) := hC
  have hB39 : ∀ (k4 : Int32 → Int32 → Mem → Option (Int32 × Mem)), (∀ (x2 : Int32), ∀ (x3 : Int32), ∀ σ : Mem, k4 x2 x3 σ = some res → V G 4 4 X ((some (.int res.1)), res.2) σ [(0, .ref (ga G c)), (1, .int x1), (2, .int x2), (3, .int x3)] [] 4) → ∀ (x3 : Int32), ∀ (t0 : Int32), ∀ (t1 : Int32), ∀ σ : Mem, p_X3_skillOf_B39 k4 c x1 x3 t0 t1 σ = some res → V G 4 4 X ((some (.int res.1)), res.2) σ [(0, .ref (ga G c)), (1, .int x1), (3, .int x3)] [.int t1, .int t0] 39 := by
    intro k4 hk4 x3 t0 t1 σ h
    unfold p_X3_skillOf_B39 at h
    refine v_blk hC (is := [(.iadd, 0), (.istore_n 2, 0), (.iinc 3 1, (1 : Int32))]) (pc' := 44) (ls' := [(3, .int (x3 + (1 : Int32))), (2, .int (t0 + t1)), (0, .ref (ga G c)), (1, .int x1)]) (st' := []) (by decide +kernel) rfl ?_
    refine v_goto hC (off := (-40)) (tgt := 4) (by decide +kernel) (by decide) ?_
    refine v_sub [2, 3, 1, 0] (ls' := [(0, .ref (ga G c)), (1, .int x1), (2, .int (t0 + t1)), (3, .int (x3 + (1 : Int32)))]) rfl ?_
    exact hk4 _ _ _ h
  have hB4 : ∀ (k4 : Int32 → Int32 → Mem → Option (Int32 × Mem)), (∀ (x2 : Int32), ∀ (x3 : Int32), ∀ σ : Mem, k4 x2 x3 σ = some res → V G 4 4 X ((some (.int res.1)), res.2) σ [(0, .ref (ga G c)), (1, .int x1), (2, .int x2), (3, .int x3)] [] 4) → ∀ (x2 : Int32), ∀ (x3 : Int32), ∀ σ : Mem, p_X3_skillOf_B4 k4 c x1 x2 x3 σ = some res → V G 4 4 X ((some (.int res.1)), res.2) σ [(0, .ref (ga G c)), (1, .int x1), (2, .int x2), (3, .int x3)] [] 4 := by
    intro k4 hk4 x2 x3 σ h
    unfold p_X3_skillOf_B4 at h
    refine v_blk hC (is := [(.iload_n 3, 0), (.aload_n 0, 0)]) (pc' := 6) (ls' := [(0, .ref (ga G c)), (1, .int x1), (2, .int x2), (3, .int x3)]) (st' := [.ref (ga G c), .int x3]) (by decide +kernel) rfl ?_
    refine gX3_5 hC hc lfX3_65 (by decide +kernel) h (fun v1 h => ?_)
    refine v_icmp_ge hC (off := 38) (tgt := 47) (by decide +kernel) (by decide) h (fun hq h => ?_) (fun hq h => ?_)
    · refine v_blk hC (is := [(.iload_n 2, 0)]) (pc' := 48) (ls' := [(0, .ref (ga G c)), (1, .int x1), (2, .int x2), (3, .int x3)]) (st' := [.int x2]) (by decide +kernel) rfl ?_
      exact v_iret hC h (by decide +kernel)
    · refine v_blk hC (is := [(.iload_n 2, 0), (.iload_n 1, 0), (.iload_n 3, 0)]) (pc' := 15) (ls' := [(0, .ref (ga G c)), (1, .int x1), (2, .int x2), (3, .int x3)]) (st' := [.int x3, .int x1, .int x2]) (by decide +kernel) rfl ?_
      obtain ⟨v2, s3, e4, h⟩ := bndI h
      refine v_cSN (idx := 78) hC ⟨List.mem_of_getElem? (i := 24) (by decide +kernel), tsX11_holds, tnX11_holds, tcX11_holds, tmX11_holds⟩ (c_X11_holds e4) (by decide) (by decide) (by decide +kernel) (rest := [.int x2]) rfl rfl (Nat.le_of_ble_eq_true rfl) rfl ?_
      refine v_if_eq hC (off := 20) (tgt := 38) (by decide +kernel) (by decide) h (fun hq h => ?_) (fun hq h => ?_)
      · refine v_blk hC (is := [(.iconst 0, (0 : Int32))]) (pc' := 39) (ls' := [(0, .ref (ga G c)), (1, .int x1), (2, .int x2), (3, .int x3)]) (st' := [.int (0 : Int32), .int x2]) (by decide +kernel) rfl ?_
        refine v_sub [0, 1, 3] (ls' := [(0, .ref (ga G c)), (1, .int x1), (3, .int x3)]) rfl ?_
        exact (hB39 _ hk4) _ _ _ _ h
      · refine v_blk hC (is := [(.aload_n 0, 0), (.iload_n 3, 0)]) (pc' := 23) (ls' := [(0, .ref (ga G c)), (1, .int x1), (2, .int x2), (3, .int x3)]) (st' := [.int x3, .ref (ga G c), .int x2]) (by decide +kernel) rfl ?_
        obtain ⟨v5, s6, e7, h⟩ := bndI h
        refine v_cV (idx := 91) hC ⟨tt_at 380 (by decide +kernel) rfl, tiX3_kindOf, tvX3_kindOf, tnX3_kindOf, tcX3_kindOf, tmX3_kindOf⟩ (isO_X3 hc) rfl (c_X3_kindOf hc e7) (by decide) (by decide) (by decide +kernel) (rest := [.int x2]) rfl rfl (Nat.le_of_ble_eq_true rfl) rfl ?_
        refine v_blk hC (is := [(.aload_n 0, 0)]) (pc' := 27) (ls' := [(0, .ref (ga G c)), (1, .int x1), (2, .int x2), (3, .int x3)]) (st' := [.ref (ga G c), .ref (ga G v5), .int x2]) (by decide +kernel) rfl ?_
        refine gX3_2 hC hc lfX3_43 (by decide +kernel) ?_
        refine v_blk hC (is := [(.iload_n 3, 0)]) (pc' := 31) (ls' := [(0, .ref (ga G c)), (1, .int x1), (2, .int x2), (3, .int x3)]) (st' := [.int x3, .ref (ga G (27 + c)), .ref (ga G v5), .int x2]) (by decide +kernel) rfl ?_
        refine v_iald hC (isA_figure hc) (al_figure hc) (by decide +kernel) h (fun v8 h => ?_)
        obtain ⟨v9, s10, e11, h⟩ := bndI h
        refine kX3_skill hC e11 (by decide) (by decide +kernel) (rest := [.int x2]) rfl (Nat.le_of_ble_eq_true rfl) rfl ?_
        refine v_goto hC (off := 4) (tgt := 39) (by decide +kernel) (by decide) ?_
        refine v_sub [0, 1, 3] (ls' := [(0, .ref (ga G c)), (1, .int x1), (3, .int x3)]) rfl ?_
        exact (hB39 _ hk4) _ _ _ _ h
  have hL4 : ∀ f : Nat, ∀ (x2 : Int32), ∀ (x3 : Int32), ∀ σ : Mem, p_X3_skillOf_L4 c x1 f x2 x3 σ = some res → V G 4 4 X ((some (.int res.1)), res.2) σ [(0, .ref (ga G c)), (1, .int x1), (2, .int x2), (3, .int x3)] [] 4 := by
    intro  f
    induction f with
    | zero => intro x2 x3 σ h; exact none_some h
    | succ f ih => intro x2 x3 σ h; exact hB4 (p_X3_skillOf_L4 c x1 f)  ih  x2 x3 σ h
  unfold p_X3_skillOf at h
  show V G 4 4 X ((some (.int res.1)), res.2) σ [(0, .ref (ga G c)), (1, .int x1)] [] 0
  refine v_blk hC (is := [(.iconst 0, (0 : Int32)), (.istore_n 2, 0), (.iconst 0, (0 : Int32)), (.istore_n 3, 0)]) (pc' := 4) (ls' := [(3, .int (0 : Int32)), (2, .int (0 : Int32)), (0, .ref (ga G c)), (1, .int x1)]) (st' := []) (by decide +kernel) rfl ?_
  refine v_sub [2, 3, 1, 0] (ls' := [(0, .ref (ga G c)), (1, .int x1), (2, .int (0 : Int32)), (3, .int (0 : Int32))]) rfl ?_
  exact (hL4 1000) _ _ _ h

def p_X3_payOf_B39 (k4 : Int32 → Int32 → Mem → Option (Int32 × Mem)) (c : Nat) (x1 : Int32) (x3 : Int32) (t0 : Int32) (t1 : Int32) (σ : Mem) : Option (Int32 × Mem) := k4 (t0 + t1) (x3 + (1 : Int32)) σ
def p_X3_payOf_B4 (k4 : Int32 → Int32 → Mem → Option (Int32 × Mem)) (c : Nat) (x1 : Int32) (x2 : Int32) (x3 : Int32) (σ : Mem) : Option (Int32 × Mem) := (lt (σ c 5) fun v1 => (if v1 ≤ x3 then some (x2, σ) else (bnd (p_X11_holds x1 x3 σ) fun v2 s3 => (if v2 = 0 then (p_X3_payOf_B39 k4 c x1) x3 x2 (0 : Int32) s3 else (bnd (p_X3_kindOf c x3 s3) fun v5 s6 => (if x3 < 0 ∨ 8 ≤ (x3).toNatClampNeg then none else lt (s6 (27 + c) (x3).toNatClampNeg) fun v8 => (bnd (p_K_pay v5 v8 s6) fun v9 s10 => (p_X3_payOf_B39 k4 c x1) x3 x2 v9 s10)))))))
def p_X3_payOf_L4  (c : Nat) (x1 : Int32) : Nat → Int32 → Int32 → Mem → Option (Int32 × Mem)
  | 0 => fun _ _ _ => none
  | f + 1 => p_X3_payOf_B4 (p_X3_payOf_L4 c x1 f) c x1
def p_X3_payOf (c : Nat) (x1 : Int32) (σ : Mem) : Option (Int32 × Mem) := (p_X3_payOf_L4 c x1 1000) (0 : Int32) (0 : Int32) σ
set_option maxHeartbeats 4000000 in
set_option maxRecDepth 100000 in
theorem c_X3_payOf {G : Gl} {c : Nat} {x1 : Int32} {σ : Mem} {res : Int32 × Mem} (hc : isCape c) (h : p_X3_payOf c x1 σ = some res) : MetX G yX3_payOf cX3_payOf 4 (some .int) 4 [.ref (ga G c), .int x1] σ (some (.int res.1)) res.2 := by
  refine met_V (by decide +kernel) (Nat.le_of_ble_eq_true rfl) (fun X hC => ?_)
  have hC : Ok G 4 4 X cX3_payOf RX3 (some .int) := hC
  have hB39 : ∀ (k4 : Int32 → Int32 → Mem → Option (Int32 × Mem)), (∀ (x2 : Int32), ∀ (x3 : Int32), ∀ σ : Mem, k4 x2 x3 σ = some res → V G 4 4 X ((some (.int res.1)), res.2) σ [(0, .ref (ga G c)), (1, .int x1), (2, .int x2), (3, .int x3)] [] 4) → ∀ (x3 : Int32), ∀ (t0 : Int32), ∀ (t1 : Int32), ∀ σ : Mem, p_X3_payOf_B39 k4 c x1 x3 t0 t1 σ = some res → V G 4 4 X ((some (.int res.1)), res.2) σ [(0, .ref (ga G c)), (1, .int x1), (3, .int x3)] [.int t1, .int t0] 39 := by
    intro k4 hk4 x3 t0 t1 σ h
    unfold p_X3_payOf_B39 at h
    refine v_blk hC (is := [(.iadd, 0), (.istore_n 2, 0), (.iinc 3 1, (1 : Int32))]) (pc' := 44) (ls' := [(3, .int (x3 + (1 : Int32))), (2, .int (t0 + t1)), (0, .ref (ga G c)), (1, .int x1)]) (st' := []) (by decide +kernel) rfl ?_
    refine v_goto hC (off := (-40)) (tgt := 4) (by decide +kernel) (by decide) ?_
    refine v_sub [2, 3, 1, 0] (ls' := [(0, .ref (ga G c)), (1, .int x1), (2, .int (t0 + t1)), (3, .int (x3 + (1 : Int32)))]) rfl ?_
    exact hk4 _ _ _ h
  have hB4 : ∀ (k4 : Int32 → Int32 → Mem → Option (Int32 × Mem)), (∀ (x2 : Int32), ∀ (x3 : Int32), ∀ σ : Mem, k4 x2 x3 σ = some res → V G 4 4 X ((some (.int res.1)), res.2) σ [(0, .ref (ga G c)), (1, .int x1), (2, .int x2), (3, .int x3)] [] 4) → ∀ (x2 : Int32), ∀ (x3 : Int32), ∀ σ : Mem, p_X3_payOf_B4 k4 c x1 x2 x3 σ = some res → V G 4 4 X ((some (.int res.1)), res.2) σ [(0, .ref (ga G c)), (1, .int x1), (2, .int x2), (3, .int x3)] [] 4 := by
    intro k4 hk4 x2 x3 σ h
    unfold p_X3_payOf_B4 at h
    refine v_blk hC (is := [(.iload_n 3, 0), (.aload_n 0, 0)]) (pc' := 6) (ls' := [(0, .ref (ga G c)), (1, .int x1), (2, .int x2), (3, .int x3)]) (st' := [.ref (ga G c), .int x3]) (by decide +kernel) rfl ?_
    refine gX3_5 hC hc lfX3_65 (by decide +kernel) h (fun v1 h => ?_)
    refine v_icmp_ge hC (off := 38) (tgt := 47) (by decide +kernel) (by decide) h (fun hq h => ?_) (fun hq h => ?_)
    · refine v_blk hC (is := [(.iload_n 2, 0)]) (pc' := 48) (ls' := [(0, .ref (ga G c)), (1, .int x1), (2, .int x2), (3, .int x3)]) (st' := [.int x2]) (by decide +kernel) rfl ?_
      exact v_iret hC h (by decide +kernel)
    · refine v_blk hC (is := [(.iload_n 2, 0), (.iload_n 1, 0), (.iload_n 3, 0)]) (pc' := 15) (ls' := [(0, .ref (ga G c)), (1, .int x1), (2, .int x2), (3, .int x3)]) (st' := [.int x3, .int x1, .int x2]) (by decide +kernel) rfl ?_
      obtain ⟨v2, s3, e4, h⟩ := bndI h
      refine v_cSN (idx := 78) hC ⟨List.mem_of_getElem? (i := 24) (by decide +kernel), tsX11_holds, tnX11_holds, tcX11_holds, tmX11_holds⟩ (c_X11_holds e4) (by decide) (by decide) (by decide +kernel) (rest := [.int x2]) rfl rfl (Nat.le_of_ble_eq_true rfl) rfl ?_
      refine v_if_eq hC (off := 20) (tgt := 38) (by decide +kernel) (by decide) h (fun hq h => ?_) (fun hq h => ?_)
      · refine v_blk hC (is := [(.iconst 0, (0 : Int32))]) (pc' := 39) (ls' := [(0, .ref (ga G c)), (1, .int x1), (2, .int x2), (3, .int x3)]) (st' := [.int (0 : Int32), .int x2]) (by decide +kernel) rfl ?_
        refine v_sub [0, 1, 3] (ls' := [(0, .ref (ga G c)), (1, .int x1), (3, .int x3)]) rfl ?_
        exact (hB39 _ hk4) _ _ _ _ h
      · refine v_blk hC (is := [(.aload_n 0, 0), (.iload_n 3, 0)]) (pc' := 23) (ls' := [(0, .ref (ga G c)), (1, .int x1), (2, .int x2), (3, .int x3)]) (st' := [.int x3, .ref (ga G c), .int x2]) (by decide +kernel) rfl ?_
        obtain ⟨v5, s6, e7, h⟩ := bndI h
        refine v_cV (idx := 91) hC ⟨tt_at 380 (by decide +kernel) rfl, tiX3_kindOf, tvX3_kindOf, tnX3_kindOf, tcX3_kindOf, tmX3_kindOf⟩ (isO_X3 hc) rfl (c_X3_kindOf hc e7) (by decide) (by decide) (by decide +kernel) (rest := [.int x2]) rfl rfl (Nat.le_of_ble_eq_true rfl) rfl ?_
        refine v_blk hC (is := [(.aload_n 0, 0)]) (pc' := 27) (ls' := [(0, .ref (ga G c)), (1, .int x1), (2, .int x2), (3, .int x3)]) (st' := [.ref (ga G c), .ref (ga G v5), .int x2]) (by decide +kernel) rfl ?_
        refine gX3_2 hC hc lfX3_43 (by decide +kernel) ?_
        refine v_blk hC (is := [(.iload_n 3, 0)]) (pc' := 31) (ls' := [(0, .ref (ga G c)), (1, .int x1), (2, .int x2), (3, .int x3)]) (st' := [.int x3, .ref (ga G (27 + c)), .ref (ga G v5), .int x2]) (by decide +kernel) rfl ?_
        refine v_iald hC (isA_figure hc) (al_figure hc) (by decide +kernel) h (fun v8 h => ?_)
        obtain ⟨v9, s10, e11, h⟩ := bndI h
        refine kX3_pay hC e11 (by decide) (by decide +kernel) (rest := [.int x2]) rfl (Nat.le_of_ble_eq_true rfl) rfl ?_
        refine v_goto hC (off := 4) (tgt := 39) (by decide +kernel) (by decide) ?_
        refine v_sub [0, 1, 3] (ls' := [(0, .ref (ga G c)), (1, .int x1), (3, .int x3)]) rfl ?_
        exact (hB39 _ hk4) _ _ _ _ h
  have hL4 : ∀ f : Nat, ∀ (x2 : Int32), ∀ (x3 : Int32), ∀ σ : Mem, p_X3_payOf_L4 c x1 f x2 x3 σ = some res → V G 4 4 X ((some (.int res.1)), res.2) σ [(0, .ref (ga G c)), (1, .int x1), (2, .int x2), (3, .int x3)] [] 4 := by
    intro  f
    induction f with
    | zero => intro x2 x3 σ h; exact none_some h
    | succ f ih => intro x2 x3 σ h; exact hB4 (p_X3_payOf_L4 c x1 f)  ih  x2 x3 σ h
  unfold p_X3_payOf at h
  show V G 4 4 X ((some (.int res.1)), res.2) σ [(0, .ref (ga G c)), (1, .int x1)] [] 0
  refine v_blk hC (is := [(.iconst 0, (0 : Int32)), (.istore_n 2, 0), (.iconst 0, (0 : Int32)), (.istore_n 3, 0)]) (pc' := 4) (ls' := [(3, .int (0 : Int32)), (2, .int (0 : Int32)), (0, .ref (ga G c)), (1, .int x1)]) (st' := []) (by decide +kernel) rfl ?_
  refine v_sub [2, 3, 1, 0] (ls' := [(0, .ref (ga G c)), (1, .int x1), (2, .int (0 : Int32)), (3, .int (0 : Int32))]) rfl ?_
  exact (hL4 1000) _ _ _ h

def p_X3_adds (c : Nat) (x1 : Int32) (x2 : Int32) (σ : Mem) : Option (Int32 × Mem) := (bnd (p_X11_isKind x1 σ) fun v1 s2 => (if v1 = 0 then some ((-1 : Int32), s2) else (bnd (p_X11_within x2 (0 : Int32) (9 : Int32) s2) fun v4 s5 => (if v4 = 0 then some ((-1 : Int32), s5) else (lt (s5 c 5) fun v7 => (if v7 < (8 : Int32) then (lt (s5 c 5) fun v8 => (if v8 < 0 ∨ 8 ≤ (v8).toNatClampNeg then none else wr s5 (24 + c) (v8).toNatClampNeg x1 fun s9 => (lt (s9 c 5) fun v10 => (if v10 < 0 ∨ 8 ≤ (v10).toNatClampNeg then none else wr s9 (27 + c) (v10).toNatClampNeg x2 fun s11 => (lt (s11 c 5) fun v12 => (if v12 < 0 ∨ 8 ≤ (v12).toNatClampNeg then none else wr s11 (30 + c) (v12).toNatClampNeg (9 : Int32) fun s13 => (lt (s13 c 5) fun v14 => (wr s13 c 5 (v14 + (1 : Int32)) fun s15 => (lt (s15 c 5) fun v16 => some ((v16 - (1 : Int32)), s15)))))))))) else some ((-2 : Int32), s5)))))))
set_option maxHeartbeats 4000000 in
set_option maxRecDepth 100000 in
theorem c_X3_adds {G : Gl} {c : Nat} {x1 : Int32} {x2 : Int32} {σ : Mem} {res : Int32 × Mem} (hc : isCape c) (h : p_X3_adds c x1 x2 σ = some res) : MetX G yX3_adds cX3_adds 3 (some .int) 3 [.ref (ga G c), .int x1, .int x2] σ (some (.int res.1)) res.2 := by
  refine met_V (by decide +kernel) (Nat.le_of_ble_eq_true rfl) (fun X hC => ?_)
  have hC : Ok G 3 3 X cX3_adds RX3 (some .int) := hC
  unfold p_X3_adds at h
  show V G 3 3 X ((some (.int res.1)), res.2) σ [(0, .ref (ga G c)), (1, .int x1), (2, .int x2)] [] 0
  refine v_blk hC (is := [(.iload_n 1, 0)]) (pc' := 1) (ls' := [(0, .ref (ga G c)), (1, .int x1), (2, .int x2)]) (st' := [.int x1]) (by decide +kernel) rfl ?_
  obtain ⟨v1, s2, e3, h⟩ := bndI h
  refine v_cSN (idx := 118) hC ⟨List.mem_of_getElem? (i := 22) (by decide +kernel), tsX11_isKind, tnX11_isKind, tcX11_isKind, tmX11_isKind⟩ (c_X11_isKind e3) (by decide) (by decide) (by decide +kernel) (rest := []) rfl rfl (Nat.le_of_ble_eq_true rfl) rfl ?_
  refine v_if_eq hC (off := 13) (tgt := 17) (by decide +kernel) (by decide) h (fun hq h => ?_) (fun hq h => ?_)
  · refine v_blk hC (is := [(.iconst (-1), (-1 : Int32))]) (pc' := 18) (ls' := [(0, .ref (ga G c)), (1, .int x1), (2, .int x2)]) (st' := [.int (-1 : Int32)]) (by decide +kernel) rfl ?_
    exact v_iret hC h (by decide +kernel)
  · refine v_blk hC (is := [(.iload_n 2, 0), (.iconst 0, (0 : Int32)), (.bipush 9, (9 : Int32))]) (pc' := 11) (ls' := [(0, .ref (ga G c)), (1, .int x1), (2, .int x2)]) (st' := [.int (9 : Int32), .int (0 : Int32), .int x2]) (by decide +kernel) rfl ?_
    obtain ⟨v4, s5, e6, h⟩ := bndI h
    refine v_cSN (idx := 121) hC ⟨List.mem_of_getElem? (i := 23) (by decide +kernel), tsX11_within, tnX11_within, tcX11_within, tmX11_within⟩ (c_X11_within e6) (by decide) (by decide) (by decide +kernel) (rest := []) rfl rfl (Nat.le_of_ble_eq_true rfl) rfl ?_
    refine v_if_ne hC (off := 5) (tgt := 19) (by decide +kernel) (by decide) h (fun hq h => ?_) (fun hq h => ?_)
    · refine v_blk hC (is := [(.aload_n 0, 0)]) (pc' := 20) (ls' := [(0, .ref (ga G c)), (1, .int x1), (2, .int x2)]) (st' := [.ref (ga G c)]) (by decide +kernel) rfl ?_
      refine gX3_5 hC hc lfX3_65 (by decide +kernel) h (fun v7 h => ?_)
      refine v_blk hC (is := [(.bipush 8, (8 : Int32))]) (pc' := 25) (ls' := [(0, .ref (ga G c)), (1, .int x1), (2, .int x2)]) (st' := [.int (8 : Int32), .int v7]) (by decide +kernel) rfl ?_
      refine v_icmp_lt hC (off := 6) (tgt := 31) (by decide +kernel) (by decide) h (fun hq h => ?_) (fun hq h => ?_)
      · refine v_blk hC (is := [(.aload_n 0, 0)]) (pc' := 32) (ls' := [(0, .ref (ga G c)), (1, .int x1), (2, .int x2)]) (st' := [.ref (ga G c)]) (by decide +kernel) rfl ?_
        refine gX3_1 hC hc lfX3_39 (by decide +kernel) ?_
        refine v_blk hC (is := [(.aload_n 0, 0)]) (pc' := 36) (ls' := [(0, .ref (ga G c)), (1, .int x1), (2, .int x2)]) (st' := [.ref (ga G c), .ref (ga G (24 + c))]) (by decide +kernel) rfl ?_
        refine gX3_5 hC hc lfX3_65 (by decide +kernel) h (fun v8 h => ?_)
        refine v_blk hC (is := [(.iload_n 1, 0)]) (pc' := 40) (ls' := [(0, .ref (ga G c)), (1, .int x1), (2, .int x2)]) (st' := [.int x1, .int v8, .ref (ga G (24 + c))]) (by decide +kernel) rfl ?_
        refine v_iast hC (isA_kind hc) (al_kind hc) (by decide +kernel) h (fun s9 h => ?_)
        refine v_blk hC (is := [(.aload_n 0, 0)]) (pc' := 42) (ls' := [(0, .ref (ga G c)), (1, .int x1), (2, .int x2)]) (st' := [.ref (ga G c)]) (by decide +kernel) rfl ?_
        refine gX3_2 hC hc lfX3_43 (by decide +kernel) ?_
        refine v_blk hC (is := [(.aload_n 0, 0)]) (pc' := 46) (ls' := [(0, .ref (ga G c)), (1, .int x1), (2, .int x2)]) (st' := [.ref (ga G c), .ref (ga G (27 + c))]) (by decide +kernel) rfl ?_
        refine gX3_5 hC hc lfX3_65 (by decide +kernel) h (fun v10 h => ?_)
        refine v_blk hC (is := [(.iload_n 2, 0)]) (pc' := 50) (ls' := [(0, .ref (ga G c)), (1, .int x1), (2, .int x2)]) (st' := [.int x2, .int v10, .ref (ga G (27 + c))]) (by decide +kernel) rfl ?_
        refine v_iast hC (isA_figure hc) (al_figure hc) (by decide +kernel) h (fun s11 h => ?_)
        refine v_blk hC (is := [(.aload_n 0, 0)]) (pc' := 52) (ls' := [(0, .ref (ga G c)), (1, .int x1), (2, .int x2)]) (st' := [.ref (ga G c)]) (by decide +kernel) rfl ?_
        refine gX3_3 hC hc lfX3_46 (by decide +kernel) ?_
        refine v_blk hC (is := [(.aload_n 0, 0)]) (pc' := 56) (ls' := [(0, .ref (ga G c)), (1, .int x1), (2, .int x2)]) (st' := [.ref (ga G c), .ref (ga G (30 + c))]) (by decide +kernel) rfl ?_
        refine gX3_5 hC hc lfX3_65 (by decide +kernel) h (fun v12 h => ?_)
        refine v_blk hC (is := [(.bipush 9, (9 : Int32))]) (pc' := 61) (ls' := [(0, .ref (ga G c)), (1, .int x1), (2, .int x2)]) (st' := [.int (9 : Int32), .int v12, .ref (ga G (30 + c))]) (by decide +kernel) rfl ?_
        refine v_iast hC (isA_boat hc) (al_boat hc) (by decide +kernel) h (fun s13 h => ?_)
        refine v_blk hC (is := [(.aload_n 0, 0), (.dup, 0)]) (pc' := 64) (ls' := [(0, .ref (ga G c)), (1, .int x1), (2, .int x2)]) (st' := [.ref (ga G c), .ref (ga G c)]) (by decide +kernel) rfl ?_
        refine gX3_5 hC hc lfX3_65 (by decide +kernel) h (fun v14 h => ?_)
        refine v_blk hC (is := [(.iconst 1, (1 : Int32)), (.iadd, 0)]) (pc' := 69) (ls' := [(0, .ref (ga G c)), (1, .int x1), (2, .int x2)]) (st' := [.int (v14 + (1 : Int32)), .ref (ga G c)]) (by decide +kernel) rfl ?_
        refine pX3_5 hC hc lfX3_65 (by decide +kernel) h (fun s15 h => ?_)
        refine v_blk hC (is := [(.aload_n 0, 0)]) (pc' := 73) (ls' := [(0, .ref (ga G c)), (1, .int x1), (2, .int x2)]) (st' := [.ref (ga G c)]) (by decide +kernel) rfl ?_
        refine gX3_5 hC hc lfX3_65 (by decide +kernel) h (fun v16 h => ?_)
        refine v_blk hC (is := [(.iconst 1, (1 : Int32)), (.isub, 0)]) (pc' := 78) (ls' := [(0, .ref (ga G c)), (1, .int x1), (2, .int x2)]) (st' := [.int (v16 - (1 : Int32))]) (by decide +kernel) rfl ?_
        exact v_iret hC h (by decide +kernel)
      · refine v_blk hC (is := [(.bipush (-2), (-2 : Int32))]) (pc' := 30) (ls' := [(0, .ref (ga G c)), (1, .int x1), (2, .int x2)]) (st' := [.int (-2 : Int32)]) (by decide +kernel) rfl ?_
        exact v_iret hC h (by decide +kernel)
    · refine v_blk hC (is := [(.iconst (-1), (-1 : Int32))]) (pc' := 18) (ls' := [(0, .ref (ga G c)), (1, .int x1), (2, .int x2)]) (st' := [.int (-1 : Int32)]) (by decide +kernel) rfl ?_
      exact v_iret hC h (by decide +kernel)

def p_X3_notes (c : Nat) (x1 : Int32) (x2 : Int32) (x3 : Int32) (σ : Mem) : Option (Int32 × Mem) := (bnd (p_X3_hasTwo c x1 x2 σ) fun v1 s2 => (if v1 = 0 then some ((-1 : Int32), s2) else (bnd (p_X11_within x3 (0 : Int32) (3 : Int32) s2) fun v4 s5 => (if v4 = 0 then some ((-1 : Int32), s5) else (if ((x1 * (8 : Int32)) + x2) < 0 ∨ 64 ≤ (((x1 * (8 : Int32)) + x2)).toNatClampNeg then none else lt (s5 (33 + c) (((x1 * (8 : Int32)) + x2)).toNatClampNeg) fun v7 => (if ((x1 * (8 : Int32)) + x2) < 0 ∨ 64 ≤ (((x1 * (8 : Int32)) + x2)).toNatClampNeg then none else wr s5 (33 + c) (((x1 * (8 : Int32)) + x2)).toNatClampNeg x3 fun s8 => some (v7, s8)))))))
set_option maxHeartbeats 4000000 in
set_option maxRecDepth 100000 in
theorem c_X3_notes {G : Gl} {c : Nat} {x1 : Int32} {x2 : Int32} {x3 : Int32} {σ : Mem} {res : Int32 × Mem} (hc : isCape c) (h : p_X3_notes c x1 x2 x3 σ = some res) : MetX G yX3_notes cX3_notes 5 (some .int) 3 [.ref (ga G c), .int x1, .int x2, .int x3] σ (some (.int res.1)) res.2 := by
  refine met_V (by decide +kernel) (Nat.le_of_ble_eq_true rfl) (fun X hC => ?_)
  have hC : Ok G 3 5 X cX3_notes RX3 (some .int) := hC
  unfold p_X3_notes at h
  show V G 3 5 X ((some (.int res.1)), res.2) σ [(0, .ref (ga G c)), (1, .int x1), (2, .int x2), (3, .int x3)] [] 0
  refine v_blk hC (is := [(.aload_n 0, 0), (.iload_n 1, 0), (.iload_n 2, 0)]) (pc' := 3) (ls' := [(0, .ref (ga G c)), (1, .int x1), (2, .int x2), (3, .int x3)]) (st' := [.int x2, .int x1, .ref (ga G c)]) (by decide +kernel) rfl ?_
  obtain ⟨v1, s2, e3, h⟩ := bndI h
  refine v_cV (idx := 124) hC ⟨tt_at 338 (by decide +kernel) rfl, tiX3_hasTwo, tvX3_hasTwo, tnX3_hasTwo, tcX3_hasTwo, tmX3_hasTwo⟩ (isO_X3 hc) rfl (c_X3_hasTwo hc e3) (by decide) (by decide) (by decide +kernel) (rest := []) rfl rfl (Nat.le_of_ble_eq_true rfl) rfl ?_
  refine v_if_eq hC (off := 12) (tgt := 18) (by decide +kernel) (by decide) h (fun hq h => ?_) (fun hq h => ?_)
  · refine v_blk hC (is := [(.iconst (-1), (-1 : Int32))]) (pc' := 19) (ls' := [(0, .ref (ga G c)), (1, .int x1), (2, .int x2), (3, .int x3)]) (st' := [.int (-1 : Int32)]) (by decide +kernel) rfl ?_
    exact v_iret hC h (by decide +kernel)
  · refine v_blk hC (is := [(.iload_n 3, 0), (.iconst 0, (0 : Int32)), (.iconst 3, (3 : Int32))]) (pc' := 12) (ls' := [(0, .ref (ga G c)), (1, .int x1), (2, .int x2), (3, .int x3)]) (st' := [.int (3 : Int32), .int (0 : Int32), .int x3]) (by decide +kernel) rfl ?_
    obtain ⟨v4, s5, e6, h⟩ := bndI h
    refine v_cSN (idx := 121) hC ⟨List.mem_of_getElem? (i := 23) (by decide +kernel), tsX11_within, tnX11_within, tcX11_within, tmX11_within⟩ (c_X11_within e6) (by decide) (by decide) (by decide +kernel) (rest := []) rfl rfl (Nat.le_of_ble_eq_true rfl) rfl ?_
    refine v_if_ne hC (off := 5) (tgt := 20) (by decide +kernel) (by decide) h (fun hq h => ?_) (fun hq h => ?_)
    · refine v_blk hC (is := [(.aload_n 0, 0)]) (pc' := 21) (ls' := [(0, .ref (ga G c)), (1, .int x1), (2, .int x2), (3, .int x3)]) (st' := [.ref (ga G c)]) (by decide +kernel) rfl ?_
      refine gX3_4 hC hc lfX3_49 (by decide +kernel) ?_
      refine v_blk hC (is := [(.iload_n 1, 0), (.bipush 8, (8 : Int32)), (.imul, 0), (.iload_n 2, 0), (.iadd, 0)]) (pc' := 30) (ls' := [(0, .ref (ga G c)), (1, .int x1), (2, .int x2), (3, .int x3)]) (st' := [.int ((x1 * (8 : Int32)) + x2), .ref (ga G (33 + c))]) (by decide +kernel) rfl ?_
      refine v_iald hC (isA_how hc) (al_how hc) (by decide +kernel) h (fun v7 h => ?_)
      refine v_blk hC (is := [(.istore 4, 0), (.aload_n 0, 0)]) (pc' := 34) (ls' := [(4, .int v7), (0, .ref (ga G c)), (1, .int x1), (2, .int x2), (3, .int x3)]) (st' := [.ref (ga G c)]) (by decide +kernel) rfl ?_
      refine gX3_4 hC hc lfX3_49 (by decide +kernel) ?_
      refine v_blk hC (is := [(.iload_n 1, 0), (.bipush 8, (8 : Int32)), (.imul, 0), (.iload_n 2, 0), (.iadd, 0), (.iload_n 3, 0)]) (pc' := 44) (ls' := [(4, .int v7), (0, .ref (ga G c)), (1, .int x1), (2, .int x2), (3, .int x3)]) (st' := [.int x3, .int ((x1 * (8 : Int32)) + x2), .ref (ga G (33 + c))]) (by decide +kernel) rfl ?_
      refine v_iast hC (isA_how hc) (al_how hc) (by decide +kernel) h (fun s8 h => ?_)
      refine v_blk hC (is := [(.iload 4, 0)]) (pc' := 47) (ls' := [(4, .int v7), (0, .ref (ga G c)), (1, .int x1), (2, .int x2), (3, .int x3)]) (st' := [.int v7]) (by decide +kernel) rfl ?_
      exact v_iret hC h (by decide +kernel)
    · refine v_blk hC (is := [(.iconst (-1), (-1 : Int32))]) (pc' := 19) (ls' := [(0, .ref (ga G c)), (1, .int x1), (2, .int x2), (3, .int x3)]) (st' := [.int (-1 : Int32)]) (by decide +kernel) rfl ?_
      exact v_iret hC h (by decide +kernel)

def p_X3_moves_B23  (c : Nat) (x1 : Int32) (x2 : Int32)  (σ : Mem) : Option (Int32 × Mem) := (bnd (p_X3_isLost c x1 σ) fun v1 s2 => (if v1 = 0 then (if x1 < 0 ∨ 8 ≤ (x1).toNatClampNeg then none else lt (s2 (30 + c) (x1).toNatClampNeg) fun v4 => (if x1 < 0 ∨ 8 ≤ (x1).toNatClampNeg then none else wr s2 (30 + c) (x1).toNatClampNeg x2 fun s5 => some (v4, s5))) else some ((-3 : Int32), s2)))
def p_X3_moves (c : Nat) (x1 : Int32) (x2 : Int32) (σ : Mem) : Option (Int32 × Mem) := (bnd (p_X3_has c x1 σ) fun v6 s7 => (if v6 = 0 then some ((-1 : Int32), s7) else (bnd (p_X11_isBoat x2 s7) fun v9 s10 => (if v9 = 0 then (if x2 = (9 : Int32) then (p_X3_moves_B23 c x1 x2) s10 else some ((-1 : Int32), s10)) else (p_X3_moves_B23 c x1 x2) s10))))
set_option maxHeartbeats 4000000 in
set_option maxRecDepth 100000 in
theorem c_X3_moves {G : Gl} {c : Nat} {x1 : Int32} {x2 : Int32} {σ : Mem} {res : Int32 × Mem} (hc : isCape c) (h : p_X3_moves c x1 x2 σ = some res) : MetX G yX3_moves cX3_moves 4 (some .int) 3 [.ref (ga G c), .int x1, .int x2] σ (some (.int res.1)) res.2 := by
  refine met_V (by decide +kernel) (Nat.le_of_ble_eq_true rfl) (fun X hC => ?_)
  have hC : Ok G 3 4 X cX3_moves RX3 (some .int) := hC
  have hB23 : ∀ σ : Mem, p_X3_moves_B23 c x1 x2 σ = some res → V G 3 4 X ((some (.int res.1)), res.2) σ [(0, .ref (ga G c)), (1, .int x1), (2, .int x2)] [] 23 := by
    intro  σ h
    unfold p_X3_moves_B23 at h
    refine v_blk hC (is := [(.aload_n 0, 0), (.iload_n 1, 0)]) (pc' := 25) (ls' := [(0, .ref (ga G c)), (1, .int x1), (2, .int x2)]) (st' := [.int x1, .ref (ga G c)]) (by decide +kernel) rfl ?_
    obtain ⟨v1, s2, e3, h⟩ := bndI h
    refine v_cV (idx := 103) hC ⟨tt_at 350 (by decide +kernel) rfl, tiX3_isLost, tvX3_isLost, tnX3_isLost, tcX3_isLost, tmX3_isLost⟩ (isO_X3 hc) rfl (c_X3_isLost hc e3) (by decide) (by decide) (by decide +kernel) (rest := []) rfl rfl (Nat.le_of_ble_eq_true rfl) rfl ?_
    refine v_if_eq hC (off := 6) (tgt := 34) (by decide +kernel) (by decide) h (fun hq h => ?_) (fun hq h => ?_)
    · refine v_blk hC (is := [(.aload_n 0, 0)]) (pc' := 35) (ls' := [(0, .ref (ga G c)), (1, .int x1), (2, .int x2)]) (st' := [.ref (ga G c)]) (by decide +kernel) rfl ?_
      refine gX3_3 hC hc lfX3_46 (by decide +kernel) ?_
      refine v_blk hC (is := [(.iload_n 1, 0)]) (pc' := 39) (ls' := [(0, .ref (ga G c)), (1, .int x1), (2, .int x2)]) (st' := [.int x1, .ref (ga G (30 + c))]) (by decide +kernel) rfl ?_
      refine v_iald hC (isA_boat hc) (al_boat hc) (by decide +kernel) h (fun v4 h => ?_)
      refine v_blk hC (is := [(.istore_n 3, 0), (.aload_n 0, 0)]) (pc' := 42) (ls' := [(3, .int v4), (0, .ref (ga G c)), (1, .int x1), (2, .int x2)]) (st' := [.ref (ga G c)]) (by decide +kernel) rfl ?_
      refine gX3_3 hC hc lfX3_46 (by decide +kernel) ?_
      refine v_blk hC (is := [(.iload_n 1, 0), (.iload_n 2, 0)]) (pc' := 47) (ls' := [(3, .int v4), (0, .ref (ga G c)), (1, .int x1), (2, .int x2)]) (st' := [.int x2, .int x1, .ref (ga G (30 + c))]) (by decide +kernel) rfl ?_
      refine v_iast hC (isA_boat hc) (al_boat hc) (by decide +kernel) h (fun s5 h => ?_)
      refine v_blk hC (is := [(.iload_n 3, 0)]) (pc' := 49) (ls' := [(3, .int v4), (0, .ref (ga G c)), (1, .int x1), (2, .int x2)]) (st' := [.int v4]) (by decide +kernel) rfl ?_
      exact v_iret hC h (by decide +kernel)
    · refine v_blk hC (is := [(.bipush (-3), (-3 : Int32))]) (pc' := 33) (ls' := [(0, .ref (ga G c)), (1, .int x1), (2, .int x2)]) (st' := [.int (-3 : Int32)]) (by decide +kernel) rfl ?_
      exact v_iret hC h (by decide +kernel)
  unfold p_X3_moves at h
  show V G 3 4 X ((some (.int res.1)), res.2) σ [(0, .ref (ga G c)), (1, .int x1), (2, .int x2)] [] 0
  refine v_blk hC (is := [(.aload_n 0, 0), (.iload_n 1, 0)]) (pc' := 2) (ls' := [(0, .ref (ga G c)), (1, .int x1), (2, .int x2)]) (st' := [.int x1, .ref (ga G c)]) (by decide +kernel) rfl ?_
  obtain ⟨v6, s7, e8, h⟩ := bndI h
  refine v_cV (idx := 74) hC ⟨tt_at 342 (by decide +kernel) rfl, tiX3_has, tvX3_has, tnX3_has, tcX3_has, tmX3_has⟩ (isO_X3 hc) rfl (c_X3_has hc e8) (by decide) (by decide) (by decide +kernel) (rest := []) rfl rfl (Nat.le_of_ble_eq_true rfl) rfl ?_
  refine v_if_eq hC (off := 16) (tgt := 21) (by decide +kernel) (by decide) h (fun hq h => ?_) (fun hq h => ?_)
  · refine v_blk hC (is := [(.iconst (-1), (-1 : Int32))]) (pc' := 22) (ls' := [(0, .ref (ga G c)), (1, .int x1), (2, .int x2)]) (st' := [.int (-1 : Int32)]) (by decide +kernel) rfl ?_
    exact v_iret hC h (by decide +kernel)
  · refine v_blk hC (is := [(.iload_n 2, 0)]) (pc' := 9) (ls' := [(0, .ref (ga G c)), (1, .int x1), (2, .int x2)]) (st' := [.int x2]) (by decide +kernel) rfl ?_
    obtain ⟨v9, s10, e11, h⟩ := bndI h
    refine v_cSN (idx := 127) hC ⟨List.mem_of_getElem? (i := 25) (by decide +kernel), tsX11_isBoat, tnX11_isBoat, tcX11_isBoat, tmX11_isBoat⟩ (c_X11_isBoat e11) (by decide) (by decide) (by decide +kernel) (rest := []) rfl rfl (Nat.le_of_ble_eq_true rfl) rfl ?_
    refine v_if_ne hC (off := 11) (tgt := 23) (by decide +kernel) (by decide) h (fun hq h => ?_) (fun hq h => ?_)
    · exact (hB23 ) _ h
    · refine v_blk hC (is := [(.iload_n 2, 0), (.bipush 9, (9 : Int32))]) (pc' := 18) (ls' := [(0, .ref (ga G c)), (1, .int x1), (2, .int x2)]) (st' := [.int (9 : Int32), .int x2]) (by decide +kernel) rfl ?_
      refine v_icmp_eq hC (off := 5) (tgt := 23) (by decide +kernel) (by decide) h (fun hq h => ?_) (fun hq h => ?_)
      · exact (hB23 ) _ h
      · refine v_blk hC (is := [(.iconst (-1), (-1 : Int32))]) (pc' := 22) (ls' := [(0, .ref (ga G c)), (1, .int x1), (2, .int x2)]) (st' := [.int (-1 : Int32)]) (by decide +kernel) rfl ?_
        exact v_iret hC h (by decide +kernel)

def p_X3_comesTo_B41  (c : Nat) (x1 : Int32) (x2 : Int32)  (σ : Mem) : Option (Int32 × Mem) := some ((1 : Int32), σ)
def p_X3_comesTo_B27  (c : Nat) (x1 : Int32) (x2 : Int32) (t0 : Int32) (σ : Mem) : Option (Int32 × Mem) := (if t0 = 0 then (bnd (p_X3_moves c x1 x2 σ) fun v1 s2 => (if v1 < 0 then some ((0 : Int32), s2) else (p_X3_comesTo_B41 c x1 x2) s2)) else (p_X3_comesTo_B41 c x1 x2) σ)
def p_X3_comesTo_B26  (c : Nat) (x1 : Int32) (x2 : Int32)  (σ : Mem) : Option (Int32 × Mem) := (p_X3_comesTo_B27 c x1 x2) (0 : Int32) σ
def p_X3_comesTo (c : Nat) (x1 : Int32) (x2 : Int32) (σ : Mem) : Option (Int32 × Mem) := (bnd (p_X3_has c x1 σ) fun v4 s5 => (if v4 = 0 then (p_X3_comesTo_B26 c x1 x2) s5 else (bnd (p_X3_isLost c x1 s5) fun v7 s8 => (if v7 = 0 then (p_X3_comesTo_B26 c x1 x2) s8 else (if x2 = (9 : Int32) then (p_X3_comesTo_B27 c x1 x2) (1 : Int32) s8 else (p_X3_comesTo_B26 c x1 x2) s8)))))
set_option maxHeartbeats 4000000 in
set_option maxRecDepth 100000 in
theorem c_X3_comesTo {G : Gl} {c : Nat} {x1 : Int32} {x2 : Int32} {σ : Mem} {res : Int32 × Mem} (hc : isCape c) (h : p_X3_comesTo c x1 x2 σ = some res) : MetX G yX3_comesTo cX3_comesTo 4 (some .boolean) 4 [.ref (ga G c), .int x1, .int x2] σ (some (.int res.1)) res.2 := by
  refine met_V (by decide +kernel) (Nat.le_of_ble_eq_true rfl) (fun X hC => ?_)
  have hC : Ok G 4 4 X cX3_comesTo RX3 (some .boolean) := hC
  have hB41 : ∀ σ : Mem, p_X3_comesTo_B41 c x1 x2 σ = some res → V G 4 4 X ((some (.int res.1)), res.2) σ [] [] 41 := by
    intro  σ h
    unfold p_X3_comesTo_B41 at h
    refine v_blk hC (is := [(.iconst 1, (1 : Int32))]) (pc' := 42) (ls' := []) (st' := [.int (1 : Int32)]) (by decide +kernel) rfl ?_
    refine v_goto hC (off := 4) (tgt := 46) (by decide +kernel) (by decide) ?_
    exact v_zret hC rfl h (by decide +kernel)
  have hB27 : ∀ (t0 : Int32), ∀ σ : Mem, p_X3_comesTo_B27 c x1 x2 t0 σ = some res → V G 4 4 X ((some (.int res.1)), res.2) σ [(0, .ref (ga G c)), (1, .int x1), (2, .int x2)] [.int t0] 27 := by
    intro t0 σ h
    unfold p_X3_comesTo_B27 at h
    refine v_blk hC (is := [(.istore_n 3, 0), (.iload_n 3, 0)]) (pc' := 29) (ls' := [(3, .int t0), (0, .ref (ga G c)), (1, .int x1), (2, .int x2)]) (st' := [.int t0]) (by decide +kernel) rfl ?_
    refine v_if_ne hC (off := 12) (tgt := 41) (by decide +kernel) (by decide) h (fun hq h => ?_) (fun hq h => ?_)
    · refine v_sub [] (ls' := []) rfl ?_
      exact (hB41 ) _ h
    · refine v_blk hC (is := [(.aload_n 0, 0), (.iload_n 1, 0), (.iload_n 2, 0)]) (pc' := 35) (ls' := [(3, .int t0), (0, .ref (ga G c)), (1, .int x1), (2, .int x2)]) (st' := [.int x2, .int x1, .ref (ga G c)]) (by decide +kernel) rfl ?_
      obtain ⟨v1, s2, e3, h⟩ := bndI h
      refine v_cV (idx := 130) hC ⟨tt_at 357 (by decide +kernel) rfl, tiX3_moves, tvX3_moves, tnX3_moves, tcX3_moves, tmX3_moves⟩ (isO_X3 hc) rfl (c_X3_moves hc e3) (by decide) (by decide) (by decide +kernel) (rest := []) rfl rfl (Nat.le_of_ble_eq_true rfl) rfl ?_
      refine v_if_lt hC (off := 7) (tgt := 45) (by decide +kernel) (by decide) h (fun hq h => ?_) (fun hq h => ?_)
      · refine v_blk hC (is := [(.iconst 0, (0 : Int32))]) (pc' := 46) (ls' := [(3, .int t0), (0, .ref (ga G c)), (1, .int x1), (2, .int x2)]) (st' := [.int (0 : Int32)]) (by decide +kernel) rfl ?_
        exact v_zret hC rfl h (by decide +kernel)
      · refine v_sub [] (ls' := []) rfl ?_
        exact (hB41 ) _ h
  have hB26 : ∀ σ : Mem, p_X3_comesTo_B26 c x1 x2 σ = some res → V G 4 4 X ((some (.int res.1)), res.2) σ [(0, .ref (ga G c)), (1, .int x1), (2, .int x2)] [] 26 := by
    intro  σ h
    unfold p_X3_comesTo_B26 at h
    refine v_blk hC (is := [(.iconst 0, (0 : Int32))]) (pc' := 27) (ls' := [(0, .ref (ga G c)), (1, .int x1), (2, .int x2)]) (st' := [.int (0 : Int32)]) (by decide +kernel) rfl ?_
    exact (hB27 ) _ _ h
  unfold p_X3_comesTo at h
  show V G 4 4 X ((some (.int res.1)), res.2) σ [(0, .ref (ga G c)), (1, .int x1), (2, .int x2)] [] 0
  refine v_blk hC (is := [(.aload_n 0, 0), (.iload_n 1, 0)]) (pc' := 2) (ls' := [(0, .ref (ga G c)), (1, .int x1), (2, .int x2)]) (st' := [.int x1, .ref (ga G c)]) (by decide +kernel) rfl ?_
  obtain ⟨v4, s5, e6, h⟩ := bndI h
  refine v_cV (idx := 74) hC ⟨tt_at 342 (by decide +kernel) rfl, tiX3_has, tvX3_has, tnX3_has, tcX3_has, tmX3_has⟩ (isO_X3 hc) rfl (c_X3_has hc e6) (by decide) (by decide) (by decide +kernel) (rest := []) rfl rfl (Nat.le_of_ble_eq_true rfl) rfl ?_
  refine v_if_eq hC (off := 21) (tgt := 26) (by decide +kernel) (by decide) h (fun hq h => ?_) (fun hq h => ?_)
  · exact (hB26 ) _ h
  · refine v_blk hC (is := [(.aload_n 0, 0), (.iload_n 1, 0)]) (pc' := 10) (ls' := [(0, .ref (ga G c)), (1, .int x1), (2, .int x2)]) (st' := [.int x1, .ref (ga G c)]) (by decide +kernel) rfl ?_
    obtain ⟨v7, s8, e9, h⟩ := bndI h
    refine v_cV (idx := 103) hC ⟨tt_at 350 (by decide +kernel) rfl, tiX3_isLost, tvX3_isLost, tnX3_isLost, tcX3_isLost, tmX3_isLost⟩ (isO_X3 hc) rfl (c_X3_isLost hc e9) (by decide) (by decide) (by decide +kernel) (rest := []) rfl rfl (Nat.le_of_ble_eq_true rfl) rfl ?_
    refine v_if_eq hC (off := 13) (tgt := 26) (by decide +kernel) (by decide) h (fun hq h => ?_) (fun hq h => ?_)
    · exact (hB26 ) _ h
    · refine v_blk hC (is := [(.iload_n 2, 0), (.bipush 9, (9 : Int32))]) (pc' := 19) (ls' := [(0, .ref (ga G c)), (1, .int x1), (2, .int x2)]) (st' := [.int (9 : Int32), .int x2]) (by decide +kernel) rfl ?_
      refine v_icmp_ne hC (off := 7) (tgt := 26) (by decide +kernel) (by decide) h (fun hq h => ?_) (fun hq h => ?_)
      · exact (hB26 ) _ h
      · refine v_blk hC (is := [(.iconst 1, (1 : Int32))]) (pc' := 23) (ls' := [(0, .ref (ga G c)), (1, .int x1), (2, .int x2)]) (st' := [.int (1 : Int32)]) (by decide +kernel) rfl ?_
        refine v_goto hC (off := 4) (tgt := 27) (by decide +kernel) (by decide) ?_
        exact (hB27 ) _ _ h

def p_X3_rules_B25  (c : Nat) (x1 : Int32) (x2 : Int32)  (σ : Mem) : Option (Int32 × Mem) := (if x1 = (1 : Int32) then (bnd (p_X11_within x2 (0 : Int32) (9 : Int32) σ) fun v1 s2 => (if v1 = 0 then some ((-1 : Int32), s2) else (lt (s2 c 8) fun v4 => (wr s2 c 8 x2 fun s5 => some (v4, s5))))) else some ((-1 : Int32), σ))
def p_X3_rules (c : Nat) (x1 : Int32) (x2 : Int32) (σ : Mem) : Option (Int32 × Mem) := (if x1 = 0 then (bnd (p_X11_within x2 (0 : Int32) (3 : Int32) σ) fun v6 s7 => (if v6 = 0 then (p_X3_rules_B25 c x1 x2) s7 else (lt (s7 c 7) fun v9 => (wr s7 c 7 x2 fun s10 => some (v9, s10))))) else (p_X3_rules_B25 c x1 x2) σ)
set_option maxHeartbeats 4000000 in
set_option maxRecDepth 100000 in
theorem c_X3_rules {G : Gl} {c : Nat} {x1 : Int32} {x2 : Int32} {σ : Mem} {res : Int32 × Mem} (hc : isCape c) (h : p_X3_rules c x1 x2 σ = some res) : MetX G yX3_rules cX3_rules 4 (some .int) 2 [.ref (ga G c), .int x1, .int x2] σ (some (.int res.1)) res.2 := by
  refine met_V (by decide +kernel) (Nat.le_of_ble_eq_true rfl) (fun X hC => ?_)
  have hC : Ok G 2 4 X cX3_rules RX3 (some .int) := hC
  have hB25 : ∀ σ : Mem, p_X3_rules_B25 c x1 x2 σ = some res → V G 2 4 X ((some (.int res.1)), res.2) σ [(0, .ref (ga G c)), (1, .int x1), (2, .int x2)] [] 25 := by
    intro  σ h
    unfold p_X3_rules_B25 at h
    refine v_blk hC (is := [(.iload_n 1, 0), (.iconst 1, (1 : Int32))]) (pc' := 27) (ls' := [(0, .ref (ga G c)), (1, .int x1), (2, .int x2)]) (st' := [.int (1 : Int32), .int x1]) (by decide +kernel) rfl ?_
    refine v_icmp_ne hC (off := 25) (tgt := 52) (by decide +kernel) (by decide) h (fun hq h => ?_) (fun hq h => ?_)
    · refine v_blk hC (is := [(.iconst (-1), (-1 : Int32))]) (pc' := 53) (ls' := [(0, .ref (ga G c)), (1, .int x1), (2, .int x2)]) (st' := [.int (-1 : Int32)]) (by decide +kernel) rfl ?_
      exact v_iret hC h (by decide +kernel)
    · refine v_blk hC (is := [(.iload_n 2, 0), (.iconst 0, (0 : Int32)), (.bipush 9, (9 : Int32))]) (pc' := 34) (ls' := [(0, .ref (ga G c)), (1, .int x1), (2, .int x2)]) (st' := [.int (9 : Int32), .int (0 : Int32), .int x2]) (by decide +kernel) rfl ?_
      obtain ⟨v1, s2, e3, h⟩ := bndI h
      refine v_cSN (idx := 121) hC ⟨List.mem_of_getElem? (i := 23) (by decide +kernel), tsX11_within, tnX11_within, tcX11_within, tmX11_within⟩ (c_X11_within e3) (by decide) (by decide) (by decide +kernel) (rest := []) rfl rfl (Nat.le_of_ble_eq_true rfl) rfl ?_
      refine v_if_eq hC (off := 15) (tgt := 52) (by decide +kernel) (by decide) h (fun hq h => ?_) (fun hq h => ?_)
      · refine v_blk hC (is := [(.iconst (-1), (-1 : Int32))]) (pc' := 53) (ls' := [(0, .ref (ga G c)), (1, .int x1), (2, .int x2)]) (st' := [.int (-1 : Int32)]) (by decide +kernel) rfl ?_
        exact v_iret hC h (by decide +kernel)
      · refine v_blk hC (is := [(.aload_n 0, 0)]) (pc' := 41) (ls' := [(0, .ref (ga G c)), (1, .int x1), (2, .int x2)]) (st' := [.ref (ga G c)]) (by decide +kernel) rfl ?_
        refine gX3_8 hC hc lfX3_56 (by decide +kernel) h (fun v4 h => ?_)
        refine v_blk hC (is := [(.istore_n 3, 0), (.aload_n 0, 0), (.iload_n 2, 0)]) (pc' := 47) (ls' := [(3, .int v4), (0, .ref (ga G c)), (1, .int x1), (2, .int x2)]) (st' := [.int x2, .ref (ga G c)]) (by decide +kernel) rfl ?_
        refine pX3_8 hC hc lfX3_56 (by decide +kernel) h (fun s5 h => ?_)
        refine v_blk hC (is := [(.iload_n 3, 0)]) (pc' := 51) (ls' := [(3, .int v4), (0, .ref (ga G c)), (1, .int x1), (2, .int x2)]) (st' := [.int v4]) (by decide +kernel) rfl ?_
        exact v_iret hC h (by decide +kernel)
  unfold p_X3_rules at h
  show V G 2 4 X ((some (.int res.1)), res.2) σ [(0, .ref (ga G c)), (1, .int x1), (2, .int x2)] [] 0
  refine v_blk hC (is := [(.iload_n 1, 0)]) (pc' := 1) (ls' := [(0, .ref (ga G c)), (1, .int x1), (2, .int x2)]) (st' := [.int x1]) (by decide +kernel) rfl ?_
  refine v_if_ne hC (off := 24) (tgt := 25) (by decide +kernel) (by decide) h (fun hq h => ?_) (fun hq h => ?_)
  · exact (hB25 ) _ h
  · refine v_blk hC (is := [(.iload_n 2, 0), (.iconst 0, (0 : Int32)), (.iconst 3, (3 : Int32))]) (pc' := 7) (ls' := [(0, .ref (ga G c)), (1, .int x1), (2, .int x2)]) (st' := [.int (3 : Int32), .int (0 : Int32), .int x2]) (by decide +kernel) rfl ?_
    obtain ⟨v6, s7, e8, h⟩ := bndI h
    refine v_cSN (idx := 121) hC ⟨List.mem_of_getElem? (i := 23) (by decide +kernel), tsX11_within, tnX11_within, tcX11_within, tmX11_within⟩ (c_X11_within e8) (by decide) (by decide) (by decide +kernel) (rest := []) rfl rfl (Nat.le_of_ble_eq_true rfl) rfl ?_
    refine v_if_eq hC (off := 15) (tgt := 25) (by decide +kernel) (by decide) h (fun hq h => ?_) (fun hq h => ?_)
    · exact (hB25 ) _ h
    · refine v_blk hC (is := [(.aload_n 0, 0)]) (pc' := 14) (ls' := [(0, .ref (ga G c)), (1, .int x1), (2, .int x2)]) (st' := [.ref (ga G c)]) (by decide +kernel) rfl ?_
      refine gX3_7 hC hc lfX3_52 (by decide +kernel) h (fun v9 h => ?_)
      refine v_blk hC (is := [(.istore_n 3, 0), (.aload_n 0, 0), (.iload_n 2, 0)]) (pc' := 20) (ls' := [(3, .int v9), (0, .ref (ga G c)), (1, .int x1), (2, .int x2)]) (st' := [.int x2, .ref (ga G c)]) (by decide +kernel) rfl ?_
      refine pX3_7 hC hc lfX3_52 (by decide +kernel) h (fun s10 h => ?_)
      refine v_blk hC (is := [(.iload_n 3, 0)]) (pc' := 24) (ls' := [(3, .int v9), (0, .ref (ga G c)), (1, .int x1), (2, .int x2)]) (st' := [.int v9]) (by decide +kernel) rfl ?_
      exact v_iret hC h (by decide +kernel)

def p_X3_faller_B62 (k9 : Int32 → Int32 → Int32 → Mem → Option (Int32 × Mem)) (c : Nat) (x1 : Int32) (x2 : Int32) (x3 : Int32) (x4 : Int32) (x5 : Int32) (σ : Mem) : Option (Int32 × Mem) := k9 x3 x4 (x5 + (1 : Int32)) σ
def p_X3_faller_B9 (k9 : Int32 → Int32 → Int32 → Mem → Option (Int32 × Mem)) (k68 : Int32 → Int32 → Mem → Option (Int32 × Mem)) (c : Nat) (x1 : Int32) (x2 : Int32) (x3 : Int32) (x4 : Int32) (x5 : Int32) (σ : Mem) : Option (Int32 × Mem) := (lt (σ c 5) fun v1 => (if v1 ≤ x5 then k68 x3 x4 σ else (if x5 < 0 ∨ 8 ≤ (x5).toNatClampNeg then none else lt (σ (30 + c) (x5).toNatClampNeg) fun v2 => (if v2 = x1 then (bnd (p_X3_kindOf c x5 σ) fun v3 s4 => (if x5 < 0 ∨ 8 ≤ (x5).toNatClampNeg then none else lt (s4 (27 + c) (x5).toNatClampNeg) fun v6 => (bnd (p_K_risk v3 v6 x2 s4) fun v7 s8 => (if v7 ≤ x4 then (p_X3_faller_B62 k9 c x1 x2) x3 x4 x5 s8 else (p_X3_faller_B62 k9 c x1 x2) x5 v7 x5 s8)))) else (p_X3_faller_B62 k9 c x1 x2) x3 x4 x5 σ))))
def p_X3_faller_L9 (k68 : Int32 → Int32 → Mem → Option (Int32 × Mem)) (c : Nat) (x1 : Int32) (x2 : Int32) : Nat → Int32 → Int32 → Int32 → Mem → Option (Int32 × Mem)
  | 0 => fun _ _ _ _ => none
  | f + 1 => p_X3_faller_B9 (p_X3_faller_L9 k68 c x1 x2 f) k68 c x1 x2
def p_X3_faller (c : Nat) (x1 : Int32) (x2 : Int32) (σ : Mem) : Option (Int32 × Mem) := (p_X3_faller_L9 (fun (x3 : Int32) (x4 : Int32) (m10 : Mem) => (lt (m10 c 8) fun v11 => (if x4 < v11 then some ((-4 : Int32), m10) else some (x3, m10)))) c x1 x2 1000) (-4 : Int32) (0 : Int32) (0 : Int32) σ
set_option maxHeartbeats 4000000 in
set_option maxRecDepth 100000 in
theorem c_X3_faller {G : Gl} {c : Nat} {x1 : Int32} {x2 : Int32} {σ : Mem} {res : Int32 × Mem} (hc : isCape c) (h : p_X3_faller c x1 x2 σ = some res) : MetX G yX3_faller cX3_faller 7 (some .int) 4 [.ref (ga G c), .int x1, .int x2] σ (some (.int res.1)) res.2 := by
  refine met_V (by decide +kernel) (Nat.le_of_ble_eq_true rfl) (fun X hC => ?_)
  have hC : Ok G 4 7 X cX3_faller RX3 (some .int) := hC
  have hB62 : ∀ (k9 : Int32 → Int32 → Int32 → Mem → Option (Int32 × Mem)), (∀ (x3 : Int32), ∀ (x4 : Int32), ∀ (x5 : Int32), ∀ σ : Mem, k9 x3 x4 x5 σ = some res → V G 4 7 X ((some (.int res.1)), res.2) σ [(0, .ref (ga G c)), (1, .int x1), (2, .int x2), (3, .int x3), (4, .int x4), (5, .int x5)] [] 9) → ∀ (x3 : Int32), ∀ (x4 : Int32), ∀ (x5 : Int32), ∀ σ : Mem, p_X3_faller_B62 k9 c x1 x2 x3 x4 x5 σ = some res → V G 4 7 X ((some (.int res.1)), res.2) σ [(0, .ref (ga G c)), (1, .int x1), (2, .int x2), (3, .int x3), (4, .int x4), (5, .int x5)] [] 62 := by
    intro k9 hk9 x3 x4 x5 σ h
    unfold p_X3_faller_B62 at h
    refine v_blk hC (is := [(.iinc 5 1, (1 : Int32))]) (pc' := 65) (ls' := [(5, .int (x5 + (1 : Int32))), (0, .ref (ga G c)), (1, .int x1), (2, .int x2), (3, .int x3), (4, .int x4)]) (st' := []) (by decide +kernel) rfl ?_
    refine v_goto hC (off := (-56)) (tgt := 9) (by decide +kernel) (by decide) ?_
    refine v_sub [1, 2, 3, 4, 5, 0] (ls' := [(0, .ref (ga G c)), (1, .int x1), (2, .int x2), (3, .int x3), (4, .int x4), (5, .int (x5 + (1 : Int32)))]) rfl ?_
    exact hk9 _ _ _ _ h
  have hB9 : ∀ (k9 : Int32 → Int32 → Int32 → Mem → Option (Int32 × Mem)), ∀ (k68 : Int32 → Int32 → Mem → Option (Int32 × Mem)), (∀ (x3 : Int32), ∀ (x4 : Int32), ∀ (x5 : Int32), ∀ σ : Mem, k9 x3 x4 x5 σ = some res → V G 4 7 X ((some (.int res.1)), res.2) σ [(0, .ref (ga G c)), (1, .int x1), (2, .int x2), (3, .int x3), (4, .int x4), (5, .int x5)] [] 9) → (∀ (x3 : Int32), ∀ (x4 : Int32), ∀ σ : Mem, k68 x3 x4 σ = some res → V G 4 7 X ((some (.int res.1)), res.2) σ [(0, .ref (ga G c)), (3, .int x3), (4, .int x4)] [] 68) → ∀ (x3 : Int32), ∀ (x4 : Int32), ∀ (x5 : Int32), ∀ σ : Mem, p_X3_faller_B9 k9 k68 c x1 x2 x3 x4 x5 σ = some res → V G 4 7 X ((some (.int res.1)), res.2) σ [(0, .ref (ga G c)), (1, .int x1), (2, .int x2), (3, .int x3), (4, .int x4), (5, .int x5)] [] 9 := by
    intro k9 k68 hk9 hk68 x3 x4 x5 σ h
    unfold p_X3_faller_B9 at h
    refine v_blk hC (is := [(.iload 5, 0), (.aload_n 0, 0)]) (pc' := 12) (ls' := [(0, .ref (ga G c)), (1, .int x1), (2, .int x2), (3, .int x3), (4, .int x4), (5, .int x5)]) (st' := [.ref (ga G c), .int x5]) (by decide +kernel) rfl ?_
    refine gX3_5 hC hc lfX3_65 (by decide +kernel) h (fun v1 h => ?_)
    refine v_icmp_ge hC (off := 53) (tgt := 68) (by decide +kernel) (by decide) h (fun hq h => ?_) (fun hq h => ?_)
    · refine v_sub [0, 3, 4] (ls' := [(0, .ref (ga G c)), (3, .int x3), (4, .int x4)]) rfl ?_
      exact hk68 _ _ _ h
    · refine v_blk hC (is := [(.aload_n 0, 0)]) (pc' := 19) (ls' := [(0, .ref (ga G c)), (1, .int x1), (2, .int x2), (3, .int x3), (4, .int x4), (5, .int x5)]) (st' := [.ref (ga G c)]) (by decide +kernel) rfl ?_
      refine gX3_3 hC hc lfX3_46 (by decide +kernel) ?_
      refine v_blk hC (is := [(.iload 5, 0)]) (pc' := 24) (ls' := [(0, .ref (ga G c)), (1, .int x1), (2, .int x2), (3, .int x3), (4, .int x4), (5, .int x5)]) (st' := [.int x5, .ref (ga G (30 + c))]) (by decide +kernel) rfl ?_
      refine v_iald hC (isA_boat hc) (al_boat hc) (by decide +kernel) h (fun v2 h => ?_)
      refine v_blk hC (is := [(.iload_n 1, 0)]) (pc' := 26) (ls' := [(0, .ref (ga G c)), (1, .int x1), (2, .int x2), (3, .int x3), (4, .int x4), (5, .int x5)]) (st' := [.int x1, .int v2]) (by decide +kernel) rfl ?_
      refine v_icmp_ne hC (off := 36) (tgt := 62) (by decide +kernel) (by decide) h (fun hq h => ?_) (fun hq h => ?_)
      · exact (hB62 _ hk9) _ _ _ _ h
      · refine v_blk hC (is := [(.aload_n 0, 0), (.iload 5, 0)]) (pc' := 32) (ls' := [(0, .ref (ga G c)), (1, .int x1), (2, .int x2), (3, .int x3), (4, .int x4), (5, .int x5)]) (st' := [.int x5, .ref (ga G c)]) (by decide +kernel) rfl ?_
        obtain ⟨v3, s4, e5, h⟩ := bndI h
        refine v_cV (idx := 91) hC ⟨tt_at 380 (by decide +kernel) rfl, tiX3_kindOf, tvX3_kindOf, tnX3_kindOf, tcX3_kindOf, tmX3_kindOf⟩ (isO_X3 hc) rfl (c_X3_kindOf hc e5) (by decide) (by decide) (by decide +kernel) (rest := []) rfl rfl (Nat.le_of_ble_eq_true rfl) rfl ?_
        refine v_blk hC (is := [(.aload_n 0, 0)]) (pc' := 36) (ls' := [(0, .ref (ga G c)), (1, .int x1), (2, .int x2), (3, .int x3), (4, .int x4), (5, .int x5)]) (st' := [.ref (ga G c), .ref (ga G v3)]) (by decide +kernel) rfl ?_
        refine gX3_2 hC hc lfX3_43 (by decide +kernel) ?_
        refine v_blk hC (is := [(.iload 5, 0)]) (pc' := 41) (ls' := [(0, .ref (ga G c)), (1, .int x1), (2, .int x2), (3, .int x3), (4, .int x4), (5, .int x5)]) (st' := [.int x5, .ref (ga G (27 + c)), .ref (ga G v3)]) (by decide +kernel) rfl ?_
        refine v_iald hC (isA_figure hc) (al_figure hc) (by decide +kernel) h (fun v6 h => ?_)
        refine v_blk hC (is := [(.iload_n 2, 0)]) (pc' := 43) (ls' := [(0, .ref (ga G c)), (1, .int x1), (2, .int x2), (3, .int x3), (4, .int x4), (5, .int x5)]) (st' := [.int x2, .int v6, .ref (ga G v3)]) (by decide +kernel) rfl ?_
        obtain ⟨v7, s8, e9, h⟩ := bndI h
        refine kX3_risk hC e9 (by decide) (by decide +kernel) (rest := []) rfl (Nat.le_of_ble_eq_true rfl) rfl ?_
        refine v_blk hC (is := [(.istore 6, 0), (.iload 6, 0), (.iload 4, 0)]) (pc' := 52) (ls' := [(6, .int v7), (0, .ref (ga G c)), (1, .int x1), (2, .int x2), (3, .int x3), (4, .int x4), (5, .int x5)]) (st' := [.int x4, .int v7]) (by decide +kernel) rfl ?_
        refine v_icmp_le hC (off := 10) (tgt := 62) (by decide +kernel) (by decide) h (fun hq h => ?_) (fun hq h => ?_)
        · refine v_sub [1, 2, 3, 4, 5, 6] (ls' := [(0, .ref (ga G c)), (1, .int x1), (2, .int x2), (3, .int x3), (4, .int x4), (5, .int x5)]) rfl ?_
          exact (hB62 _ hk9) _ _ _ _ h
        · refine v_blk hC (is := [(.iload 5, 0), (.istore_n 3, 0), (.iload 6, 0), (.istore 4, 0)]) (pc' := 62) (ls' := [(4, .int v7), (3, .int x5), (6, .int v7), (0, .ref (ga G c)), (1, .int x1), (2, .int x2), (5, .int x5)]) (st' := []) (by decide +kernel) rfl ?_
          refine v_sub [3, 4, 5, 1, 0, 6] (ls' := [(0, .ref (ga G c)), (1, .int x1), (2, .int x2), (3, .int x5), (4, .int v7), (5, .int x5)]) rfl ?_
          exact (hB62 _ hk9) _ _ _ _ h
  have hL9 : ∀ (k68 : Int32 → Int32 → Mem → Option (Int32 × Mem)), (∀ (x3 : Int32), ∀ (x4 : Int32), ∀ σ : Mem, k68 x3 x4 σ = some res → V G 4 7 X ((some (.int res.1)), res.2) σ [(0, .ref (ga G c)), (3, .int x3), (4, .int x4)] [] 68) → ∀ f : Nat, ∀ (x3 : Int32), ∀ (x4 : Int32), ∀ (x5 : Int32), ∀ σ : Mem, p_X3_faller_L9 k68 c x1 x2 f x3 x4 x5 σ = some res → V G 4 7 X ((some (.int res.1)), res.2) σ [(0, .ref (ga G c)), (1, .int x1), (2, .int x2), (3, .int x3), (4, .int x4), (5, .int x5)] [] 9 := by
    intro k68 hk68 f
    induction f with
    | zero => intro x3 x4 x5 σ h; exact none_some h
    | succ f ih => intro x3 x4 x5 σ h; exact hB9 (p_X3_faller_L9 k68 c x1 x2 f) k68 ih hk68 x3 x4 x5 σ h
  unfold p_X3_faller at h
  show V G 4 7 X ((some (.int res.1)), res.2) σ [(0, .ref (ga G c)), (1, .int x1), (2, .int x2)] [] 0
  refine v_blk hC (is := [(.bipush (-4), (-4 : Int32)), (.istore_n 3, 0), (.iconst 0, (0 : Int32)), (.istore 4, 0), (.iconst 0, (0 : Int32)), (.istore 5, 0)]) (pc' := 9) (ls' := [(5, .int (0 : Int32)), (4, .int (0 : Int32)), (3, .int (-4 : Int32)), (0, .ref (ga G c)), (1, .int x1), (2, .int x2)]) (st' := []) (by decide +kernel) rfl ?_
  refine v_sub [3, 4, 5, 2, 1, 0] (ls' := [(0, .ref (ga G c)), (1, .int x1), (2, .int x2), (3, .int (-4 : Int32)), (4, .int (0 : Int32)), (5, .int (0 : Int32))]) rfl ?_
  exact (hL9 _ (fun x3 x4  m10 h => by
      refine v_blk hC (is := [(.iload 4, 0), (.aload_n 0, 0)]) (pc' := 71) (ls' := [(0, .ref (ga G c)), (3, .int x3), (4, .int x4)]) (st' := [.ref (ga G c), .int x4]) (by decide +kernel) rfl ?_
      refine gX3_8 hC hc lfX3_56 (by decide +kernel) h (fun v11 h => ?_)
      refine v_icmp_lt hC (off := 7) (tgt := 81) (by decide +kernel) (by decide) h (fun hq h => ?_) (fun hq h => ?_)
      · refine v_blk hC (is := [(.bipush (-4), (-4 : Int32))]) (pc' := 83) (ls' := [(0, .ref (ga G c)), (3, .int x3), (4, .int x4)]) (st' := [.int (-4 : Int32)]) (by decide +kernel) rfl ?_
        exact v_iret hC h (by decide +kernel)
      · refine v_blk hC (is := [(.iload_n 3, 0)]) (pc' := 78) (ls' := [(0, .ref (ga G c)), (3, .int x3), (4, .int x4)]) (st' := [.int x3]) (by decide +kernel) rfl ?_
        refine v_goto hC (off := 5) (tgt := 83) (by decide +kernel) (by decide) ?_
        exact v_iret hC h (by decide +kernel)) 1000) _ _ _ _ h

def p_X3_saver_B88 (k25 : Int32 → Int32 → Int32 → Mem → Option (Int32 × Mem)) (c : Nat) (x1 : Int32) (x2 : Int32) (x3 : Int32) (x4 : Int32) (x5 : Int32) (σ : Mem) : Option (Int32 × Mem) := k25 x3 x4 (x5 + (1 : Int32)) σ
def p_X3_saver_B25 (k25 : Int32 → Int32 → Int32 → Mem → Option (Int32 × Mem)) (c : Nat) (x1 : Int32) (x2 : Int32) (x3 : Int32) (x4 : Int32) (x5 : Int32) (σ : Mem) : Option (Int32 × Mem) := (lt (σ c 5) fun v1 => (if v1 ≤ x5 then some (x3, σ) else (if x5 = x1 then (p_X3_saver_B88 k25 c x1 x2) x3 x4 x5 σ else (if x5 < 0 ∨ 8 ≤ (x5).toNatClampNeg then none else lt (σ (30 + c) (x5).toNatClampNeg) fun v2 => (if x1 < 0 ∨ 8 ≤ (x1).toNatClampNeg then none else lt (σ (30 + c) (x1).toNatClampNeg) fun v3 => (if v2 = v3 then (bnd (p_X3_kindOf c x5 σ) fun v4 s5 => (if x5 < 0 ∨ 8 ≤ (x5).toNatClampNeg then none else lt (s5 (27 + c) (x5).toNatClampNeg) fun v7 => (bnd (p_K_reach v4 v7 s5) fun v8 s9 => (if v8 ≤ x4 then (p_X3_saver_B88 k25 c x1 x2) x3 x4 x5 s9 else (p_X3_saver_B88 k25 c x1 x2) x5 v8 x5 s9)))) else (p_X3_saver_B88 k25 c x1 x2) x3 x4 x5 σ))))))
def p_X3_saver_L25  (c : Nat) (x1 : Int32) (x2 : Int32) : Nat → Int32 → Int32 → Int32 → Mem → Option (Int32 × Mem)
  | 0 => fun _ _ _ _ => none
  | f + 1 => p_X3_saver_B25 (p_X3_saver_L25 c x1 x2 f) c x1 x2
def p_X3_saver (c : Nat) (x1 : Int32) (x2 : Int32) (σ : Mem) : Option (Int32 × Mem) := (bnd (p_X3_kindOf c x1 σ) fun v11 s12 => (if x1 < 0 ∨ 8 ≤ (x1).toNatClampNeg then none else lt (s12 (27 + c) (x1).toNatClampNeg) fun v14 => (bnd (p_K_risk v11 v14 x2 s12) fun v15 s16 => (p_X3_saver_L25 c x1 x2 1000) (-4 : Int32) (v15 - (1 : Int32)) (0 : Int32) s16)))
set_option maxHeartbeats 4000000 in
set_option maxRecDepth 100000 in
theorem c_X3_saver {G : Gl} {c : Nat} {x1 : Int32} {x2 : Int32} {σ : Mem} {res : Int32 × Mem} (hc : isCape c) (h : p_X3_saver c x1 x2 σ = some res) : MetX G yX3_saver cX3_saver 7 (some .int) 4 [.ref (ga G c), .int x1, .int x2] σ (some (.int res.1)) res.2 := by
  refine met_V (by decide +kernel) (Nat.le_of_ble_eq_true rfl) (fun X hC => ?_)
  have hC : Ok G 4 7 X cX3_saver RX3 (some .int) := hC
  have hB88 : ∀ (k25 : Int32 → Int32 → Int32 → Mem → Option (Int32 × Mem)), (∀ (x3 : Int32), ∀ (x4 : Int32), ∀ (x5 : Int32), ∀ σ : Mem, k25 x3 x4 x5 σ = some res → V G 4 7 X ((some (.int res.1)), res.2) σ [(0, .ref (ga G c)), (1, .int x1), (3, .int x3), (4, .int x4), (5, .int x5)] [] 25) → ∀ (x3 : Int32), ∀ (x4 : Int32), ∀ (x5 : Int32), ∀ σ : Mem, p_X3_saver_B88 k25 c x1 x2 x3 x4 x5 σ = some res → V G 4 7 X ((some (.int res.1)), res.2) σ [(0, .ref (ga G c)), (1, .int x1), (3, .int x3), (4, .int x4), (5, .int x5)] [] 88 := by
    intro k25 hk25 x3 x4 x5 σ h
    unfold p_X3_saver_B88 at h
    refine v_blk hC (is := [(.iinc 5 1, (1 : Int32))]) (pc' := 91) (ls' := [(5, .int (x5 + (1 : Int32))), (0, .ref (ga G c)), (1, .int x1), (3, .int x3), (4, .int x4)]) (st' := []) (by decide +kernel) rfl ?_
    refine v_goto hC (off := (-66)) (tgt := 25) (by decide +kernel) (by decide) ?_
    refine v_sub [1, 2, 3, 4, 0] (ls' := [(0, .ref (ga G c)), (1, .int x1), (3, .int x3), (4, .int x4), (5, .int (x5 + (1 : Int32)))]) rfl ?_
    exact hk25 _ _ _ _ h
  have hB25 : ∀ (k25 : Int32 → Int32 → Int32 → Mem → Option (Int32 × Mem)), (∀ (x3 : Int32), ∀ (x4 : Int32), ∀ (x5 : Int32), ∀ σ : Mem, k25 x3 x4 x5 σ = some res → V G 4 7 X ((some (.int res.1)), res.2) σ [(0, .ref (ga G c)), (1, .int x1), (3, .int x3), (4, .int x4), (5, .int x5)] [] 25) → ∀ (x3 : Int32), ∀ (x4 : Int32), ∀ (x5 : Int32), ∀ σ : Mem, p_X3_saver_B25 k25 c x1 x2 x3 x4 x5 σ = some res → V G 4 7 X ((some (.int res.1)), res.2) σ [(0, .ref (ga G c)), (1, .int x1), (3, .int x3), (4, .int x4), (5, .int x5)] [] 25 := by
    intro k25 hk25 x3 x4 x5 σ h
    unfold p_X3_saver_B25 at h
    refine v_blk hC (is := [(.iload 5, 0), (.aload_n 0, 0)]) (pc' := 28) (ls' := [(0, .ref (ga G c)), (1, .int x1), (3, .int x3), (4, .int x4), (5, .int x5)]) (st' := [.ref (ga G c), .int x5]) (by decide +kernel) rfl ?_
    refine gX3_5 hC hc lfX3_65 (by decide +kernel) h (fun v1 h => ?_)
    refine v_icmp_ge hC (off := 63) (tgt := 94) (by decide +kernel) (by decide) h (fun hq h => ?_) (fun hq h => ?_)
    · refine v_blk hC (is := [(.iload_n 3, 0)]) (pc' := 95) (ls' := [(0, .ref (ga G c)), (1, .int x1), (3, .int x3), (4, .int x4), (5, .int x5)]) (st' := [.int x3]) (by decide +kernel) rfl ?_
      exact v_iret hC h (by decide +kernel)
    · refine v_blk hC (is := [(.iload 5, 0), (.iload_n 1, 0)]) (pc' := 37) (ls' := [(0, .ref (ga G c)), (1, .int x1), (3, .int x3), (4, .int x4), (5, .int x5)]) (st' := [.int x1, .int x5]) (by decide +kernel) rfl ?_
      refine v_icmp_eq hC (off := 51) (tgt := 88) (by decide +kernel) (by decide) h (fun hq h => ?_) (fun hq h => ?_)
      · exact (hB88 _ hk25) _ _ _ _ h
      · refine v_blk hC (is := [(.aload_n 0, 0)]) (pc' := 41) (ls' := [(0, .ref (ga G c)), (1, .int x1), (3, .int x3), (4, .int x4), (5, .int x5)]) (st' := [.ref (ga G c)]) (by decide +kernel) rfl ?_
        refine gX3_3 hC hc lfX3_46 (by decide +kernel) ?_
        refine v_blk hC (is := [(.iload 5, 0)]) (pc' := 46) (ls' := [(0, .ref (ga G c)), (1, .int x1), (3, .int x3), (4, .int x4), (5, .int x5)]) (st' := [.int x5, .ref (ga G (30 + c))]) (by decide +kernel) rfl ?_
        refine v_iald hC (isA_boat hc) (al_boat hc) (by decide +kernel) h (fun v2 h => ?_)
        refine v_blk hC (is := [(.aload_n 0, 0)]) (pc' := 48) (ls' := [(0, .ref (ga G c)), (1, .int x1), (3, .int x3), (4, .int x4), (5, .int x5)]) (st' := [.ref (ga G c), .int v2]) (by decide +kernel) rfl ?_
        refine gX3_3 hC hc lfX3_46 (by decide +kernel) ?_
        refine v_blk hC (is := [(.iload_n 1, 0)]) (pc' := 52) (ls' := [(0, .ref (ga G c)), (1, .int x1), (3, .int x3), (4, .int x4), (5, .int x5)]) (st' := [.int x1, .ref (ga G (30 + c)), .int v2]) (by decide +kernel) rfl ?_
        refine v_iald hC (isA_boat hc) (al_boat hc) (by decide +kernel) h (fun v3 h => ?_)
        refine v_icmp_ne hC (off := 35) (tgt := 88) (by decide +kernel) (by decide) h (fun hq h => ?_) (fun hq h => ?_)
        · exact (hB88 _ hk25) _ _ _ _ h
        · refine v_blk hC (is := [(.aload_n 0, 0), (.iload 5, 0)]) (pc' := 59) (ls' := [(0, .ref (ga G c)), (1, .int x1), (3, .int x3), (4, .int x4), (5, .int x5)]) (st' := [.int x5, .ref (ga G c)]) (by decide +kernel) rfl ?_
          obtain ⟨v4, s5, e6, h⟩ := bndI h
          refine v_cV (idx := 91) hC ⟨tt_at 380 (by decide +kernel) rfl, tiX3_kindOf, tvX3_kindOf, tnX3_kindOf, tcX3_kindOf, tmX3_kindOf⟩ (isO_X3 hc) rfl (c_X3_kindOf hc e6) (by decide) (by decide) (by decide +kernel) (rest := []) rfl rfl (Nat.le_of_ble_eq_true rfl) rfl ?_
          refine v_blk hC (is := [(.aload_n 0, 0)]) (pc' := 63) (ls' := [(0, .ref (ga G c)), (1, .int x1), (3, .int x3), (4, .int x4), (5, .int x5)]) (st' := [.ref (ga G c), .ref (ga G v4)]) (by decide +kernel) rfl ?_
          refine gX3_2 hC hc lfX3_43 (by decide +kernel) ?_
          refine v_blk hC (is := [(.iload 5, 0)]) (pc' := 68) (ls' := [(0, .ref (ga G c)), (1, .int x1), (3, .int x3), (4, .int x4), (5, .int x5)]) (st' := [.int x5, .ref (ga G (27 + c)), .ref (ga G v4)]) (by decide +kernel) rfl ?_
          refine v_iald hC (isA_figure hc) (al_figure hc) (by decide +kernel) h (fun v7 h => ?_)
          obtain ⟨v8, s9, e10, h⟩ := bndI h
          refine kX3_reach hC e10 (by decide) (by decide +kernel) (rest := []) rfl (Nat.le_of_ble_eq_true rfl) rfl ?_
          refine v_blk hC (is := [(.istore 6, 0), (.iload 6, 0), (.iload 4, 0)]) (pc' := 78) (ls' := [(6, .int v8), (0, .ref (ga G c)), (1, .int x1), (3, .int x3), (4, .int x4), (5, .int x5)]) (st' := [.int x4, .int v8]) (by decide +kernel) rfl ?_
          refine v_icmp_le hC (off := 10) (tgt := 88) (by decide +kernel) (by decide) h (fun hq h => ?_) (fun hq h => ?_)
          · refine v_sub [1, 2, 3, 4, 5] (ls' := [(0, .ref (ga G c)), (1, .int x1), (3, .int x3), (4, .int x4), (5, .int x5)]) rfl ?_
            exact (hB88 _ hk25) _ _ _ _ h
          · refine v_blk hC (is := [(.iload 5, 0), (.istore_n 3, 0), (.iload 6, 0), (.istore 4, 0)]) (pc' := 88) (ls' := [(4, .int v8), (3, .int x5), (6, .int v8), (0, .ref (ga G c)), (1, .int x1), (5, .int x5)]) (st' := []) (by decide +kernel) rfl ?_
            refine v_sub [3, 4, 1, 0, 5] (ls' := [(0, .ref (ga G c)), (1, .int x1), (3, .int x5), (4, .int v8), (5, .int x5)]) rfl ?_
            exact (hB88 _ hk25) _ _ _ _ h
  have hL25 : ∀ f : Nat, ∀ (x3 : Int32), ∀ (x4 : Int32), ∀ (x5 : Int32), ∀ σ : Mem, p_X3_saver_L25 c x1 x2 f x3 x4 x5 σ = some res → V G 4 7 X ((some (.int res.1)), res.2) σ [(0, .ref (ga G c)), (1, .int x1), (3, .int x3), (4, .int x4), (5, .int x5)] [] 25 := by
    intro  f
    induction f with
    | zero => intro x3 x4 x5 σ h; exact none_some h
    | succ f ih => intro x3 x4 x5 σ h; exact hB25 (p_X3_saver_L25 c x1 x2 f)  ih  x3 x4 x5 σ h
  unfold p_X3_saver at h
  show V G 4 7 X ((some (.int res.1)), res.2) σ [(0, .ref (ga G c)), (1, .int x1), (2, .int x2)] [] 0
  refine v_blk hC (is := [(.bipush (-4), (-4 : Int32)), (.istore_n 3, 0), (.aload_n 0, 0), (.iload_n 1, 0)]) (pc' := 5) (ls' := [(3, .int (-4 : Int32)), (0, .ref (ga G c)), (1, .int x1), (2, .int x2)]) (st' := [.int x1, .ref (ga G c)]) (by decide +kernel) rfl ?_
  obtain ⟨v11, s12, e13, h⟩ := bndI h
  refine v_cV (idx := 91) hC ⟨tt_at 380 (by decide +kernel) rfl, tiX3_kindOf, tvX3_kindOf, tnX3_kindOf, tcX3_kindOf, tmX3_kindOf⟩ (isO_X3 hc) rfl (c_X3_kindOf hc e13) (by decide) (by decide) (by decide +kernel) (rest := []) rfl rfl (Nat.le_of_ble_eq_true rfl) rfl ?_
  refine v_blk hC (is := [(.aload_n 0, 0)]) (pc' := 9) (ls' := [(3, .int (-4 : Int32)), (0, .ref (ga G c)), (1, .int x1), (2, .int x2)]) (st' := [.ref (ga G c), .ref (ga G v11)]) (by decide +kernel) rfl ?_
  refine gX3_2 hC hc lfX3_43 (by decide +kernel) ?_
  refine v_blk hC (is := [(.iload_n 1, 0)]) (pc' := 13) (ls' := [(3, .int (-4 : Int32)), (0, .ref (ga G c)), (1, .int x1), (2, .int x2)]) (st' := [.int x1, .ref (ga G (27 + c)), .ref (ga G v11)]) (by decide +kernel) rfl ?_
  refine v_iald hC (isA_figure hc) (al_figure hc) (by decide +kernel) h (fun v14 h => ?_)
  refine v_blk hC (is := [(.iload_n 2, 0)]) (pc' := 15) (ls' := [(3, .int (-4 : Int32)), (0, .ref (ga G c)), (1, .int x1), (2, .int x2)]) (st' := [.int x2, .int v14, .ref (ga G v11)]) (by decide +kernel) rfl ?_
  obtain ⟨v15, s16, e17, h⟩ := bndI h
  refine kX3_risk hC e17 (by decide) (by decide +kernel) (rest := []) rfl (Nat.le_of_ble_eq_true rfl) rfl ?_
  refine v_blk hC (is := [(.iconst 1, (1 : Int32)), (.isub, 0), (.istore 4, 0), (.iconst 0, (0 : Int32)), (.istore 5, 0)]) (pc' := 25) (ls' := [(5, .int (0 : Int32)), (4, .int (v15 - (1 : Int32))), (3, .int (-4 : Int32)), (0, .ref (ga G c)), (1, .int x1), (2, .int x2)]) (st' := []) (by decide +kernel) rfl ?_
  refine v_sub [3, 4, 2, 1, 0] (ls' := [(0, .ref (ga G c)), (1, .int x1), (3, .int (-4 : Int32)), (4, .int (v15 - (1 : Int32))), (5, .int (0 : Int32))]) rfl ?_
  exact (hL25 1000) _ _ _ _ h

def p_X3_goesOverboard_B88  (c : Nat) (x1 : Int32) (x2 : Int32) (t1 : Int32) (t2 : Int32) (σ : Mem) : Option (Unit × Mem) := (if t1 < 0 ∨ 64 ≤ (t1).toNatClampNeg then none else wr σ (33 + c) (t1).toNatClampNeg t2 fun s1 => (lt (s1 c 7) fun v2 => (bnd (p_X3_agree c x2 x1 v2 s1) fun v3 s4 => (if v3 = 0 then (if x2 < 0 ∨ 8 ≤ (x2).toNatClampNeg then none else wr s4 (30 + c) (x2).toNatClampNeg (9 : Int32) fun s6 => some ((), s6)) else some ((), s4)))))
def p_X3_goesOverboard (c : Nat) (x1 : Int32) (x2 : Int32) (σ : Mem) : Option (Unit × Mem) := (if 0 ≤ x2 then (bnd (p_X3_kindOf c x2 σ) fun v7 s8 => (if x2 < 0 ∨ 8 ≤ (x2).toNatClampNeg then none else lt (s8 (27 + c) (x2).toNatClampNeg) fun v10 => (bnd (p_K_reach v7 v10 s8) fun v11 s12 => (bnd (p_X3_kindOf c x1 s12) fun v14 s15 => (if x1 < 0 ∨ 8 ≤ (x1).toNatClampNeg then none else lt (s15 (27 + c) (x1).toNatClampNeg) fun v17 => (lt (s15 c 9) fun v18 => (bnd (p_K_risk v14 v17 v18 s15) fun v19 s20 => (if (v11 - v19) < (3 : Int32) then (if (v11 - v19) < (1 : Int32) then (p_X3_goesOverboard_B88 c x1 x2) ((x2 * (8 : Int32)) + x1) (1 : Int32) s20 else (p_X3_goesOverboard_B88 c x1 x2) ((x2 * (8 : Int32)) + x1) (2 : Int32) s20) else (p_X3_goesOverboard_B88 c x1 x2) ((x2 * (8 : Int32)) + x1) (3 : Int32) s20)))))))) else (lt (σ c 6) fun v22 => (wr σ c 6 (v22 ||| ((1 : Int32) <<< (x1 &&& 31))) fun s23 => (if x1 < 0 ∨ 8 ≤ (x1).toNatClampNeg then none else wr s23 (30 + c) (x1).toNatClampNeg (9 : Int32) fun s24 => some ((), s24)))))
set_option maxHeartbeats 4000000 in
set_option maxRecDepth 100000 in
theorem c_X3_goesOverboard {G : Gl} {c : Nat} {x1 : Int32} {x2 : Int32} {σ : Mem} {res : Unit × Mem} (hc : isCape c) (h : p_X3_goesOverboard c x1 x2 σ = some res) : MetX G yX3_goesOverboard cX3_goesOverboard 4 none 4 [.ref (ga G c), .int x1, .int x2] σ none res.2 := by
  refine met_V (by decide +kernel) (Nat.le_of_ble_eq_true rfl) (fun X hC => ?_)
  have hC : Ok G 4 4 X cX3_goesOverboard RX3 none := hC
  have hB88 : ∀ (t1 : Int32), ∀ (t2 : Int32), ∀ σ : Mem, p_X3_goesOverboard_B88 c x1 x2 t1 t2 σ = some res → V G 4 4 X (none, res.2) σ [(0, .ref (ga G c)), (1, .int x1), (2, .int x2)] [.int t2, .int t1, .ref (ga G (33 + c))] 88 := by
    intro t1 t2 σ h
    unfold p_X3_goesOverboard_B88 at h
    refine v_iast hC (isA_how hc) (al_how hc) (by decide +kernel) h (fun s1 h => ?_)
    refine v_blk hC (is := [(.aload_n 0, 0), (.iload_n 2, 0), (.iload_n 1, 0), (.aload_n 0, 0)]) (pc' := 93) (ls' := [(0, .ref (ga G c)), (1, .int x1), (2, .int x2)]) (st' := [.ref (ga G c), .int x1, .int x2, .ref (ga G c)]) (by decide +kernel) rfl ?_
    refine gX3_7 hC hc lfX3_52 (by decide +kernel) h (fun v2 h => ?_)
    obtain ⟨v3, s4, e5, h⟩ := bndI h
    refine v_cV (idx := 106) hC ⟨tt_at 445 (by decide +kernel) rfl, tiX3_agree, tvX3_agree, tnX3_agree, tcX3_agree, tmX3_agree⟩ (isO_X3 hc) rfl (c_X3_agree hc e5) (by decide) (by decide) (by decide +kernel) (rest := []) rfl rfl (Nat.le_of_ble_eq_true rfl) rfl ?_
    refine v_if_ne hC (off := 11) (tgt := 110) (by decide +kernel) (by decide) h (fun hq h => ?_) (fun hq h => ?_)
    · exact v_vret hC h (by decide +kernel)
    · refine v_blk hC (is := [(.aload_n 0, 0)]) (pc' := 103) (ls' := [(0, .ref (ga G c)), (1, .int x1), (2, .int x2)]) (st' := [.ref (ga G c)]) (by decide +kernel) rfl ?_
      refine gX3_3 hC hc lfX3_46 (by decide +kernel) ?_
      refine v_blk hC (is := [(.iload_n 2, 0), (.bipush 9, (9 : Int32))]) (pc' := 109) (ls' := [(0, .ref (ga G c)), (1, .int x1), (2, .int x2)]) (st' := [.int (9 : Int32), .int x2, .ref (ga G (30 + c))]) (by decide +kernel) rfl ?_
      refine v_iast hC (isA_boat hc) (al_boat hc) (by decide +kernel) h (fun s6 h => ?_)
      exact v_vret hC h (by decide +kernel)
  unfold p_X3_goesOverboard at h
  show V G 4 4 X (none, res.2) σ [(0, .ref (ga G c)), (1, .int x1), (2, .int x2)] [] 0
  refine v_blk hC (is := [(.iload_n 2, 0)]) (pc' := 1) (ls' := [(0, .ref (ga G c)), (1, .int x1), (2, .int x2)]) (st' := [.int x2]) (by decide +kernel) rfl ?_
  refine v_if_ge hC (off := 24) (tgt := 25) (by decide +kernel) (by decide) h (fun hq h => ?_) (fun hq h => ?_)
  · refine v_blk hC (is := [(.aload_n 0, 0), (.iload_n 2, 0)]) (pc' := 27) (ls' := [(0, .ref (ga G c)), (1, .int x1), (2, .int x2)]) (st' := [.int x2, .ref (ga G c)]) (by decide +kernel) rfl ?_
    obtain ⟨v7, s8, e9, h⟩ := bndI h
    refine v_cV (idx := 91) hC ⟨tt_at 380 (by decide +kernel) rfl, tiX3_kindOf, tvX3_kindOf, tnX3_kindOf, tcX3_kindOf, tmX3_kindOf⟩ (isO_X3 hc) rfl (c_X3_kindOf hc e9) (by decide) (by decide) (by decide +kernel) (rest := []) rfl rfl (Nat.le_of_ble_eq_true rfl) rfl ?_
    refine v_blk hC (is := [(.aload_n 0, 0)]) (pc' := 31) (ls' := [(0, .ref (ga G c)), (1, .int x1), (2, .int x2)]) (st' := [.ref (ga G c), .ref (ga G v7)]) (by decide +kernel) rfl ?_
    refine gX3_2 hC hc lfX3_43 (by decide +kernel) ?_
    refine v_blk hC (is := [(.iload_n 2, 0)]) (pc' := 35) (ls' := [(0, .ref (ga G c)), (1, .int x1), (2, .int x2)]) (st' := [.int x2, .ref (ga G (27 + c)), .ref (ga G v7)]) (by decide +kernel) rfl ?_
    refine v_iald hC (isA_figure hc) (al_figure hc) (by decide +kernel) h (fun v10 h => ?_)
    obtain ⟨v11, s12, e13, h⟩ := bndI h
    refine kX3_reach hC e13 (by decide) (by decide +kernel) (rest := []) rfl (Nat.le_of_ble_eq_true rfl) rfl ?_
    refine v_blk hC (is := [(.aload_n 0, 0), (.iload_n 1, 0)]) (pc' := 41) (ls' := [(0, .ref (ga G c)), (1, .int x1), (2, .int x2)]) (st' := [.int x1, .ref (ga G c), .int v11]) (by decide +kernel) rfl ?_
    obtain ⟨v14, s15, e16, h⟩ := bndI h
    refine v_cV (idx := 91) hC ⟨tt_at 380 (by decide +kernel) rfl, tiX3_kindOf, tvX3_kindOf, tnX3_kindOf, tcX3_kindOf, tmX3_kindOf⟩ (isO_X3 hc) rfl (c_X3_kindOf hc e16) (by decide) (by decide) (by decide +kernel) (rest := [.int v11]) rfl rfl (Nat.le_of_ble_eq_true rfl) rfl ?_
    refine v_blk hC (is := [(.aload_n 0, 0)]) (pc' := 45) (ls' := [(0, .ref (ga G c)), (1, .int x1), (2, .int x2)]) (st' := [.ref (ga G c), .ref (ga G v14), .int v11]) (by decide +kernel) rfl ?_
    refine gX3_2 hC hc lfX3_43 (by decide +kernel) ?_
    refine v_blk hC (is := [(.iload_n 1, 0)]) (pc' := 49) (ls' := [(0, .ref (ga G c)), (1, .int x1), (2, .int x2)]) (st' := [.int x1, .ref (ga G (27 + c)), .ref (ga G v14), .int v11]) (by decide +kernel) rfl ?_
    refine v_iald hC (isA_figure hc) (al_figure hc) (by decide +kernel) h (fun v17 h => ?_)
    refine v_blk hC (is := [(.aload_n 0, 0)]) (pc' := 51) (ls' := [(0, .ref (ga G c)), (1, .int x1), (2, .int x2)]) (st' := [.ref (ga G c), .int v17, .ref (ga G v14), .int v11]) (by decide +kernel) rfl ?_
    refine gX3_9 hC hc lfX3_71 (by decide +kernel) h (fun v18 h => ?_)
    obtain ⟨v19, s20, e21, h⟩ := bndI h
    refine kX3_risk hC e21 (by decide) (by decide +kernel) (rest := [.int v11]) rfl (Nat.le_of_ble_eq_true rfl) rfl ?_
    refine v_blk hC (is := [(.isub, 0), (.istore_n 3, 0), (.aload_n 0, 0)]) (pc' := 60) (ls' := [(3, .int (v11 - v19)), (0, .ref (ga G c)), (1, .int x1), (2, .int x2)]) (st' := [.ref (ga G c)]) (by decide +kernel) rfl ?_
    refine gX3_4 hC hc lfX3_49 (by decide +kernel) ?_
    refine v_blk hC (is := [(.iload_n 2, 0), (.bipush 8, (8 : Int32)), (.imul, 0), (.iload_n 1, 0), (.iadd, 0), (.iload_n 3, 0), (.iconst 3, (3 : Int32))]) (pc' := 71) (ls' := [(3, .int (v11 - v19)), (0, .ref (ga G c)), (1, .int x1), (2, .int x2)]) (st' := [.int (3 : Int32), .int (v11 - v19), .int ((x2 * (8 : Int32)) + x1), .ref (ga G (33 + c))]) (by decide +kernel) rfl ?_
    refine v_icmp_lt hC (off := 7) (tgt := 78) (by decide +kernel) (by decide) h (fun hq h => ?_) (fun hq h => ?_)
    · refine v_blk hC (is := [(.iload_n 3, 0), (.iconst 1, (1 : Int32))]) (pc' := 80) (ls' := [(3, .int (v11 - v19)), (0, .ref (ga G c)), (1, .int x1), (2, .int x2)]) (st' := [.int (1 : Int32), .int (v11 - v19), .int ((x2 * (8 : Int32)) + x1), .ref (ga G (33 + c))]) (by decide +kernel) rfl ?_
      refine v_icmp_lt hC (off := 7) (tgt := 87) (by decide +kernel) (by decide) h (fun hq h => ?_) (fun hq h => ?_)
      · refine v_blk hC (is := [(.iconst 1, (1 : Int32))]) (pc' := 88) (ls' := [(3, .int (v11 - v19)), (0, .ref (ga G c)), (1, .int x1), (2, .int x2)]) (st' := [.int (1 : Int32), .int ((x2 * (8 : Int32)) + x1), .ref (ga G (33 + c))]) (by decide +kernel) rfl ?_
        refine v_sub [1, 2, 3] (ls' := [(0, .ref (ga G c)), (1, .int x1), (2, .int x2)]) rfl ?_
        exact (hB88 ) _ _ _ h
      · refine v_blk hC (is := [(.iconst 2, (2 : Int32))]) (pc' := 84) (ls' := [(3, .int (v11 - v19)), (0, .ref (ga G c)), (1, .int x1), (2, .int x2)]) (st' := [.int (2 : Int32), .int ((x2 * (8 : Int32)) + x1), .ref (ga G (33 + c))]) (by decide +kernel) rfl ?_
        refine v_goto hC (off := 4) (tgt := 88) (by decide +kernel) (by decide) ?_
        refine v_sub [1, 2, 3] (ls' := [(0, .ref (ga G c)), (1, .int x1), (2, .int x2)]) rfl ?_
        exact (hB88 ) _ _ _ h
    · refine v_blk hC (is := [(.iconst 3, (3 : Int32))]) (pc' := 75) (ls' := [(3, .int (v11 - v19)), (0, .ref (ga G c)), (1, .int x1), (2, .int x2)]) (st' := [.int (3 : Int32), .int ((x2 * (8 : Int32)) + x1), .ref (ga G (33 + c))]) (by decide +kernel) rfl ?_
      refine v_goto hC (off := 13) (tgt := 88) (by decide +kernel) (by decide) ?_
      refine v_sub [1, 2, 3] (ls' := [(0, .ref (ga G c)), (1, .int x1), (2, .int x2)]) rfl ?_
      exact (hB88 ) _ _ _ h
  · refine v_blk hC (is := [(.aload_n 0, 0), (.dup, 0)]) (pc' := 6) (ls' := [(0, .ref (ga G c)), (1, .int x1), (2, .int x2)]) (st' := [.ref (ga G c), .ref (ga G c)]) (by decide +kernel) rfl ?_
    refine gX3_6 hC hc lfX3_68 (by decide +kernel) h (fun v22 h => ?_)
    refine v_blk hC (is := [(.iconst 1, (1 : Int32)), (.iload_n 1, 0), (.ishl, 0), (.ior, 0)]) (pc' := 13) (ls' := [(0, .ref (ga G c)), (1, .int x1), (2, .int x2)]) (st' := [.int (v22 ||| ((1 : Int32) <<< (x1 &&& 31))), .ref (ga G c)]) (by decide +kernel) rfl ?_
    refine pX3_6 hC hc lfX3_68 (by decide +kernel) h (fun s23 h => ?_)
    refine v_blk hC (is := [(.aload_n 0, 0)]) (pc' := 17) (ls' := [(0, .ref (ga G c)), (1, .int x1), (2, .int x2)]) (st' := [.ref (ga G c)]) (by decide +kernel) rfl ?_
    refine gX3_3 hC hc lfX3_46 (by decide +kernel) ?_
    refine v_blk hC (is := [(.iload_n 1, 0), (.bipush 9, (9 : Int32))]) (pc' := 23) (ls' := [(0, .ref (ga G c)), (1, .int x1), (2, .int x2)]) (st' := [.int (9 : Int32), .int x1, .ref (ga G (30 + c))]) (by decide +kernel) rfl ?_
    refine v_iast hC (isA_boat hc) (al_boat hc) (by decide +kernel) h (fun s24 h => ?_)
    exact v_vret hC h (by decide +kernel)

def p_X3_sails_B56 (k19 : Int32 → Int32 → Mem → Option (Unit × Mem)) (c : Nat) (x1 : Int32) (x2 : Int32) (x3 : Int32) (σ : Mem) : Option (Unit × Mem) := k19 x2 (x3 + (1 : Int32)) σ
def p_X3_sails_B19 (k19 : Int32 → Int32 → Mem → Option (Unit × Mem)) (k62 : Int32 → Mem → Option (Unit × Mem)) (c : Nat) (x1 : Int32) (x2 : Int32) (x3 : Int32) (σ : Mem) : Option (Unit × Mem) := (if (3 : Int32) ≤ x3 then k62 x2 σ else (lt (σ c 9) fun v1 => (bnd (p_X3_faller c x3 v1 σ) fun v2 s3 => (if v2 < 0 then (p_X3_sails_B56 k19 c x1) x2 x3 s3 else (lt (s3 c 9) fun v5 => (bnd (p_X3_saver c v2 v5 s3) fun v6 s7 => (bnd (p_X3_goesOverboard c v2 v6 s7) fun (v9 : Unit) s10 => (p_X3_sails_B56 k19 c x1) x2 x3 s10)))))))
def p_X3_sails_L19 (k62 : Int32 → Mem → Option (Unit × Mem)) (c : Nat) (x1 : Int32) : Nat → Int32 → Int32 → Mem → Option (Unit × Mem)
  | 0 => fun _ _ _ => none
  | f + 1 => p_X3_sails_B19 (p_X3_sails_L19 k62 c x1 f) k62 c x1
def p_X3_sails_B2 (k2 : Int32 → Mem → Option (Unit × Mem)) (c : Nat) (x1 : Int32) (x2 : Int32) (σ : Mem) : Option (Unit × Mem) := (if x1 ≤ x2 then some ((), σ) else (lt (σ c 9) fun v12 => (wr σ c 9 (v12 + (1 : Int32)) fun s13 => (p_X3_sails_L19 (fun (x2 : Int32) (m14 : Mem) => k2 (x2 + (1 : Int32)) m14) c x1 1000) x2 (0 : Int32) s13)))
def p_X3_sails_L2  (c : Nat) (x1 : Int32) : Nat → Int32 → Mem → Option (Unit × Mem)
  | 0 => fun _ _ => none
  | f + 1 => p_X3_sails_B2 (p_X3_sails_L2 c x1 f) c x1
def p_X3_sails (c : Nat) (x1 : Int32) (σ : Mem) : Option (Unit × Mem) := (p_X3_sails_L2 c x1 1000) (0 : Int32) σ
set_option maxHeartbeats 4000000 in
set_option maxRecDepth 100000 in
theorem c_X3_sails {G : Gl} {c : Nat} {x1 : Int32} {σ : Mem} {res : Unit × Mem} (hc : isCape c) (h : p_X3_sails c x1 σ = some res) : MetX G yX3_sails cX3_sails 5 none 5 [.ref (ga G c), .int x1] σ none res.2 := by
  refine met_V (by decide +kernel) (Nat.le_of_ble_eq_true rfl) (fun X hC => ?_)
  have hC : Ok G 5 5 X cX3_sails RX3 none := hC
  have hB56 : ∀ (k19 : Int32 → Int32 → Mem → Option (Unit × Mem)), (∀ (x2 : Int32), ∀ (x3 : Int32), ∀ σ : Mem, k19 x2 x3 σ = some res → V G 5 5 X (none, res.2) σ [(0, .ref (ga G c)), (1, .int x1), (2, .int x2), (3, .int x3)] [] 19) → ∀ (x2 : Int32), ∀ (x3 : Int32), ∀ σ : Mem, p_X3_sails_B56 k19 c x1 x2 x3 σ = some res → V G 5 5 X (none, res.2) σ [(0, .ref (ga G c)), (1, .int x1), (2, .int x2), (3, .int x3)] [] 56 := by
    intro k19 hk19 x2 x3 σ h
    unfold p_X3_sails_B56 at h
    refine v_blk hC (is := [(.iinc 3 1, (1 : Int32))]) (pc' := 59) (ls' := [(3, .int (x3 + (1 : Int32))), (0, .ref (ga G c)), (1, .int x1), (2, .int x2)]) (st' := []) (by decide +kernel) rfl ?_
    refine v_goto hC (off := (-40)) (tgt := 19) (by decide +kernel) (by decide) ?_
    refine v_sub [1, 2, 3, 0] (ls' := [(0, .ref (ga G c)), (1, .int x1), (2, .int x2), (3, .int (x3 + (1 : Int32)))]) rfl ?_
    exact hk19 _ _ _ h
  have hB19 : ∀ (k19 : Int32 → Int32 → Mem → Option (Unit × Mem)), ∀ (k62 : Int32 → Mem → Option (Unit × Mem)), (∀ (x2 : Int32), ∀ (x3 : Int32), ∀ σ : Mem, k19 x2 x3 σ = some res → V G 5 5 X (none, res.2) σ [(0, .ref (ga G c)), (1, .int x1), (2, .int x2), (3, .int x3)] [] 19) → (∀ (x2 : Int32), ∀ σ : Mem, k62 x2 σ = some res → V G 5 5 X (none, res.2) σ [(0, .ref (ga G c)), (1, .int x1), (2, .int x2)] [] 62) → ∀ (x2 : Int32), ∀ (x3 : Int32), ∀ σ : Mem, p_X3_sails_B19 k19 k62 c x1 x2 x3 σ = some res → V G 5 5 X (none, res.2) σ [(0, .ref (ga G c)), (1, .int x1), (2, .int x2), (3, .int x3)] [] 19 := by
    intro k19 k62 hk19 hk62 x2 x3 σ h
    unfold p_X3_sails_B19 at h
    refine v_blk hC (is := [(.iload_n 3, 0), (.iconst 3, (3 : Int32))]) (pc' := 21) (ls' := [(0, .ref (ga G c)), (1, .int x1), (2, .int x2), (3, .int x3)]) (st' := [.int (3 : Int32), .int x3]) (by decide +kernel) rfl ?_
    refine v_icmp_ge hC (off := 41) (tgt := 62) (by decide +kernel) (by decide) h (fun hq h => ?_) (fun hq h => ?_)
    · refine v_sub [0, 1, 2] (ls' := [(0, .ref (ga G c)), (1, .int x1), (2, .int x2)]) rfl ?_
      exact hk62 _ _ h
    · refine v_blk hC (is := [(.aload_n 0, 0), (.iload_n 3, 0), (.aload_n 0, 0)]) (pc' := 27) (ls' := [(0, .ref (ga G c)), (1, .int x1), (2, .int x2), (3, .int x3)]) (st' := [.ref (ga G c), .int x3, .ref (ga G c)]) (by decide +kernel) rfl ?_
      refine gX3_9 hC hc lfX3_71 (by decide +kernel) h (fun v1 h => ?_)
      obtain ⟨v2, s3, e4, h⟩ := bndI h
      refine v_cV (idx := 166) hC ⟨tt_at 376 (by decide +kernel) rfl, tiX3_faller, tvX3_faller, tnX3_faller, tcX3_faller, tmX3_faller⟩ (isO_X3 hc) rfl (c_X3_faller hc e4) (by decide) (by decide) (by decide +kernel) (rest := []) rfl rfl (Nat.le_of_ble_eq_true rfl) rfl ?_
      refine v_blk hC (is := [(.istore 4, 0), (.iload 4, 0)]) (pc' := 37) (ls' := [(4, .int v2), (0, .ref (ga G c)), (1, .int x1), (2, .int x2), (3, .int x3)]) (st' := [.int v2]) (by decide +kernel) rfl ?_
      refine v_if_lt hC (off := 19) (tgt := 56) (by decide +kernel) (by decide) h (fun hq h => ?_) (fun hq h => ?_)
      · refine v_sub [1, 2, 3, 4] (ls' := [(0, .ref (ga G c)), (1, .int x1), (2, .int x2), (3, .int x3)]) rfl ?_
        exact (hB56 _ hk19) _ _ _ h
      · refine v_blk hC (is := [(.aload_n 0, 0), (.iload 4, 0), (.aload_n 0, 0), (.iload 4, 0), (.aload_n 0, 0)]) (pc' := 47) (ls' := [(4, .int v2), (0, .ref (ga G c)), (1, .int x1), (2, .int x2), (3, .int x3)]) (st' := [.ref (ga G c), .int v2, .ref (ga G c), .int v2, .ref (ga G c)]) (by decide +kernel) rfl ?_
        refine gX3_9 hC hc lfX3_71 (by decide +kernel) h (fun v5 h => ?_)
        obtain ⟨v6, s7, e8, h⟩ := bndI h
        refine v_cV (idx := 169) hC ⟨tt_at 410 (by decide +kernel) rfl, tiX3_saver, tvX3_saver, tnX3_saver, tcX3_saver, tmX3_saver⟩ (isO_X3 hc) rfl (c_X3_saver hc e8) (by decide) (by decide) (by decide +kernel) (rest := [.int v2, .ref (ga G c)]) rfl rfl (Nat.le_of_ble_eq_true rfl) rfl ?_
        obtain ⟨v9, s10, e11, h⟩ := bndI h
        refine v_cV (idx := 172) hC ⟨tt_at 441 (by decide +kernel) rfl, tiX3_goesOverboard, tvX3_goesOverboard, tnX3_goesOverboard, tcX3_goesOverboard, tmX3_goesOverboard⟩ (isO_X3 hc) rfl (c_X3_goesOverboard hc e11) (by decide) (by decide) (by decide +kernel) (rest := []) rfl rfl (Nat.le_of_ble_eq_true rfl) rfl ?_
        refine v_sub [1, 2, 3, 4] (ls' := [(0, .ref (ga G c)), (1, .int x1), (2, .int x2), (3, .int x3)]) rfl ?_
        exact (hB56 _ hk19) _ _ _ h
  have hL19 : ∀ (k62 : Int32 → Mem → Option (Unit × Mem)), (∀ (x2 : Int32), ∀ σ : Mem, k62 x2 σ = some res → V G 5 5 X (none, res.2) σ [(0, .ref (ga G c)), (1, .int x1), (2, .int x2)] [] 62) → ∀ f : Nat, ∀ (x2 : Int32), ∀ (x3 : Int32), ∀ σ : Mem, p_X3_sails_L19 k62 c x1 f x2 x3 σ = some res → V G 5 5 X (none, res.2) σ [(0, .ref (ga G c)), (1, .int x1), (2, .int x2), (3, .int x3)] [] 19 := by
    intro k62 hk62 f
    induction f with
    | zero => intro x2 x3 σ h; exact none_some h
    | succ f ih => intro x2 x3 σ h; exact hB19 (p_X3_sails_L19 k62 c x1 f) k62 ih hk62 x2 x3 σ h
  have hB2 : ∀ (k2 : Int32 → Mem → Option (Unit × Mem)), (∀ (x2 : Int32), ∀ σ : Mem, k2 x2 σ = some res → V G 5 5 X (none, res.2) σ [(0, .ref (ga G c)), (1, .int x1), (2, .int x2)] [] 2) → ∀ (x2 : Int32), ∀ σ : Mem, p_X3_sails_B2 k2 c x1 x2 σ = some res → V G 5 5 X (none, res.2) σ [(0, .ref (ga G c)), (1, .int x1), (2, .int x2)] [] 2 := by
    intro k2 hk2 x2 σ h
    unfold p_X3_sails_B2 at h
    refine v_blk hC (is := [(.iload_n 2, 0), (.iload_n 1, 0)]) (pc' := 4) (ls' := [(0, .ref (ga G c)), (1, .int x1), (2, .int x2)]) (st' := [.int x1, .int x2]) (by decide +kernel) rfl ?_
    refine v_icmp_ge hC (off := 64) (tgt := 68) (by decide +kernel) (by decide) h (fun hq h => ?_) (fun hq h => ?_)
    · exact v_vret hC h (by decide +kernel)
    · refine v_blk hC (is := [(.aload_n 0, 0), (.dup, 0)]) (pc' := 9) (ls' := [(0, .ref (ga G c)), (1, .int x1), (2, .int x2)]) (st' := [.ref (ga G c), .ref (ga G c)]) (by decide +kernel) rfl ?_
      refine gX3_9 hC hc lfX3_71 (by decide +kernel) h (fun v12 h => ?_)
      refine v_blk hC (is := [(.iconst 1, (1 : Int32)), (.iadd, 0)]) (pc' := 14) (ls' := [(0, .ref (ga G c)), (1, .int x1), (2, .int x2)]) (st' := [.int (v12 + (1 : Int32)), .ref (ga G c)]) (by decide +kernel) rfl ?_
      refine pX3_9 hC hc lfX3_71 (by decide +kernel) h (fun s13 h => ?_)
      refine v_blk hC (is := [(.iconst 0, (0 : Int32)), (.istore_n 3, 0)]) (pc' := 19) (ls' := [(3, .int (0 : Int32)), (0, .ref (ga G c)), (1, .int x1), (2, .int x2)]) (st' := []) (by decide +kernel) rfl ?_
      refine v_sub [1, 2, 3, 0] (ls' := [(0, .ref (ga G c)), (1, .int x1), (2, .int x2), (3, .int (0 : Int32))]) rfl ?_
      exact (hL19 _ (fun x2  m14 h => by
            refine v_blk hC (is := [(.iinc 2 1, (1 : Int32))]) (pc' := 65) (ls' := [(2, .int (x2 + (1 : Int32))), (0, .ref (ga G c)), (1, .int x1)]) (st' := []) (by decide +kernel) rfl ?_
            refine v_goto hC (off := (-63)) (tgt := 2) (by decide +kernel) (by decide) ?_
            refine v_sub [1, 2, 0] (ls' := [(0, .ref (ga G c)), (1, .int x1), (2, .int (x2 + (1 : Int32)))]) rfl ?_
            exact hk2 _ _ h) 1000) _ _ _ h
  have hL2 : ∀ f : Nat, ∀ (x2 : Int32), ∀ σ : Mem, p_X3_sails_L2 c x1 f x2 σ = some res → V G 5 5 X (none, res.2) σ [(0, .ref (ga G c)), (1, .int x1), (2, .int x2)] [] 2 := by
    intro  f
    induction f with
    | zero => intro x2 σ h; exact none_some h
    | succ f ih => intro x2 σ h; exact hB2 (p_X3_sails_L2 c x1 f)  ih  x2 σ h
  unfold p_X3_sails at h
  show V G 5 5 X (none, res.2) σ [(0, .ref (ga G c)), (1, .int x1)] [] 0
  refine v_blk hC (is := [(.iconst 0, (0 : Int32)), (.istore_n 2, 0)]) (pc' := 2) (ls' := [(2, .int (0 : Int32)), (0, .ref (ga G c)), (1, .int x1)]) (st' := []) (by decide +kernel) rfl ?_
  refine v_sub [1, 2, 0] (ls' := [(0, .ref (ga G c)), (1, .int x1), (2, .int (0 : Int32))]) rfl ?_
  exact (hL2 1000) _ _ h

def p_X3_passes (c : Nat) (x1 : Int32) (σ : Mem) : Option (Int32 × Mem) := (bnd (p_X11_within x1 (1 : Int32) (60 : Int32) σ) fun v1 s2 => (if v1 = 0 then some ((-1 : Int32), s2) else (lt (s2 c 9) fun v4 => (if (v4 + x1) ≤ (999 : Int32) then (bnd (p_X3_sails c x1 s2) fun (v5 : Unit) s6 => (bnd (p_X3_lostOnes c s6) fun v8 s9 => some (v8, s9))) else some ((-3 : Int32), s2)))))
set_option maxHeartbeats 4000000 in
set_option maxRecDepth 100000 in
theorem c_X3_passes {G : Gl} {c : Nat} {x1 : Int32} {σ : Mem} {res : Int32 × Mem} (hc : isCape c) (h : p_X3_passes c x1 σ = some res) : MetX G yX3_passes cX3_passes 2 (some .int) 6 [.ref (ga G c), .int x1] σ (some (.int res.1)) res.2 := by
  refine met_V (by decide +kernel) (Nat.le_of_ble_eq_true rfl) (fun X hC => ?_)
  have hC : Ok G 6 2 X cX3_passes RX3 (some .int) := hC
  unfold p_X3_passes at h
  show V G 6 2 X ((some (.int res.1)), res.2) σ [(0, .ref (ga G c)), (1, .int x1)] [] 0
  refine v_blk hC (is := [(.iload_n 1, 0), (.iconst 1, (1 : Int32)), (.bipush 60, (60 : Int32))]) (pc' := 4) (ls' := [(0, .ref (ga G c)), (1, .int x1)]) (st' := [.int (60 : Int32), .int (1 : Int32), .int x1]) (by decide +kernel) rfl ?_
  obtain ⟨v1, s2, e3, h⟩ := bndI h
  refine v_cSN (idx := 121) hC ⟨List.mem_of_getElem? (i := 23) (by decide +kernel), tsX11_within, tnX11_within, tcX11_within, tmX11_within⟩ (c_X11_within e3) (by decide) (by decide) (by decide +kernel) (rest := []) rfl rfl (Nat.le_of_ble_eq_true rfl) rfl ?_
  refine v_if_ne hC (off := 5) (tgt := 12) (by decide +kernel) (by decide) h (fun hq h => ?_) (fun hq h => ?_)
  · refine v_blk hC (is := [(.aload_n 0, 0)]) (pc' := 13) (ls' := [(0, .ref (ga G c)), (1, .int x1)]) (st' := [.ref (ga G c)]) (by decide +kernel) rfl ?_
    refine gX3_9 hC hc lfX3_71 (by decide +kernel) h (fun v4 h => ?_)
    refine v_blk hC (is := [(.iload_n 1, 0), (.iadd, 0), (.sipush 999, (999 : Int32))]) (pc' := 21) (ls' := [(0, .ref (ga G c)), (1, .int x1)]) (st' := [.int (999 : Int32), .int (v4 + x1)]) (by decide +kernel) rfl ?_
    refine v_icmp_le hC (off := 6) (tgt := 27) (by decide +kernel) (by decide) h (fun hq h => ?_) (fun hq h => ?_)
    · refine v_blk hC (is := [(.aload_n 0, 0), (.iload_n 1, 0)]) (pc' := 29) (ls' := [(0, .ref (ga G c)), (1, .int x1)]) (st' := [.int x1, .ref (ga G c)]) (by decide +kernel) rfl ?_
      obtain ⟨v5, s6, e7, h⟩ := bndI h
      refine v_cV (idx := 134) hC ⟨tt_at 372 (by decide +kernel) rfl, tiX3_sails, tvX3_sails, tnX3_sails, tcX3_sails, tmX3_sails⟩ (isO_X3 hc) rfl (c_X3_sails hc e7) (by decide) (by decide) (by decide +kernel) (rest := []) rfl rfl (Nat.le_of_ble_eq_true rfl) rfl ?_
      refine v_blk hC (is := [(.aload_n 0, 0)]) (pc' := 33) (ls' := [(0, .ref (ga G c)), (1, .int x1)]) (st' := [.ref (ga G c)]) (by decide +kernel) rfl ?_
      obtain ⟨v8, s9, e10, h⟩ := bndI h
      refine v_cV (idx := 138) hC ⟨tt_at 467 (by decide +kernel) rfl, tiX3_lostOnes, tvX3_lostOnes, tnX3_lostOnes, tcX3_lostOnes, tmX3_lostOnes⟩ (isO_X3 hc) rfl (c_X3_lostOnes hc e10) (by decide) (by decide) (by decide +kernel) (rest := []) rfl rfl (Nat.le_of_ble_eq_true rfl) rfl ?_
      exact v_iret hC h (by decide +kernel)
    · refine v_blk hC (is := [(.bipush (-3), (-3 : Int32))]) (pc' := 26) (ls' := [(0, .ref (ga G c)), (1, .int x1)]) (st' := [.int (-3 : Int32)]) (by decide +kernel) rfl ?_
      exact v_iret hC h (by decide +kernel)
  · refine v_blk hC (is := [(.iconst (-1), (-1 : Int32))]) (pc' := 11) (ls' := [(0, .ref (ga G c)), (1, .int x1)]) (st' := [.int (-1 : Int32)]) (by decide +kernel) rfl ?_
    exact v_iret hC h (by decide +kernel)

def p_X8_digit (d : Nat) (x1 : Int32) (σ : Mem) : Option (Int32 × Mem) := (if x1 < 0 then some ((-1 : Int32), σ) else (lt (σ d 5) fun v1 => (if v1 ≤ x1 then some ((-1 : Int32), σ) else (if x1 < 0 ∨ 100 ≤ (x1).toNatClampNeg then none else lt (σ (8 + d) (x1).toNatClampNeg) fun v2 => (if v2 < (48 : Int32) then some ((-1 : Int32), σ) else (if x1 < 0 ∨ 100 ≤ (x1).toNatClampNeg then none else lt (σ (8 + d) (x1).toNatClampNeg) fun v3 => (if v3 ≤ (57 : Int32) then (if x1 < 0 ∨ 100 ≤ (x1).toNatClampNeg then none else lt (σ (8 + d) (x1).toNatClampNeg) fun v4 => some ((v4 - (48 : Int32)), σ)) else some ((-1 : Int32), σ))))))))
set_option maxHeartbeats 4000000 in
set_option maxRecDepth 100000 in
theorem c_X8_digit {G : Gl} {d : Nat} {x1 : Int32} {σ : Mem} {res : Int32 × Mem} (hd : isShelf d) (h : p_X8_digit d x1 σ = some res) : MetX G yX8_digit cX8_digit 2 (some .int) 1 [.ref (ga G d), .int x1] σ (some (.int res.1)) res.2 := by
  refine met_V (by decide +kernel) (Nat.le_of_ble_eq_true rfl) (fun X hC => ?_)
  have hC : Ok G 1 2 X cX8_digit RX8 (some .int) := hC
  unfold p_X8_digit at h
  show V G 1 2 X ((some (.int res.1)), res.2) σ [(0, .ref (ga G d)), (1, .int x1)] [] 0
  refine v_blk hC (is := [(.iload_n 1, 0)]) (pc' := 1) (ls' := [(0, .ref (ga G d)), (1, .int x1)]) (st' := [.int x1]) (by decide +kernel) rfl ?_
  refine v_if_lt hC (off := 33) (tgt := 34) (by decide +kernel) (by decide) h (fun hq h => ?_) (fun hq h => ?_)
  · refine v_blk hC (is := [(.iconst (-1), (-1 : Int32))]) (pc' := 35) (ls' := [(0, .ref (ga G d)), (1, .int x1)]) (st' := [.int (-1 : Int32)]) (by decide +kernel) rfl ?_
    exact v_iret hC h (by decide +kernel)
  · refine v_blk hC (is := [(.iload_n 1, 0), (.aload_n 0, 0)]) (pc' := 6) (ls' := [(0, .ref (ga G d)), (1, .int x1)]) (st' := [.ref (ga G d), .int x1]) (by decide +kernel) rfl ?_
    refine gX8_5 hC hd lfX8_20 (by decide +kernel) h (fun v1 h => ?_)
    refine v_icmp_ge hC (off := 25) (tgt := 34) (by decide +kernel) (by decide) h (fun hq h => ?_) (fun hq h => ?_)
    · refine v_blk hC (is := [(.iconst (-1), (-1 : Int32))]) (pc' := 35) (ls' := [(0, .ref (ga G d)), (1, .int x1)]) (st' := [.int (-1 : Int32)]) (by decide +kernel) rfl ?_
      exact v_iret hC h (by decide +kernel)
    · refine v_blk hC (is := [(.aload_n 0, 0)]) (pc' := 13) (ls' := [(0, .ref (ga G d)), (1, .int x1)]) (st' := [.ref (ga G d)]) (by decide +kernel) rfl ?_
      refine gX8_0 hC hd lfX8_9 (by decide +kernel) ?_
      refine v_blk hC (is := [(.iload_n 1, 0)]) (pc' := 17) (ls' := [(0, .ref (ga G d)), (1, .int x1)]) (st' := [.int x1, .ref (ga G (8 + d))]) (by decide +kernel) rfl ?_
      refine v_iald hC (isA_cells hd) (al_cells hd) (by decide +kernel) h (fun v2 h => ?_)
      refine v_blk hC (is := [(.bipush 48, (48 : Int32))]) (pc' := 20) (ls' := [(0, .ref (ga G d)), (1, .int x1)]) (st' := [.int (48 : Int32), .int v2]) (by decide +kernel) rfl ?_
      refine v_icmp_lt hC (off := 14) (tgt := 34) (by decide +kernel) (by decide) h (fun hq h => ?_) (fun hq h => ?_)
      · refine v_blk hC (is := [(.iconst (-1), (-1 : Int32))]) (pc' := 35) (ls' := [(0, .ref (ga G d)), (1, .int x1)]) (st' := [.int (-1 : Int32)]) (by decide +kernel) rfl ?_
        exact v_iret hC h (by decide +kernel)
      · refine v_blk hC (is := [(.aload_n 0, 0)]) (pc' := 24) (ls' := [(0, .ref (ga G d)), (1, .int x1)]) (st' := [.ref (ga G d)]) (by decide +kernel) rfl ?_
        refine gX8_0 hC hd lfX8_9 (by decide +kernel) ?_
        refine v_blk hC (is := [(.iload_n 1, 0)]) (pc' := 28) (ls' := [(0, .ref (ga G d)), (1, .int x1)]) (st' := [.int x1, .ref (ga G (8 + d))]) (by decide +kernel) rfl ?_
        refine v_iald hC (isA_cells hd) (al_cells hd) (by decide +kernel) h (fun v3 h => ?_)
        refine v_blk hC (is := [(.bipush 57, (57 : Int32))]) (pc' := 31) (ls' := [(0, .ref (ga G d)), (1, .int x1)]) (st' := [.int (57 : Int32), .int v3]) (by decide +kernel) rfl ?_
        refine v_icmp_le hC (off := 5) (tgt := 36) (by decide +kernel) (by decide) h (fun hq h => ?_) (fun hq h => ?_)
        · refine v_blk hC (is := [(.aload_n 0, 0)]) (pc' := 37) (ls' := [(0, .ref (ga G d)), (1, .int x1)]) (st' := [.ref (ga G d)]) (by decide +kernel) rfl ?_
          refine gX8_0 hC hd lfX8_9 (by decide +kernel) ?_
          refine v_blk hC (is := [(.iload_n 1, 0)]) (pc' := 41) (ls' := [(0, .ref (ga G d)), (1, .int x1)]) (st' := [.int x1, .ref (ga G (8 + d))]) (by decide +kernel) rfl ?_
          refine v_iald hC (isA_cells hd) (al_cells hd) (by decide +kernel) h (fun v4 h => ?_)
          refine v_blk hC (is := [(.bipush 48, (48 : Int32)), (.isub, 0)]) (pc' := 45) (ls' := [(0, .ref (ga G d)), (1, .int x1)]) (st' := [.int (v4 - (48 : Int32))]) (by decide +kernel) rfl ?_
          exact v_iret hC h (by decide +kernel)
        · refine v_blk hC (is := [(.iconst (-1), (-1 : Int32))]) (pc' := 35) (ls' := [(0, .ref (ga G d)), (1, .int x1)]) (st' := [.int (-1 : Int32)]) (by decide +kernel) rfl ?_
          exact v_iret hC h (by decide +kernel)

def p_X3_obeys (c : Nat) (x1 : Nat) (x2 : Int32) (σ : Mem) : Option (Int32 × Mem) := (bnd (p_X8_digit x1 (x2 + (1 : Int32)) σ) fun v1 s2 => (bnd (p_X8_digit x1 (x2 + (2 : Int32)) s2) fun v4 s5 => (if x2 < 0 ∨ 100 ≤ (x2).toNatClampNeg then none else lt (s5 (8 + x1) (x2).toNatClampNeg) fun v7 => (if v7 = (98 : Int32) then (bnd (p_X3_comesTo c v1 v4 s5) fun v9 s10 => rz v9 s10) else (if v7 = (108 : Int32) then (bnd (p_X3_rules c (0 : Int32) v1 s5) fun v13 s14 => (if v13 < 0 then some ((0 : Int32), s14) else some ((1 : Int32), s14))) else (if v7 = (110 : Int32) then (bnd (p_X3_passes c ((v1 * (10 : Int32)) + v4) s5) fun v17 s18 => (if v17 < 0 then some ((0 : Int32), s18) else some ((1 : Int32), s18))) else (if v7 = (112 : Int32) then (bnd (p_X3_adds c v1 v4 s5) fun v21 s22 => (if v21 < 0 then some ((0 : Int32), s22) else some ((1 : Int32), s22))) else (if v7 = (115 : Int32) then (bnd (p_X8_digit x1 (x2 + (3 : Int32)) s5) fun v25 s26 => (bnd (p_X3_notes c v1 v4 v25 s26) fun v28 s29 => (if v28 < 0 then some ((0 : Int32), s29) else some ((1 : Int32), s29)))) else (if v7 = (119 : Int32) then (bnd (p_X3_rules c (1 : Int32) v1 s5) fun v32 s33 => (if v32 < 0 then some ((0 : Int32), s33) else some ((1 : Int32), s33))) else some ((0 : Int32), s5))))))))))
set_option maxHeartbeats 4000000 in
set_option maxRecDepth 100000 in
theorem c_X3_obeys {G : Gl} {c : Nat} {x1 : Nat} {x2 : Int32} {σ : Mem} {res : Int32 × Mem} (hc : isCape c) (hx1 : isShelf x1) (h : p_X3_obeys c x1 x2 σ = some res) : MetX G yX3_obeys cX3_obeys 5 (some .boolean) 7 [.ref (ga G c), .ref (ga G x1), .int x2] σ (some (.int res.1)) res.2 := by
  refine met_V (by decide +kernel) (Nat.le_of_ble_eq_true rfl) (fun X hC => ?_)
  have hC : Ok G 7 5 X cX3_obeys RX3 (some .boolean) := hC
  unfold p_X3_obeys at h
  show V G 7 5 X ((some (.int res.1)), res.2) σ [(0, .ref (ga G c)), (1, .ref (ga G x1)), (2, .int x2)] [] 0
  refine v_blk hC (is := [(.aload_n 1, 0), (.iload_n 2, 0), (.iconst 1, (1 : Int32)), (.iadd, 0)]) (pc' := 4) (ls' := [(0, .ref (ga G c)), (1, .ref (ga G x1)), (2, .int x2)]) (st' := [.int (x2 + (1 : Int32)), .ref (ga G x1)]) (by decide +kernel) rfl ?_
  obtain ⟨v1, s2, e3, h⟩ := bndI h
  refine v_cVN (idx := 142) hC ⟨List.mem_of_getElem? (i := 21) (by decide +kernel), tiX8_digit, tvX8_digit, tnX8_digit, tcX8_digit, tmX8_digit⟩ (isO_X8 hx1) rfl (c_X8_digit hx1 e3) (by decide) (by decide) (by decide +kernel) (rest := []) rfl rfl (Nat.le_of_ble_eq_true rfl) rfl ?_
  refine v_blk hC (is := [(.istore_n 3, 0), (.aload_n 1, 0), (.iload_n 2, 0), (.iconst 2, (2 : Int32)), (.iadd, 0)]) (pc' := 12) (ls' := [(3, .int v1), (0, .ref (ga G c)), (1, .ref (ga G x1)), (2, .int x2)]) (st' := [.int (x2 + (2 : Int32)), .ref (ga G x1)]) (by decide +kernel) rfl ?_
  obtain ⟨v4, s5, e6, h⟩ := bndI h
  refine v_cVN (idx := 142) hC ⟨List.mem_of_getElem? (i := 21) (by decide +kernel), tiX8_digit, tvX8_digit, tnX8_digit, tcX8_digit, tmX8_digit⟩ (isO_X8 hx1) rfl (c_X8_digit hx1 e6) (by decide) (by decide) (by decide +kernel) (rest := []) rfl rfl (Nat.le_of_ble_eq_true rfl) rfl ?_
  refine v_blk hC (is := [(.istore 4, 0), (.aload_n 1, 0)]) (pc' := 18) (ls' := [(4, .int v4), (3, .int v1), (0, .ref (ga G c)), (1, .ref (ga G x1)), (2, .int x2)]) (st' := [.ref (ga G x1)]) (by decide +kernel) rfl ?_
  refine gX8_0 hC hx1 lfX3_147 (by decide +kernel) ?_
  refine v_blk hC (is := [(.iload_n 2, 0)]) (pc' := 22) (ls' := [(4, .int v4), (3, .int v1), (0, .ref (ga G c)), (1, .ref (ga G x1)), (2, .int x2)]) (st' := [.int x2, .ref (ga G (8 + x1))]) (by decide +kernel) rfl ?_
  refine v_iald hC (isA_cells hx1) (al_cells hx1) (by decide +kernel) h (fun v7 h => ?_)
  by_cases q8 : v7 = (98 : Int32)
  · replace h := br_pos h q8
    refine v_lsw hC (dflt := 154) (ps := #[(98, 96), (108, 104), (110, 134), (112, 57), (115, 73), (119, 119)]) (len := 57) (off := 96) (tgt := 119) (by decide +kernel) (by decide) (by rw [q8]; decide +kernel) (by decide) ?_
    refine v_blk hC (is := [(.aload_n 0, 0), (.iload_n 3, 0), (.iload 4, 0)]) (pc' := 123) (ls' := [(4, .int v4), (3, .int v1), (0, .ref (ga G c)), (1, .ref (ga G x1)), (2, .int x2)]) (st' := [.int v4, .int v1, .ref (ga G c)]) (by decide +kernel) rfl ?_
    obtain ⟨v9, s10, e11, h⟩ := bndI h
    refine v_cV (idx := 157) hC ⟨tt_at 346 (by decide +kernel) rfl, tiX3_comesTo, tvX3_comesTo, tnX3_comesTo, tcX3_comesTo, tmX3_comesTo⟩ (isO_X3 hc) rfl (c_X3_comesTo hc e11) (by decide) (by decide) (by decide +kernel) (rest := []) rfl rfl (Nat.le_of_ble_eq_true rfl) rfl ?_
    exact v_zretC hC h (by decide +kernel)
  replace h := br_neg h q8
  by_cases q12 : v7 = (108 : Int32)
  · replace h := br_pos h q12
    refine v_lsw hC (dflt := 154) (ps := #[(98, 96), (108, 104), (110, 134), (112, 57), (115, 73), (119, 119)]) (len := 57) (off := 104) (tgt := 127) (by decide +kernel) (by decide) (by refine (lv_osw q8 (by decide)).trans ?_; rw [q12]; decide +kernel) (by decide) ?_
    refine v_blk hC (is := [(.aload_n 0, 0), (.iconst 0, (0 : Int32)), (.iload_n 3, 0)]) (pc' := 130) (ls' := [(4, .int v4), (3, .int v1), (0, .ref (ga G c)), (1, .ref (ga G x1)), (2, .int x2)]) (st' := [.int v1, .int (0 : Int32), .ref (ga G c)]) (by decide +kernel) rfl ?_
    obtain ⟨v13, s14, e15, h⟩ := bndI h
    refine v_cV (idx := 160) hC ⟨tt_at 364 (by decide +kernel) rfl, tiX3_rules, tvX3_rules, tnX3_rules, tcX3_rules, tmX3_rules⟩ (isO_X3 hc) rfl (c_X3_rules hc e15) (by decide) (by decide) (by decide +kernel) (rest := []) rfl rfl (Nat.le_of_ble_eq_true rfl) rfl ?_
    refine v_if_lt hC (off := 7) (tgt := 140) (by decide +kernel) (by decide) h (fun hq h => ?_) (fun hq h => ?_)
    · refine v_blk hC (is := [(.iconst 0, (0 : Int32))]) (pc' := 141) (ls' := [(4, .int v4), (3, .int v1), (0, .ref (ga G c)), (1, .ref (ga G x1)), (2, .int x2)]) (st' := [.int (0 : Int32)]) (by decide +kernel) rfl ?_
      exact v_zret hC rfl h (by decide +kernel)
    · refine v_blk hC (is := [(.iconst 1, (1 : Int32))]) (pc' := 137) (ls' := [(4, .int v4), (3, .int v1), (0, .ref (ga G c)), (1, .ref (ga G x1)), (2, .int x2)]) (st' := [.int (1 : Int32)]) (by decide +kernel) rfl ?_
      refine v_goto hC (off := 4) (tgt := 141) (by decide +kernel) (by decide) ?_
      exact v_zret hC rfl h (by decide +kernel)
  replace h := br_neg h q12
  by_cases q16 : v7 = (110 : Int32)
  · replace h := br_pos h q16
    refine v_lsw hC (dflt := 154) (ps := #[(98, 96), (108, 104), (110, 134), (112, 57), (115, 73), (119, 119)]) (len := 57) (off := 134) (tgt := 157) (by decide +kernel) (by decide) (by refine (lv_osw q8 (by decide)).trans ?_; refine (lv_osw q12 (by decide)).trans ?_; rw [q16]; decide +kernel) (by decide) ?_
    refine v_blk hC (is := [(.aload_n 0, 0), (.iload_n 3, 0), (.bipush 10, (10 : Int32)), (.imul, 0), (.iload 4, 0), (.iadd, 0)]) (pc' := 165) (ls' := [(4, .int v4), (3, .int v1), (0, .ref (ga G c)), (1, .ref (ga G x1)), (2, .int x2)]) (st' := [.int ((v1 * (10 : Int32)) + v4), .ref (ga G c)]) (by decide +kernel) rfl ?_
    obtain ⟨v17, s18, e19, h⟩ := bndI h
    refine v_cV (idx := 163) hC ⟨tt_at 368 (by decide +kernel) rfl, tiX3_passes, tvX3_passes, tnX3_passes, tcX3_passes, tmX3_passes⟩ (isO_X3 hc) rfl (c_X3_passes hc e19) (by decide) (by decide) (by decide +kernel) (rest := []) rfl rfl (Nat.le_of_ble_eq_true rfl) rfl ?_
    refine v_if_lt hC (off := 7) (tgt := 175) (by decide +kernel) (by decide) h (fun hq h => ?_) (fun hq h => ?_)
    · refine v_blk hC (is := [(.iconst 0, (0 : Int32))]) (pc' := 176) (ls' := [(4, .int v4), (3, .int v1), (0, .ref (ga G c)), (1, .ref (ga G x1)), (2, .int x2)]) (st' := [.int (0 : Int32)]) (by decide +kernel) rfl ?_
      exact v_zret hC rfl h (by decide +kernel)
    · refine v_blk hC (is := [(.iconst 1, (1 : Int32))]) (pc' := 172) (ls' := [(4, .int v4), (3, .int v1), (0, .ref (ga G c)), (1, .ref (ga G x1)), (2, .int x2)]) (st' := [.int (1 : Int32)]) (by decide +kernel) rfl ?_
      refine v_goto hC (off := 4) (tgt := 176) (by decide +kernel) (by decide) ?_
      exact v_zret hC rfl h (by decide +kernel)
  replace h := br_neg h q16
  by_cases q20 : v7 = (112 : Int32)
  · replace h := br_pos h q20
    refine v_lsw hC (dflt := 154) (ps := #[(98, 96), (108, 104), (110, 134), (112, 57), (115, 73), (119, 119)]) (len := 57) (off := 57) (tgt := 80) (by decide +kernel) (by decide) (by refine (lv_osw q8 (by decide)).trans ?_; refine (lv_osw q12 (by decide)).trans ?_; refine (lv_osw q16 (by decide)).trans ?_; rw [q20]; decide +kernel) (by decide) ?_
    refine v_blk hC (is := [(.aload_n 0, 0), (.iload_n 3, 0), (.iload 4, 0)]) (pc' := 84) (ls' := [(4, .int v4), (3, .int v1), (0, .ref (ga G c)), (1, .ref (ga G x1)), (2, .int x2)]) (st' := [.int v4, .int v1, .ref (ga G c)]) (by decide +kernel) rfl ?_
    obtain ⟨v21, s22, e23, h⟩ := bndI h
    refine v_cV (idx := 150) hC ⟨tt_at 326 (by decide +kernel) rfl, tiX3_adds, tvX3_adds, tnX3_adds, tcX3_adds, tmX3_adds⟩ (isO_X3 hc) rfl (c_X3_adds hc e23) (by decide) (by decide) (by decide +kernel) (rest := []) rfl rfl (Nat.le_of_ble_eq_true rfl) rfl ?_
    refine v_if_lt hC (off := 7) (tgt := 94) (by decide +kernel) (by decide) h (fun hq h => ?_) (fun hq h => ?_)
    · refine v_blk hC (is := [(.iconst 0, (0 : Int32))]) (pc' := 95) (ls' := [(4, .int v4), (3, .int v1), (0, .ref (ga G c)), (1, .ref (ga G x1)), (2, .int x2)]) (st' := [.int (0 : Int32)]) (by decide +kernel) rfl ?_
      exact v_zret hC rfl h (by decide +kernel)
    · refine v_blk hC (is := [(.iconst 1, (1 : Int32))]) (pc' := 91) (ls' := [(4, .int v4), (3, .int v1), (0, .ref (ga G c)), (1, .ref (ga G x1)), (2, .int x2)]) (st' := [.int (1 : Int32)]) (by decide +kernel) rfl ?_
      refine v_goto hC (off := 4) (tgt := 95) (by decide +kernel) (by decide) ?_
      exact v_zret hC rfl h (by decide +kernel)
  replace h := br_neg h q20
  by_cases q24 : v7 = (115 : Int32)
  · replace h := br_pos h q24
    refine v_lsw hC (dflt := 154) (ps := #[(98, 96), (108, 104), (110, 134), (112, 57), (115, 73), (119, 119)]) (len := 57) (off := 73) (tgt := 96) (by decide +kernel) (by decide) (by refine (lv_osw q8 (by decide)).trans ?_; refine (lv_osw q12 (by decide)).trans ?_; refine (lv_osw q16 (by decide)).trans ?_; refine (lv_osw q20 (by decide)).trans ?_; rw [q24]; decide +kernel) (by decide) ?_
    refine v_blk hC (is := [(.aload_n 0, 0), (.iload_n 3, 0), (.iload 4, 0), (.aload_n 1, 0), (.iload_n 2, 0), (.iconst 3, (3 : Int32)), (.iadd, 0)]) (pc' := 104) (ls' := [(4, .int v4), (3, .int v1), (0, .ref (ga G c)), (1, .ref (ga G x1)), (2, .int x2)]) (st' := [.int (x2 + (3 : Int32)), .ref (ga G x1), .int v4, .int v1, .ref (ga G c)]) (by decide +kernel) rfl ?_
    obtain ⟨v25, s26, e27, h⟩ := bndI h
    refine v_cVN (idx := 142) hC ⟨List.mem_of_getElem? (i := 21) (by decide +kernel), tiX8_digit, tvX8_digit, tnX8_digit, tcX8_digit, tmX8_digit⟩ (isO_X8 hx1) rfl (c_X8_digit hx1 e27) (by decide) (by decide) (by decide +kernel) (rest := [.int v4, .int v1, .ref (ga G c)]) rfl rfl (Nat.le_of_ble_eq_true rfl) rfl ?_
    obtain ⟨v28, s29, e30, h⟩ := bndI h
    refine v_cV (idx := 153) hC ⟨tt_at 334 (by decide +kernel) rfl, tiX3_notes, tvX3_notes, tnX3_notes, tcX3_notes, tmX3_notes⟩ (isO_X3 hc) rfl (c_X3_notes hc e30) (by decide) (by decide) (by decide +kernel) (rest := []) rfl rfl (Nat.le_of_ble_eq_true rfl) rfl ?_
    refine v_if_lt hC (off := 7) (tgt := 117) (by decide +kernel) (by decide) h (fun hq h => ?_) (fun hq h => ?_)
    · refine v_blk hC (is := [(.iconst 0, (0 : Int32))]) (pc' := 118) (ls' := [(4, .int v4), (3, .int v1), (0, .ref (ga G c)), (1, .ref (ga G x1)), (2, .int x2)]) (st' := [.int (0 : Int32)]) (by decide +kernel) rfl ?_
      exact v_zret hC rfl h (by decide +kernel)
    · refine v_blk hC (is := [(.iconst 1, (1 : Int32))]) (pc' := 114) (ls' := [(4, .int v4), (3, .int v1), (0, .ref (ga G c)), (1, .ref (ga G x1)), (2, .int x2)]) (st' := [.int (1 : Int32)]) (by decide +kernel) rfl ?_
      refine v_goto hC (off := 4) (tgt := 118) (by decide +kernel) (by decide) ?_
      exact v_zret hC rfl h (by decide +kernel)
  replace h := br_neg h q24
  by_cases q31 : v7 = (119 : Int32)
  · replace h := br_pos h q31
    refine v_lsw hC (dflt := 154) (ps := #[(98, 96), (108, 104), (110, 134), (112, 57), (115, 73), (119, 119)]) (len := 57) (off := 119) (tgt := 142) (by decide +kernel) (by decide) (by refine (lv_osw q8 (by decide)).trans ?_; refine (lv_osw q12 (by decide)).trans ?_; refine (lv_osw q16 (by decide)).trans ?_; refine (lv_osw q20 (by decide)).trans ?_; refine (lv_osw q24 (by decide)).trans ?_; rw [q31]; decide +kernel) (by decide) ?_
    refine v_blk hC (is := [(.aload_n 0, 0), (.iconst 1, (1 : Int32)), (.iload_n 3, 0)]) (pc' := 145) (ls' := [(4, .int v4), (3, .int v1), (0, .ref (ga G c)), (1, .ref (ga G x1)), (2, .int x2)]) (st' := [.int v1, .int (1 : Int32), .ref (ga G c)]) (by decide +kernel) rfl ?_
    obtain ⟨v32, s33, e34, h⟩ := bndI h
    refine v_cV (idx := 160) hC ⟨tt_at 364 (by decide +kernel) rfl, tiX3_rules, tvX3_rules, tnX3_rules, tcX3_rules, tmX3_rules⟩ (isO_X3 hc) rfl (c_X3_rules hc e34) (by decide) (by decide) (by decide +kernel) (rest := []) rfl rfl (Nat.le_of_ble_eq_true rfl) rfl ?_
    refine v_if_lt hC (off := 7) (tgt := 155) (by decide +kernel) (by decide) h (fun hq h => ?_) (fun hq h => ?_)
    · refine v_blk hC (is := [(.iconst 0, (0 : Int32))]) (pc' := 156) (ls' := [(4, .int v4), (3, .int v1), (0, .ref (ga G c)), (1, .ref (ga G x1)), (2, .int x2)]) (st' := [.int (0 : Int32)]) (by decide +kernel) rfl ?_
      exact v_zret hC rfl h (by decide +kernel)
    · refine v_blk hC (is := [(.iconst 1, (1 : Int32))]) (pc' := 152) (ls' := [(4, .int v4), (3, .int v1), (0, .ref (ga G c)), (1, .ref (ga G x1)), (2, .int x2)]) (st' := [.int (1 : Int32)]) (by decide +kernel) rfl ?_
      refine v_goto hC (off := 4) (tgt := 156) (by decide +kernel) (by decide) ?_
      exact v_zret hC rfl h (by decide +kernel)
  replace h := br_neg h q31
  refine v_lsw hC (dflt := 154) (ps := #[(98, 96), (108, 104), (110, 134), (112, 57), (115, 73), (119, 119)]) (len := 57) (off := 154) (tgt := 177) (by decide +kernel) (by decide) (by refine (lv_osw q8 (by decide)).trans ?_; refine (lv_osw q12 (by decide)).trans ?_; refine (lv_osw q16 (by decide)).trans ?_; refine (lv_osw q20 (by decide)).trans ?_; refine (lv_osw q24 (by decide)).trans ?_; refine (lv_osw q31 (by decide)).trans ?_; rfl) (by decide) ?_
  refine v_blk hC (is := [(.iconst 0, (0 : Int32))]) (pc' := 178) (ls' := [(4, .int v4), (3, .int v1), (0, .ref (ga G c)), (1, .ref (ga G x1)), (2, .int x2)]) (st' := [.int (0 : Int32)]) (by decide +kernel) rfl ?_
  exact v_zret hC rfl h (by decide +kernel)

def p_X3_scatters_B59 (k4 : Int32 → Int32 → Mem → Option (Int32 × Mem)) (c : Nat) (x1 : Int32) (x2 : Int32) (x3 : Int32) (σ : Mem) : Option (Int32 × Mem) := k4 x2 (x3 + (1 : Int32)) σ
def p_X3_scatters_B58 (k4 : Int32 → Int32 → Mem → Option (Int32 × Mem)) (c : Nat) (x1 : Int32) (x2 : Int32) (x3 : Int32) (t1 : Int32) (t2 : Int32) (σ : Mem) : Option (Int32 × Mem) := (if t1 < 0 ∨ 8 ≤ (t1).toNatClampNeg then none else wr σ (30 + c) (t1).toNatClampNeg t2 fun s1 => (p_X3_scatters_B59 k4 c x1) x2 x3 s1)
def p_X3_scatters_B4 (k4 : Int32 → Int32 → Mem → Option (Int32 × Mem)) (c : Nat) (x1 : Int32) (x2 : Int32) (x3 : Int32) (σ : Mem) : Option (Int32 × Mem) := (lt (σ c 5) fun v2 => (if v2 ≤ x3 then some (x2, σ) else (bnd (p_X3_isLost c x3 σ) fun v3 s4 => (if v3 = 0 then (if (3 : Int32) ≤ (((((x2 * (1103515245 : Int32)) + (12345 : Int32)) &&& (2147483647 : Int32)) / (65536 : Int32)) - ((((x2 * (1103515245 : Int32)) + (12345 : Int32)) &&& (2147483647 : Int32)) / (65536 : Int32)) / (4 : Int32) * (4 : Int32)) then (p_X3_scatters_B58 k4 c x1) ((x2 * (1103515245 : Int32)) + (12345 : Int32)) x3 x3 (9 : Int32) s4 else (p_X3_scatters_B58 k4 c x1) ((x2 * (1103515245 : Int32)) + (12345 : Int32)) x3 x3 (((((x2 * (1103515245 : Int32)) + (12345 : Int32)) &&& (2147483647 : Int32)) / (65536 : Int32)) - ((((x2 * (1103515245 : Int32)) + (12345 : Int32)) &&& (2147483647 : Int32)) / (65536 : Int32)) / (4 : Int32) * (4 : Int32)) s4) else (p_X3_scatters_B59 k4 c x1) x2 x3 s4))))
def p_X3_scatters_L4  (c : Nat) (x1 : Int32) : Nat → Int32 → Int32 → Mem → Option (Int32 × Mem)
  | 0 => fun _ _ _ => none
  | f + 1 => p_X3_scatters_B4 (p_X3_scatters_L4 c x1 f) c x1
def p_X3_scatters (c : Nat) (x1 : Int32) (σ : Mem) : Option (Int32 × Mem) := (p_X3_scatters_L4 c x1 1000) x1 (0 : Int32) σ
set_option maxHeartbeats 4000000 in
set_option maxRecDepth 100000 in
theorem c_X3_scatters {G : Gl} {c : Nat} {x1 : Int32} {σ : Mem} {res : Int32 × Mem} (hc : isCape c) (h : p_X3_scatters c x1 σ = some res) : MetX G yX3_scatters cX3_scatters 5 (some .int) 3 [.ref (ga G c), .int x1] σ (some (.int res.1)) res.2 := by
  refine met_V (by decide +kernel) (Nat.le_of_ble_eq_true rfl) (fun X hC => ?_)
  have hC : Ok G 3 5 X cX3_scatters RX3 (some .int) := hC
  have hB59 : ∀ (k4 : Int32 → Int32 → Mem → Option (Int32 × Mem)), (∀ (x2 : Int32), ∀ (x3 : Int32), ∀ σ : Mem, k4 x2 x3 σ = some res → V G 3 5 X ((some (.int res.1)), res.2) σ [(0, .ref (ga G c)), (2, .int x2), (3, .int x3)] [] 4) → ∀ (x2 : Int32), ∀ (x3 : Int32), ∀ σ : Mem, p_X3_scatters_B59 k4 c x1 x2 x3 σ = some res → V G 3 5 X ((some (.int res.1)), res.2) σ [(0, .ref (ga G c)), (2, .int x2), (3, .int x3)] [] 59 := by
    intro k4 hk4 x2 x3 σ h
    unfold p_X3_scatters_B59 at h
    refine v_blk hC (is := [(.iinc 3 1, (1 : Int32))]) (pc' := 62) (ls' := [(3, .int (x3 + (1 : Int32))), (0, .ref (ga G c)), (2, .int x2)]) (st' := []) (by decide +kernel) rfl ?_
    refine v_goto hC (off := (-58)) (tgt := 4) (by decide +kernel) (by decide) ?_
    refine v_sub [1, 2, 0] (ls' := [(0, .ref (ga G c)), (2, .int x2), (3, .int (x3 + (1 : Int32)))]) rfl ?_
    exact hk4 _ _ _ h
  have hB58 : ∀ (k4 : Int32 → Int32 → Mem → Option (Int32 × Mem)), (∀ (x2 : Int32), ∀ (x3 : Int32), ∀ σ : Mem, k4 x2 x3 σ = some res → V G 3 5 X ((some (.int res.1)), res.2) σ [(0, .ref (ga G c)), (2, .int x2), (3, .int x3)] [] 4) → ∀ (x2 : Int32), ∀ (x3 : Int32), ∀ (t1 : Int32), ∀ (t2 : Int32), ∀ σ : Mem, p_X3_scatters_B58 k4 c x1 x2 x3 t1 t2 σ = some res → V G 3 5 X ((some (.int res.1)), res.2) σ [(0, .ref (ga G c)), (2, .int x2), (3, .int x3)] [.int t2, .int t1, .ref (ga G (30 + c))] 58 := by
    intro k4 hk4 x2 x3 t1 t2 σ h
    unfold p_X3_scatters_B58 at h
    refine v_iast hC (isA_boat hc) (al_boat hc) (by decide +kernel) h (fun s1 h => ?_)
    exact (hB59 _ hk4) _ _ _ h
  have hB4 : ∀ (k4 : Int32 → Int32 → Mem → Option (Int32 × Mem)), (∀ (x2 : Int32), ∀ (x3 : Int32), ∀ σ : Mem, k4 x2 x3 σ = some res → V G 3 5 X ((some (.int res.1)), res.2) σ [(0, .ref (ga G c)), (2, .int x2), (3, .int x3)] [] 4) → ∀ (x2 : Int32), ∀ (x3 : Int32), ∀ σ : Mem, p_X3_scatters_B4 k4 c x1 x2 x3 σ = some res → V G 3 5 X ((some (.int res.1)), res.2) σ [(0, .ref (ga G c)), (2, .int x2), (3, .int x3)] [] 4 := by
    intro k4 hk4 x2 x3 σ h
    unfold p_X3_scatters_B4 at h
    refine v_blk hC (is := [(.iload_n 3, 0), (.aload_n 0, 0)]) (pc' := 6) (ls' := [(0, .ref (ga G c)), (2, .int x2), (3, .int x3)]) (st' := [.ref (ga G c), .int x3]) (by decide +kernel) rfl ?_
    refine gX3_5 hC hc lfX3_65 (by decide +kernel) h (fun v2 h => ?_)
    refine v_icmp_ge hC (off := 56) (tgt := 65) (by decide +kernel) (by decide) h (fun hq h => ?_) (fun hq h => ?_)
    · refine v_blk hC (is := [(.iload_n 2, 0)]) (pc' := 66) (ls' := [(0, .ref (ga G c)), (2, .int x2), (3, .int x3)]) (st' := [.int x2]) (by decide +kernel) rfl ?_
      exact v_iret hC h (by decide +kernel)
    · refine v_blk hC (is := [(.aload_n 0, 0), (.iload_n 3, 0)]) (pc' := 14) (ls' := [(0, .ref (ga G c)), (2, .int x2), (3, .int x3)]) (st' := [.int x3, .ref (ga G c)]) (by decide +kernel) rfl ?_
      obtain ⟨v3, s4, e5, h⟩ := bndI h
      refine v_cV (idx := 103) hC ⟨tt_at 350 (by decide +kernel) rfl, tiX3_isLost, tvX3_isLost, tnX3_isLost, tcX3_isLost, tmX3_isLost⟩ (isO_X3 hc) rfl (c_X3_isLost hc e5) (by decide) (by decide) (by decide +kernel) (rest := []) rfl rfl (Nat.le_of_ble_eq_true rfl) rfl ?_
      refine v_if_ne hC (off := 42) (tgt := 59) (by decide +kernel) (by decide) h (fun hq h => ?_) (fun hq h => ?_)
      · exact (hB59 _ hk4) _ _ _ h
      · refine v_blk hC (is := [(.iload_n 2, 0)]) (pc' := 21) (ls' := [(0, .ref (ga G c)), (2, .int x2), (3, .int x3)]) (st' := [.int x2]) (by decide +kernel) rfl ?_
        refine v_ldc hC (idx := 182) (v := (1103515245 : Int32)) (tt_at 813 (by decide +kernel) rfl) (by decide +kernel) ?_
        refine v_blk hC (is := [(.imul, 0), (.sipush 12345, (12345 : Int32)), (.iadd, 0), (.istore_n 2, 0), (.iload_n 2, 0)]) (pc' := 30) (ls' := [(2, .int ((x2 * (1103515245 : Int32)) + (12345 : Int32))), (0, .ref (ga G c)), (3, .int x3)]) (st' := [.int ((x2 * (1103515245 : Int32)) + (12345 : Int32))]) (by decide +kernel) rfl ?_
        refine v_ldc hC (idx := 183) (v := (2147483647 : Int32)) (tt_at 814 (by decide +kernel) rfl) (by decide +kernel) ?_
        refine v_blk hC (is := [(.iand, 0)]) (pc' := 33) (ls' := [(2, .int ((x2 * (1103515245 : Int32)) + (12345 : Int32))), (0, .ref (ga G c)), (3, .int x3)]) (st' := [.int (((x2 * (1103515245 : Int32)) + (12345 : Int32)) &&& (2147483647 : Int32))]) (by decide +kernel) rfl ?_
        refine v_ldc hC (idx := 184) (v := (65536 : Int32)) (tt_at 815 (by decide +kernel) rfl) (by decide +kernel) ?_
        refine v_idiv hC (by decide +kernel) (by decide) ?_
        refine v_blk hC (is := [(.iconst 4, (4 : Int32))]) (pc' := 37) (ls' := [(2, .int ((x2 * (1103515245 : Int32)) + (12345 : Int32))), (0, .ref (ga G c)), (3, .int x3)]) (st' := [.int (4 : Int32), .int ((((x2 * (1103515245 : Int32)) + (12345 : Int32)) &&& (2147483647 : Int32)) / (65536 : Int32))]) (by decide +kernel) rfl ?_
        refine v_irem hC (by decide +kernel) (by decide) ?_
        refine v_blk hC (is := [(.istore 4, 0), (.aload_n 0, 0)]) (pc' := 41) (ls' := [(4, .int (((((x2 * (1103515245 : Int32)) + (12345 : Int32)) &&& (2147483647 : Int32)) / (65536 : Int32)) - ((((x2 * (1103515245 : Int32)) + (12345 : Int32)) &&& (2147483647 : Int32)) / (65536 : Int32)) / (4 : Int32) * (4 : Int32))), (2, .int ((x2 * (1103515245 : Int32)) + (12345 : Int32))), (0, .ref (ga G c)), (3, .int x3)]) (st' := [.ref (ga G c)]) (by decide +kernel) rfl ?_
        refine gX3_3 hC hc lfX3_46 (by decide +kernel) ?_
        refine v_blk hC (is := [(.iload_n 3, 0), (.iload 4, 0), (.iconst 3, (3 : Int32))]) (pc' := 48) (ls' := [(4, .int (((((x2 * (1103515245 : Int32)) + (12345 : Int32)) &&& (2147483647 : Int32)) / (65536 : Int32)) - ((((x2 * (1103515245 : Int32)) + (12345 : Int32)) &&& (2147483647 : Int32)) / (65536 : Int32)) / (4 : Int32) * (4 : Int32))), (2, .int ((x2 * (1103515245 : Int32)) + (12345 : Int32))), (0, .ref (ga G c)), (3, .int x3)]) (st' := [.int (3 : Int32), .int (((((x2 * (1103515245 : Int32)) + (12345 : Int32)) &&& (2147483647 : Int32)) / (65536 : Int32)) - ((((x2 * (1103515245 : Int32)) + (12345 : Int32)) &&& (2147483647 : Int32)) / (65536 : Int32)) / (4 : Int32) * (4 : Int32)), .int x3, .ref (ga G (30 + c))]) (by decide +kernel) rfl ?_
        refine v_icmp_ge hC (off := 8) (tgt := 56) (by decide +kernel) (by decide) h (fun hq h => ?_) (fun hq h => ?_)
        · refine v_blk hC (is := [(.bipush 9, (9 : Int32))]) (pc' := 58) (ls' := [(4, .int (((((x2 * (1103515245 : Int32)) + (12345 : Int32)) &&& (2147483647 : Int32)) / (65536 : Int32)) - ((((x2 * (1103515245 : Int32)) + (12345 : Int32)) &&& (2147483647 : Int32)) / (65536 : Int32)) / (4 : Int32) * (4 : Int32))), (2, .int ((x2 * (1103515245 : Int32)) + (12345 : Int32))), (0, .ref (ga G c)), (3, .int x3)]) (st' := [.int (9 : Int32), .int x3, .ref (ga G (30 + c))]) (by decide +kernel) rfl ?_
          refine v_sub [2, 1, 3] (ls' := [(0, .ref (ga G c)), (2, .int ((x2 * (1103515245 : Int32)) + (12345 : Int32))), (3, .int x3)]) rfl ?_
          exact (hB58 _ hk4) _ _ _ _ _ h
        · refine v_blk hC (is := [(.iload 4, 0)]) (pc' := 53) (ls' := [(4, .int (((((x2 * (1103515245 : Int32)) + (12345 : Int32)) &&& (2147483647 : Int32)) / (65536 : Int32)) - ((((x2 * (1103515245 : Int32)) + (12345 : Int32)) &&& (2147483647 : Int32)) / (65536 : Int32)) / (4 : Int32) * (4 : Int32))), (2, .int ((x2 * (1103515245 : Int32)) + (12345 : Int32))), (0, .ref (ga G c)), (3, .int x3)]) (st' := [.int (((((x2 * (1103515245 : Int32)) + (12345 : Int32)) &&& (2147483647 : Int32)) / (65536 : Int32)) - ((((x2 * (1103515245 : Int32)) + (12345 : Int32)) &&& (2147483647 : Int32)) / (65536 : Int32)) / (4 : Int32) * (4 : Int32)), .int x3, .ref (ga G (30 + c))]) (by decide +kernel) rfl ?_
          refine v_goto hC (off := 5) (tgt := 58) (by decide +kernel) (by decide) ?_
          refine v_sub [2, 1, 3] (ls' := [(0, .ref (ga G c)), (2, .int ((x2 * (1103515245 : Int32)) + (12345 : Int32))), (3, .int x3)]) rfl ?_
          exact (hB58 _ hk4) _ _ _ _ _ h
  have hL4 : ∀ f : Nat, ∀ (x2 : Int32), ∀ (x3 : Int32), ∀ σ : Mem, p_X3_scatters_L4 c x1 f x2 x3 σ = some res → V G 3 5 X ((some (.int res.1)), res.2) σ [(0, .ref (ga G c)), (2, .int x2), (3, .int x3)] [] 4 := by
    intro  f
    induction f with
    | zero => intro x2 x3 σ h; exact none_some h
    | succ f ih => intro x2 x3 σ h; exact hB4 (p_X3_scatters_L4 c x1 f)  ih  x2 x3 σ h
  unfold p_X3_scatters at h
  show V G 3 5 X ((some (.int res.1)), res.2) σ [(0, .ref (ga G c)), (1, .int x1)] [] 0
  refine v_blk hC (is := [(.iload_n 1, 0), (.istore_n 2, 0), (.iconst 0, (0 : Int32)), (.istore_n 3, 0)]) (pc' := 4) (ls' := [(3, .int (0 : Int32)), (2, .int x1), (0, .ref (ga G c)), (1, .int x1)]) (st' := []) (by decide +kernel) rfl ?_
  refine v_sub [2, 1, 0] (ls' := [(0, .ref (ga G c)), (2, .int x1), (3, .int (0 : Int32))]) rfl ?_
  exact (hL4 1000) _ _ _ h

def p_X4_lookAt_B75 (k36 : Int32 → Int32 → Mem → Option (Unit × Mem)) (x1 : Nat) (x2 : Int32) (x3 : Int32) (x4 : Int32) (σ : Mem) : Option (Unit × Mem) := k36 x3 (x4 + (1 : Int32)) σ
def p_X4_lookAt_B36 (k36 : Int32 → Int32 → Mem → Option (Unit × Mem)) (k81 : Int32 → Mem → Option (Unit × Mem)) (x1 : Nat) (x2 : Int32) (x3 : Int32) (x4 : Int32) (σ : Mem) : Option (Unit × Mem) := (lt (σ 4 4) fun v1 => (if v1 ≤ x4 then k81 x3 σ else (if x4 = x3 then (p_X4_lookAt_B75 k36 x1 x2) x3 x4 σ else (bnd (p_X3_agree x1 x3 x4 x2 σ) fun v2 s3 => (if v2 = 0 then (if x3 < 0 ∨ 8 ≤ (x3).toNatClampNeg then none else lt (s3 37 (x3).toNatClampNeg) fun v5 => (if x3 < 0 ∨ 8 ≤ (x3).toNatClampNeg then none else wr s3 37 (x3).toNatClampNeg (v5 ||| ((1 : Int32) <<< (x4 &&& 31))) fun s6 => (p_X4_lookAt_B75 k36 x1 x2) x3 x4 s6)) else (p_X4_lookAt_B75 k36 x1 x2) x3 x4 s3)))))
def p_X4_lookAt_L36 (k81 : Int32 → Mem → Option (Unit × Mem)) (x1 : Nat) (x2 : Int32) : Nat → Int32 → Int32 → Mem → Option (Unit × Mem)
  | 0 => fun _ _ _ => none
  | f + 1 => p_X4_lookAt_B36 (p_X4_lookAt_L36 k81 x1 x2 f) k81 x1 x2
def p_X4_lookAt_B18 (k18 : Int32 → Mem → Option (Unit × Mem)) (x1 : Nat) (x2 : Int32) (x3 : Int32) (σ : Mem) : Option (Unit × Mem) := (lt (σ 4 4) fun v7 => (if v7 ≤ x3 then some ((), σ) else (if x3 < 0 ∨ 8 ≤ (x3).toNatClampNeg then none else wr σ 37 (x3).toNatClampNeg (0 : Int32) fun s8 => (p_X4_lookAt_L36 (fun (x3 : Int32) (m9 : Mem) => k18 (x3 + (1 : Int32)) m9) x1 x2 1000) x3 (0 : Int32) s8)))
def p_X4_lookAt_L18  (x1 : Nat) (x2 : Int32) : Nat → Int32 → Mem → Option (Unit × Mem)
  | 0 => fun _ _ => none
  | f + 1 => p_X4_lookAt_B18 (p_X4_lookAt_L18 x1 x2 f) x1 x2
def p_X4_lookAt (x1 : Nat) (x2 : Int32) (σ : Mem) : Option (Unit × Mem) := (lt (σ x1 5) fun v10 => (wr σ 4 4 v10 fun s11 => (bnd (p_X3_living x1 s11) fun v12 s13 => (wr s13 4 5 v12 fun s15 => (p_X4_lookAt_L18 x1 x2 1000) (0 : Int32) s15))))
set_option maxHeartbeats 4000000 in
set_option maxRecDepth 100000 in
theorem c_X4_lookAt {G : Gl} {x1 : Nat} {x2 : Int32} {σ : Mem} {res : Unit × Mem} (hx1 : isCape x1) (h : p_X4_lookAt x1 x2 σ = some res) : MetX G yX4_lookAt cX4_lookAt 5 none 3 [.ref (ga G 4), .ref (ga G x1), .int x2] σ none res.2 := by
  refine met_V (by decide +kernel) (Nat.le_of_ble_eq_true rfl) (fun X hC => ?_)
  have hC : Ok G 3 5 X cX4_lookAt RX4 none := hC
  have hB75 : ∀ (k36 : Int32 → Int32 → Mem → Option (Unit × Mem)), (∀ (x3 : Int32), ∀ (x4 : Int32), ∀ σ : Mem, k36 x3 x4 σ = some res → V G 3 5 X (none, res.2) σ [(0, .ref (ga G 4)), (1, .ref (ga G x1)), (2, .int x2), (3, .int x3), (4, .int x4)] [] 36) → ∀ (x3 : Int32), ∀ (x4 : Int32), ∀ σ : Mem, p_X4_lookAt_B75 k36 x1 x2 x3 x4 σ = some res → V G 3 5 X (none, res.2) σ [(0, .ref (ga G 4)), (1, .ref (ga G x1)), (2, .int x2), (3, .int x3), (4, .int x4)] [] 75 := by
    intro k36 hk36 x3 x4 σ h
    unfold p_X4_lookAt_B75 at h
    refine v_blk hC (is := [(.iinc 4 1, (1 : Int32))]) (pc' := 78) (ls' := [(4, .int (x4 + (1 : Int32))), (0, .ref (ga G 4)), (1, .ref (ga G x1)), (2, .int x2), (3, .int x3)]) (st' := []) (by decide +kernel) rfl ?_
    refine v_goto hC (off := (-42)) (tgt := 36) (by decide +kernel) (by decide) ?_
    refine v_sub [1, 2, 3, 4, 0] (ls' := [(0, .ref (ga G 4)), (1, .ref (ga G x1)), (2, .int x2), (3, .int x3), (4, .int (x4 + (1 : Int32)))]) rfl ?_
    exact hk36 _ _ _ h
  have hB36 : ∀ (k36 : Int32 → Int32 → Mem → Option (Unit × Mem)), ∀ (k81 : Int32 → Mem → Option (Unit × Mem)), (∀ (x3 : Int32), ∀ (x4 : Int32), ∀ σ : Mem, k36 x3 x4 σ = some res → V G 3 5 X (none, res.2) σ [(0, .ref (ga G 4)), (1, .ref (ga G x1)), (2, .int x2), (3, .int x3), (4, .int x4)] [] 36) → (∀ (x3 : Int32), ∀ σ : Mem, k81 x3 σ = some res → V G 3 5 X (none, res.2) σ [(0, .ref (ga G 4)), (1, .ref (ga G x1)), (2, .int x2), (3, .int x3)] [] 81) → ∀ (x3 : Int32), ∀ (x4 : Int32), ∀ σ : Mem, p_X4_lookAt_B36 k36 k81 x1 x2 x3 x4 σ = some res → V G 3 5 X (none, res.2) σ [(0, .ref (ga G 4)), (1, .ref (ga G x1)), (2, .int x2), (3, .int x3), (4, .int x4)] [] 36 := by
    intro k36 k81 hk36 hk81 x3 x4 σ h
    unfold p_X4_lookAt_B36 at h
    refine v_blk hC (is := [(.iload 4, 0), (.aload_n 0, 0)]) (pc' := 39) (ls' := [(0, .ref (ga G 4)), (1, .ref (ga G x1)), (2, .int x2), (3, .int x3), (4, .int x4)]) (st' := [.ref (ga G 4), .int x4]) (by decide +kernel) rfl ?_
    refine gX4_4 hC lfX4_30 (by decide +kernel) h (fun v1 h => ?_)
    refine v_icmp_ge hC (off := 39) (tgt := 81) (by decide +kernel) (by decide) h (fun hq h => ?_) (fun hq h => ?_)
    · refine v_sub [0, 1, 2, 3] (ls' := [(0, .ref (ga G 4)), (1, .ref (ga G x1)), (2, .int x2), (3, .int x3)]) rfl ?_
      exact hk81 _ _ h
    · refine v_blk hC (is := [(.iload 4, 0), (.iload_n 3, 0)]) (pc' := 48) (ls' := [(0, .ref (ga G 4)), (1, .ref (ga G x1)), (2, .int x2), (3, .int x3), (4, .int x4)]) (st' := [.int x3, .int x4]) (by decide +kernel) rfl ?_
      refine v_icmp_eq hC (off := 27) (tgt := 75) (by decide +kernel) (by decide) h (fun hq h => ?_) (fun hq h => ?_)
      · exact (hB75 _ hk36) _ _ _ h
      · refine v_blk hC (is := [(.aload_n 1, 0), (.iload_n 3, 0), (.iload 4, 0), (.iload_n 2, 0)]) (pc' := 56) (ls' := [(0, .ref (ga G 4)), (1, .ref (ga G x1)), (2, .int x2), (3, .int x3), (4, .int x4)]) (st' := [.int x2, .int x4, .int x3, .ref (ga G x1)]) (by decide +kernel) rfl ?_
        obtain ⟨v2, s3, e4, h⟩ := bndI h
        refine v_cVN (idx := 37) hC ⟨List.mem_of_getElem? (i := 40) (by decide +kernel), tiX3_agree, tvX3_agree, tnX3_agree, tcX3_agree, tmX3_agree⟩ (isO_X3 hx1) rfl (c_X3_agree hx1 e4) (by decide) (by decide) (by decide +kernel) (rest := []) rfl rfl (Nat.le_of_ble_eq_true rfl) rfl ?_
        refine v_if_ne hC (off := 16) (tgt := 75) (by decide +kernel) (by decide) h (fun hq h => ?_) (fun hq h => ?_)
        · exact (hB75 _ hk36) _ _ _ h
        · refine v_blk hC (is := [(.aload_n 0, 0)]) (pc' := 63) (ls' := [(0, .ref (ga G 4)), (1, .ref (ga G x1)), (2, .int x2), (3, .int x3), (4, .int x4)]) (st' := [.ref (ga G 4)]) (by decide +kernel) rfl ?_
          refine gX4_0 hC lfX4_9 (by decide +kernel) ?_
          refine v_blk hC (is := [(.iload_n 3, 0), (.dup2, 0)]) (pc' := 68) (ls' := [(0, .ref (ga G 4)), (1, .ref (ga G x1)), (2, .int x2), (3, .int x3), (4, .int x4)]) (st' := [.int x3, .ref (ga G 37), .int x3, .ref (ga G 37)]) (by decide +kernel) rfl ?_
          refine v_iald hC isA_37 rfl (by decide +kernel) h (fun v5 h => ?_)
          refine v_blk hC (is := [(.iconst 1, (1 : Int32)), (.iload 4, 0), (.ishl, 0), (.ior, 0)]) (pc' := 74) (ls' := [(0, .ref (ga G 4)), (1, .ref (ga G x1)), (2, .int x2), (3, .int x3), (4, .int x4)]) (st' := [.int (v5 ||| ((1 : Int32) <<< (x4 &&& 31))), .int x3, .ref (ga G 37)]) (by decide +kernel) rfl ?_
          refine v_iast hC isA_37 rfl (by decide +kernel) h (fun s6 h => ?_)
          exact (hB75 _ hk36) _ _ _ h
  have hL36 : ∀ (k81 : Int32 → Mem → Option (Unit × Mem)), (∀ (x3 : Int32), ∀ σ : Mem, k81 x3 σ = some res → V G 3 5 X (none, res.2) σ [(0, .ref (ga G 4)), (1, .ref (ga G x1)), (2, .int x2), (3, .int x3)] [] 81) → ∀ f : Nat, ∀ (x3 : Int32), ∀ (x4 : Int32), ∀ σ : Mem, p_X4_lookAt_L36 k81 x1 x2 f x3 x4 σ = some res → V G 3 5 X (none, res.2) σ [(0, .ref (ga G 4)), (1, .ref (ga G x1)), (2, .int x2), (3, .int x3), (4, .int x4)] [] 36 := by
    intro k81 hk81 f
    induction f with
    | zero => intro x3 x4 σ h; exact none_some h
    | succ f ih => intro x3 x4 σ h; exact hB36 (p_X4_lookAt_L36 k81 x1 x2 f) k81 ih hk81 x3 x4 σ h
  have hB18 : ∀ (k18 : Int32 → Mem → Option (Unit × Mem)), (∀ (x3 : Int32), ∀ σ : Mem, k18 x3 σ = some res → V G 3 5 X (none, res.2) σ [(0, .ref (ga G 4)), (1, .ref (ga G x1)), (2, .int x2), (3, .int x3)] [] 18) → ∀ (x3 : Int32), ∀ σ : Mem, p_X4_lookAt_B18 k18 x1 x2 x3 σ = some res → V G 3 5 X (none, res.2) σ [(0, .ref (ga G 4)), (1, .ref (ga G x1)), (2, .int x2), (3, .int x3)] [] 18 := by
    intro k18 hk18 x3 σ h
    unfold p_X4_lookAt_B18 at h
    refine v_blk hC (is := [(.iload_n 3, 0), (.aload_n 0, 0)]) (pc' := 20) (ls' := [(0, .ref (ga G 4)), (1, .ref (ga G x1)), (2, .int x2), (3, .int x3)]) (st' := [.ref (ga G 4), .int x3]) (by decide +kernel) rfl ?_
    refine gX4_4 hC lfX4_30 (by decide +kernel) h (fun v7 h => ?_)
    refine v_icmp_ge hC (off := 64) (tgt := 87) (by decide +kernel) (by decide) h (fun hq h => ?_) (fun hq h => ?_)
    · exact v_vret hC h (by decide +kernel)
    · refine v_blk hC (is := [(.aload_n 0, 0)]) (pc' := 27) (ls' := [(0, .ref (ga G 4)), (1, .ref (ga G x1)), (2, .int x2), (3, .int x3)]) (st' := [.ref (ga G 4)]) (by decide +kernel) rfl ?_
      refine gX4_0 hC lfX4_9 (by decide +kernel) ?_
      refine v_blk hC (is := [(.iload_n 3, 0), (.iconst 0, (0 : Int32))]) (pc' := 32) (ls' := [(0, .ref (ga G 4)), (1, .ref (ga G x1)), (2, .int x2), (3, .int x3)]) (st' := [.int (0 : Int32), .int x3, .ref (ga G 37)]) (by decide +kernel) rfl ?_
      refine v_iast hC isA_37 rfl (by decide +kernel) h (fun s8 h => ?_)
      refine v_blk hC (is := [(.iconst 0, (0 : Int32)), (.istore 4, 0)]) (pc' := 36) (ls' := [(4, .int (0 : Int32)), (0, .ref (ga G 4)), (1, .ref (ga G x1)), (2, .int x2), (3, .int x3)]) (st' := []) (by decide +kernel) rfl ?_
      refine v_sub [1, 2, 3, 4, 0] (ls' := [(0, .ref (ga G 4)), (1, .ref (ga G x1)), (2, .int x2), (3, .int x3), (4, .int (0 : Int32))]) rfl ?_
      exact (hL36 _ (fun x3  m9 h => by
            refine v_blk hC (is := [(.iinc 3 1, (1 : Int32))]) (pc' := 84) (ls' := [(3, .int (x3 + (1 : Int32))), (0, .ref (ga G 4)), (1, .ref (ga G x1)), (2, .int x2)]) (st' := []) (by decide +kernel) rfl ?_
            refine v_goto hC (off := (-66)) (tgt := 18) (by decide +kernel) (by decide) ?_
            refine v_sub [1, 2, 3, 0] (ls' := [(0, .ref (ga G 4)), (1, .ref (ga G x1)), (2, .int x2), (3, .int (x3 + (1 : Int32)))]) rfl ?_
            exact hk18 _ _ h) 1000) _ _ _ h
  have hL18 : ∀ f : Nat, ∀ (x3 : Int32), ∀ σ : Mem, p_X4_lookAt_L18 x1 x2 f x3 σ = some res → V G 3 5 X (none, res.2) σ [(0, .ref (ga G 4)), (1, .ref (ga G x1)), (2, .int x2), (3, .int x3)] [] 18 := by
    intro  f
    induction f with
    | zero => intro x3 σ h; exact none_some h
    | succ f ih => intro x3 σ h; exact hB18 (p_X4_lookAt_L18 x1 x2 f)  ih  x3 σ h
  unfold p_X4_lookAt at h
  show V G 3 5 X (none, res.2) σ [(0, .ref (ga G 4)), (1, .ref (ga G x1)), (2, .int x2)] [] 0
  refine v_blk hC (is := [(.aload_n 0, 0), (.aload_n 1, 0)]) (pc' := 2) (ls' := [(0, .ref (ga G 4)), (1, .ref (ga G x1)), (2, .int x2)]) (st' := [.ref (ga G x1), .ref (ga G 4)]) (by decide +kernel) rfl ?_
  refine gX3_5 hC hx1 lfX4_24 (by decide +kernel) h (fun v10 h => ?_)
  refine pX4_4 hC lfX4_30 (by decide +kernel) h (fun s11 h => ?_)
  refine v_blk hC (is := [(.aload_n 0, 0), (.aload_n 1, 0)]) (pc' := 10) (ls' := [(0, .ref (ga G 4)), (1, .ref (ga G x1)), (2, .int x2)]) (st' := [.ref (ga G x1), .ref (ga G 4)]) (by decide +kernel) rfl ?_
  obtain ⟨v12, s13, e14, h⟩ := bndI h
  refine v_cVN (idx := 31) hC ⟨List.mem_of_getElem? (i := 39) (by decide +kernel), tiX3_living, tvX3_living, tnX3_living, tcX3_living, tmX3_living⟩ (isO_X3 hx1) rfl (c_X3_living hx1 e14) (by decide) (by decide) (by decide +kernel) (rest := [.ref (ga G 4)]) rfl rfl (Nat.le_of_ble_eq_true rfl) rfl ?_
  refine pX4_5 hC lfX4_35 (by decide +kernel) h (fun s15 h => ?_)
  refine v_blk hC (is := [(.iconst 0, (0 : Int32)), (.istore_n 3, 0)]) (pc' := 18) (ls' := [(3, .int (0 : Int32)), (0, .ref (ga G 4)), (1, .ref (ga G x1)), (2, .int x2)]) (st' := []) (by decide +kernel) rfl ?_
  refine v_sub [1, 2, 3, 0] (ls' := [(0, .ref (ga G 4)), (1, .ref (ga G x1)), (2, .int x2), (3, .int (0 : Int32))]) rfl ?_
  exact (hL18 1000) _ _ h

def p_X4_isPeace_B31 (k2 : Int32 → Mem → Option (Int32 × Mem)) (x1 : Int32) (x2 : Int32) (σ : Mem) : Option (Int32 × Mem) := k2 (x2 + (1 : Int32)) σ
def p_X4_isPeace_B2 (k2 : Int32 → Mem → Option (Int32 × Mem)) (x1 : Int32) (x2 : Int32) (σ : Mem) : Option (Int32 × Mem) := (lt (σ 4 4) fun v1 => (if v1 ≤ x2 then some ((1 : Int32), σ) else (bnd (p_X11_holds x1 x2 σ) fun v2 s3 => (if v2 = 0 then (p_X4_isPeace_B31 k2 x1) x2 s3 else (if x2 < 0 ∨ 8 ≤ (x2).toNatClampNeg then none else lt (s3 37 (x2).toNatClampNeg) fun v5 => (if (v5 &&& x1) = 0 then (p_X4_isPeace_B31 k2 x1) x2 s3 else some ((0 : Int32), s3)))))))
def p_X4_isPeace_L2  (x1 : Int32) : Nat → Int32 → Mem → Option (Int32 × Mem)
  | 0 => fun _ _ => none
  | f + 1 => p_X4_isPeace_B2 (p_X4_isPeace_L2 x1 f) x1
def p_X4_isPeace (x1 : Int32) (σ : Mem) : Option (Int32 × Mem) := (p_X4_isPeace_L2 x1 1000) (0 : Int32) σ
set_option maxHeartbeats 4000000 in
set_option maxRecDepth 100000 in
theorem c_X4_isPeace {G : Gl} {x1 : Int32} {σ : Mem} {res : Int32 × Mem}  (h : p_X4_isPeace x1 σ = some res) : MetX G yX4_isPeace cX4_isPeace 3 (some .boolean) 2 [.ref (ga G 4), .int x1] σ (some (.int res.1)) res.2 := by
  refine met_V (by decide +kernel) (Nat.le_of_ble_eq_true rfl) (fun X hC => ?_)
  have hC : Ok G 2 3 X cX4_isPeace RX4 (some .boolean) := hC
  have hB31 : ∀ (k2 : Int32 → Mem → Option (Int32 × Mem)), (∀ (x2 : Int32), ∀ σ : Mem, k2 x2 σ = some res → V G 2 3 X ((some (.int res.1)), res.2) σ [(0, .ref (ga G 4)), (1, .int x1), (2, .int x2)] [] 2) → ∀ (x2 : Int32), ∀ σ : Mem, p_X4_isPeace_B31 k2 x1 x2 σ = some res → V G 2 3 X ((some (.int res.1)), res.2) σ [(0, .ref (ga G 4)), (1, .int x1), (2, .int x2)] [] 31 := by
    intro k2 hk2 x2 σ h
    unfold p_X4_isPeace_B31 at h
    refine v_blk hC (is := [(.iinc 2 1, (1 : Int32))]) (pc' := 34) (ls' := [(2, .int (x2 + (1 : Int32))), (0, .ref (ga G 4)), (1, .int x1)]) (st' := []) (by decide +kernel) rfl ?_
    refine v_goto hC (off := (-32)) (tgt := 2) (by decide +kernel) (by decide) ?_
    refine v_sub [1, 2, 0] (ls' := [(0, .ref (ga G 4)), (1, .int x1), (2, .int (x2 + (1 : Int32)))]) rfl ?_
    exact hk2 _ _ h
  have hB2 : ∀ (k2 : Int32 → Mem → Option (Int32 × Mem)), (∀ (x2 : Int32), ∀ σ : Mem, k2 x2 σ = some res → V G 2 3 X ((some (.int res.1)), res.2) σ [(0, .ref (ga G 4)), (1, .int x1), (2, .int x2)] [] 2) → ∀ (x2 : Int32), ∀ σ : Mem, p_X4_isPeace_B2 k2 x1 x2 σ = some res → V G 2 3 X ((some (.int res.1)), res.2) σ [(0, .ref (ga G 4)), (1, .int x1), (2, .int x2)] [] 2 := by
    intro k2 hk2 x2 σ h
    unfold p_X4_isPeace_B2 at h
    refine v_blk hC (is := [(.iload_n 2, 0), (.aload_n 0, 0)]) (pc' := 4) (ls' := [(0, .ref (ga G 4)), (1, .int x1), (2, .int x2)]) (st' := [.ref (ga G 4), .int x2]) (by decide +kernel) rfl ?_
    refine gX4_4 hC lfX4_30 (by decide +kernel) h (fun v1 h => ?_)
    refine v_icmp_ge hC (off := 30) (tgt := 37) (by decide +kernel) (by decide) h (fun hq h => ?_) (fun hq h => ?_)
    · refine v_blk hC (is := [(.iconst 1, (1 : Int32))]) (pc' := 38) (ls' := [(0, .ref (ga G 4)), (1, .int x1), (2, .int x2)]) (st' := [.int (1 : Int32)]) (by decide +kernel) rfl ?_
      exact v_zret hC rfl h (by decide +kernel)
    · refine v_blk hC (is := [(.iload_n 1, 0), (.iload_n 2, 0)]) (pc' := 12) (ls' := [(0, .ref (ga G 4)), (1, .int x1), (2, .int x2)]) (st' := [.int x2, .int x1]) (by decide +kernel) rfl ?_
      obtain ⟨v2, s3, e4, h⟩ := bndI h
      refine v_cSN (idx := 41) hC ⟨List.mem_of_getElem? (i := 43) (by decide +kernel), tsX11_holds, tnX11_holds, tcX11_holds, tmX11_holds⟩ (c_X11_holds e4) (by decide) (by decide) (by decide +kernel) (rest := []) rfl rfl (Nat.le_of_ble_eq_true rfl) rfl ?_
      refine v_if_eq hC (off := 16) (tgt := 31) (by decide +kernel) (by decide) h (fun hq h => ?_) (fun hq h => ?_)
      · exact (hB31 _ hk2) _ _ h
      · refine v_blk hC (is := [(.aload_n 0, 0)]) (pc' := 19) (ls' := [(0, .ref (ga G 4)), (1, .int x1), (2, .int x2)]) (st' := [.ref (ga G 4)]) (by decide +kernel) rfl ?_
        refine gX4_0 hC lfX4_9 (by decide +kernel) ?_
        refine v_blk hC (is := [(.iload_n 2, 0)]) (pc' := 23) (ls' := [(0, .ref (ga G 4)), (1, .int x1), (2, .int x2)]) (st' := [.int x2, .ref (ga G 37)]) (by decide +kernel) rfl ?_
        refine v_iald hC isA_37 rfl (by decide +kernel) h (fun v5 h => ?_)
        refine v_blk hC (is := [(.iload_n 1, 0), (.iand, 0)]) (pc' := 26) (ls' := [(0, .ref (ga G 4)), (1, .int x1), (2, .int x2)]) (st' := [.int (v5 &&& x1)]) (by decide +kernel) rfl ?_
        refine v_if_eq hC (off := 5) (tgt := 31) (by decide +kernel) (by decide) h (fun hq h => ?_) (fun hq h => ?_)
        · exact (hB31 _ hk2) _ _ h
        · refine v_blk hC (is := [(.iconst 0, (0 : Int32))]) (pc' := 30) (ls' := [(0, .ref (ga G 4)), (1, .int x1), (2, .int x2)]) (st' := [.int (0 : Int32)]) (by decide +kernel) rfl ?_
          exact v_zret hC rfl h (by decide +kernel)
  have hL2 : ∀ f : Nat, ∀ (x2 : Int32), ∀ σ : Mem, p_X4_isPeace_L2 x1 f x2 σ = some res → V G 2 3 X ((some (.int res.1)), res.2) σ [(0, .ref (ga G 4)), (1, .int x1), (2, .int x2)] [] 2 := by
    intro  f
    induction f with
    | zero => intro x2 σ h; exact none_some h
    | succ f ih => intro x2 σ h; exact hB2 (p_X4_isPeace_L2 x1 f)  ih  x2 σ h
  unfold p_X4_isPeace at h
  show V G 2 3 X ((some (.int res.1)), res.2) σ [(0, .ref (ga G 4)), (1, .int x1)] [] 0
  refine v_blk hC (is := [(.iconst 0, (0 : Int32)), (.istore_n 2, 0)]) (pc' := 2) (ls' := [(2, .int (0 : Int32)), (0, .ref (ga G 4)), (1, .int x1)]) (st' := []) (by decide +kernel) rfl ?_
  refine v_sub [1, 2, 0] (ls' := [(0, .ref (ga G 4)), (1, .int x1), (2, .int (0 : Int32))]) rfl ?_
  exact (hL2 1000) _ _ h

def p_X4_isCrew (x1 : Int32) (σ : Mem) : Option (Int32 × Mem) := (lt (σ 4 5) fun v1 => (if (x1 &&& (v1 ^^^ (-1 : Int32))) = 0 then (bnd (p_X4_isPeace x1 σ) fun v2 s3 => (if v2 = 0 then some ((0 : Int32), s3) else some ((1 : Int32), s3))) else some ((0 : Int32), σ)))
set_option maxHeartbeats 4000000 in
set_option maxRecDepth 100000 in
theorem c_X4_isCrew {G : Gl} {x1 : Int32} {σ : Mem} {res : Int32 × Mem}  (h : p_X4_isCrew x1 σ = some res) : MetX G yX4_isCrew cX4_isCrew 2 (some .boolean) 3 [.ref (ga G 4), .int x1] σ (some (.int res.1)) res.2 := by
  refine met_V (by decide +kernel) (Nat.le_of_ble_eq_true rfl) (fun X hC => ?_)
  have hC : Ok G 3 2 X cX4_isCrew RX4 (some .boolean) := hC
  unfold p_X4_isCrew at h
  show V G 3 2 X ((some (.int res.1)), res.2) σ [(0, .ref (ga G 4)), (1, .int x1)] [] 0
  refine v_blk hC (is := [(.iload_n 1, 0), (.aload_n 0, 0)]) (pc' := 2) (ls' := [(0, .ref (ga G 4)), (1, .int x1)]) (st' := [.ref (ga G 4), .int x1]) (by decide +kernel) rfl ?_
  refine gX4_5 hC lfX4_35 (by decide +kernel) h (fun v1 h => ?_)
  refine v_blk hC (is := [(.iconst (-1), (-1 : Int32)), (.ixor, 0), (.iand, 0)]) (pc' := 8) (ls' := [(0, .ref (ga G 4)), (1, .int x1)]) (st' := [.int (x1 &&& (v1 ^^^ (-1 : Int32)))]) (by decide +kernel) rfl ?_
  refine v_if_ne hC (off := 15) (tgt := 23) (by decide +kernel) (by decide) h (fun hq h => ?_) (fun hq h => ?_)
  · refine v_blk hC (is := [(.iconst 0, (0 : Int32))]) (pc' := 24) (ls' := [(0, .ref (ga G 4)), (1, .int x1)]) (st' := [.int (0 : Int32)]) (by decide +kernel) rfl ?_
    exact v_zret hC rfl h (by decide +kernel)
  · refine v_blk hC (is := [(.aload_n 0, 0), (.iload_n 1, 0)]) (pc' := 13) (ls' := [(0, .ref (ga G 4)), (1, .int x1)]) (st' := [.int x1, .ref (ga G 4)]) (by decide +kernel) rfl ?_
    obtain ⟨v2, s3, e4, h⟩ := bndI h
    refine v_cV (idx := 45) hC ⟨tt_at 625 (by decide +kernel) rfl, tiX4_isPeace, tvX4_isPeace, tnX4_isPeace, tcX4_isPeace, tmX4_isPeace⟩ isO_X4 rfl (c_X4_isPeace e4) (by decide) (by decide) (by decide +kernel) (rest := []) rfl rfl (Nat.le_of_ble_eq_true rfl) rfl ?_
    refine v_if_eq hC (off := 7) (tgt := 23) (by decide +kernel) (by decide) h (fun hq h => ?_) (fun hq h => ?_)
    · refine v_blk hC (is := [(.iconst 0, (0 : Int32))]) (pc' := 24) (ls' := [(0, .ref (ga G 4)), (1, .int x1)]) (st' := [.int (0 : Int32)]) (by decide +kernel) rfl ?_
      exact v_zret hC rfl h (by decide +kernel)
    · refine v_blk hC (is := [(.iconst 1, (1 : Int32))]) (pc' := 20) (ls' := [(0, .ref (ga G 4)), (1, .int x1)]) (st' := [.int (1 : Int32)]) (by decide +kernel) rfl ?_
      refine v_goto hC (off := 4) (tgt := 24) (by decide +kernel) (by decide) ?_
      exact v_zret hC rfl h (by decide +kernel)

def p_X4_greatest_B35 (k4 : Int32 → Int32 → Mem → Option (Int32 × Mem))  (x1 : Int32) (x2 : Int32) (σ : Mem) : Option (Int32 × Mem) := k4 x1 (x2 + (1 : Int32)) σ
def p_X4_greatest_B4 (k4 : Int32 → Int32 → Mem → Option (Int32 × Mem))  (x1 : Int32) (x2 : Int32) (σ : Mem) : Option (Int32 × Mem) := (lt (σ 4 4) fun v1 => (if ((1 : Int32) <<< (v1 &&& 31)) ≤ x2 then some (x1, σ) else (bnd (p_J6_bitCount_0f7a4 x2 σ) fun v2 s3 => (bnd (p_J6_bitCount_0f7a4 x1 s3) fun v5 s6 => (if v2 ≤ v5 then (p_X4_greatest_B35 k4) x1 x2 s6 else (bnd (p_X4_isCrew x2 s6) fun v8 s9 => (if v8 = 0 then (p_X4_greatest_B35 k4) x1 x2 s9 else (p_X4_greatest_B35 k4) x2 x2 s9)))))))
def p_X4_greatest_L4   : Nat → Int32 → Int32 → Mem → Option (Int32 × Mem)
  | 0 => fun _ _ _ => none
  | f + 1 => p_X4_greatest_B4 (p_X4_greatest_L4 f)
def p_X4_greatest  (σ : Mem) : Option (Int32 × Mem) := (p_X4_greatest_L4 1000) (0 : Int32) (1 : Int32) σ
set_option maxHeartbeats 4000000 in
set_option maxRecDepth 100000 in
theorem c_X4_greatest {G : Gl}  {σ : Mem} {res : Int32 × Mem}  (h : p_X4_greatest  σ = some res) : MetX G yX4_greatest cX4_greatest 3 (some .int) 4 [.ref (ga G 4)] σ (some (.int res.1)) res.2 := by
  refine met_V (by decide +kernel) (Nat.le_of_ble_eq_true rfl) (fun X hC => ?_)
  have hC : Ok G 4 3 X cX4_greatest RX4 (some .int) := hC
  have hB35 : ∀ (k4 : Int32 → Int32 → Mem → Option (Int32 × Mem)), (∀ (x1 : Int32), ∀ (x2 : Int32), ∀ σ : Mem, k4 x1 x2 σ = some res → V G 4 3 X ((some (.int res.1)), res.2) σ [(0, .ref (ga G 4)), (1, .int x1), (2, .int x2)] [] 4) → ∀ (x1 : Int32), ∀ (x2 : Int32), ∀ σ : Mem, p_X4_greatest_B35 k4  x1 x2 σ = some res → V G 4 3 X ((some (.int res.1)), res.2) σ [(0, .ref (ga G 4)), (1, .int x1), (2, .int x2)] [] 35 := by
    intro k4 hk4 x1 x2 σ h
    unfold p_X4_greatest_B35 at h
    refine v_blk hC (is := [(.iinc 2 1, (1 : Int32))]) (pc' := 38) (ls' := [(2, .int (x2 + (1 : Int32))), (0, .ref (ga G 4)), (1, .int x1)]) (st' := []) (by decide +kernel) rfl ?_
    refine v_goto hC (off := (-34)) (tgt := 4) (by decide +kernel) (by decide) ?_
    refine v_sub [1, 2, 0] (ls' := [(0, .ref (ga G 4)), (1, .int x1), (2, .int (x2 + (1 : Int32)))]) rfl ?_
    exact hk4 _ _ _ h
  have hB4 : ∀ (k4 : Int32 → Int32 → Mem → Option (Int32 × Mem)), (∀ (x1 : Int32), ∀ (x2 : Int32), ∀ σ : Mem, k4 x1 x2 σ = some res → V G 4 3 X ((some (.int res.1)), res.2) σ [(0, .ref (ga G 4)), (1, .int x1), (2, .int x2)] [] 4) → ∀ (x1 : Int32), ∀ (x2 : Int32), ∀ σ : Mem, p_X4_greatest_B4 k4  x1 x2 σ = some res → V G 4 3 X ((some (.int res.1)), res.2) σ [(0, .ref (ga G 4)), (1, .int x1), (2, .int x2)] [] 4 := by
    intro k4 hk4 x1 x2 σ h
    unfold p_X4_greatest_B4 at h
    refine v_blk hC (is := [(.iload_n 2, 0), (.iconst 1, (1 : Int32)), (.aload_n 0, 0)]) (pc' := 7) (ls' := [(0, .ref (ga G 4)), (1, .int x1), (2, .int x2)]) (st' := [.ref (ga G 4), .int (1 : Int32), .int x2]) (by decide +kernel) rfl ?_
    refine gX4_4 hC lfX4_30 (by decide +kernel) h (fun v1 h => ?_)
    refine v_blk hC (is := [(.ishl, 0)]) (pc' := 11) (ls' := [(0, .ref (ga G 4)), (1, .int x1), (2, .int x2)]) (st' := [.int ((1 : Int32) <<< (v1 &&& 31)), .int x2]) (by decide +kernel) rfl ?_
    refine v_icmp_ge hC (off := 30) (tgt := 41) (by decide +kernel) (by decide) h (fun hq h => ?_) (fun hq h => ?_)
    · refine v_blk hC (is := [(.iload_n 1, 0)]) (pc' := 42) (ls' := [(0, .ref (ga G 4)), (1, .int x1), (2, .int x2)]) (st' := [.int x1]) (by decide +kernel) rfl ?_
      exact v_iret hC h (by decide +kernel)
    · refine v_blk hC (is := [(.iload_n 2, 0)]) (pc' := 15) (ls' := [(0, .ref (ga G 4)), (1, .int x1), (2, .int x2)]) (st' := [.int x2]) (by decide +kernel) rfl ?_
      obtain ⟨v2, s3, e4, h⟩ := bndI h
      refine v_cS (idx := 49) hC ⟨tt_at 620 (by decide +kernel) rfl, tsJ6_bitCount_0f7a4, tnJ6_bitCount_0f7a4, tcJ6_bitCount_0f7a4, tmJ6_bitCount_0f7a4⟩ (c_J6_bitCount_0f7a4 e4) (by decide) (by decide) (by decide +kernel) (rest := []) rfl rfl (Nat.le_of_ble_eq_true rfl) rfl ?_
      refine v_blk hC (is := [(.iload_n 1, 0)]) (pc' := 19) (ls' := [(0, .ref (ga G 4)), (1, .int x1), (2, .int x2)]) (st' := [.int x1, .int v2]) (by decide +kernel) rfl ?_
      obtain ⟨v5, s6, e7, h⟩ := bndI h
      refine v_cS (idx := 49) hC ⟨tt_at 620 (by decide +kernel) rfl, tsJ6_bitCount_0f7a4, tnJ6_bitCount_0f7a4, tcJ6_bitCount_0f7a4, tmJ6_bitCount_0f7a4⟩ (c_J6_bitCount_0f7a4 e7) (by decide) (by decide) (by decide +kernel) (rest := [.int v2]) rfl rfl (Nat.le_of_ble_eq_true rfl) rfl ?_
      refine v_icmp_le hC (off := 13) (tgt := 35) (by decide +kernel) (by decide) h (fun hq h => ?_) (fun hq h => ?_)
      · exact (hB35 _ hk4) _ _ _ h
      · refine v_blk hC (is := [(.aload_n 0, 0), (.iload_n 2, 0)]) (pc' := 27) (ls' := [(0, .ref (ga G 4)), (1, .int x1), (2, .int x2)]) (st' := [.int x2, .ref (ga G 4)]) (by decide +kernel) rfl ?_
        obtain ⟨v8, s9, e10, h⟩ := bndI h
        refine v_cV (idx := 55) hC ⟨tt_at 621 (by decide +kernel) rfl, tiX4_isCrew, tvX4_isCrew, tnX4_isCrew, tcX4_isCrew, tmX4_isCrew⟩ isO_X4 rfl (c_X4_isCrew e10) (by decide) (by decide) (by decide +kernel) (rest := []) rfl rfl (Nat.le_of_ble_eq_true rfl) rfl ?_
        refine v_if_eq hC (off := 5) (tgt := 35) (by decide +kernel) (by decide) h (fun hq h => ?_) (fun hq h => ?_)
        · exact (hB35 _ hk4) _ _ _ h
        · refine v_blk hC (is := [(.iload_n 2, 0), (.istore_n 1, 0)]) (pc' := 35) (ls' := [(1, .int x2), (0, .ref (ga G 4)), (2, .int x2)]) (st' := []) (by decide +kernel) rfl ?_
          refine v_sub [1, 0, 2] (ls' := [(0, .ref (ga G 4)), (1, .int x2), (2, .int x2)]) rfl ?_
          exact (hB35 _ hk4) _ _ _ h
  have hL4 : ∀ f : Nat, ∀ (x1 : Int32), ∀ (x2 : Int32), ∀ σ : Mem, p_X4_greatest_L4  f x1 x2 σ = some res → V G 4 3 X ((some (.int res.1)), res.2) σ [(0, .ref (ga G 4)), (1, .int x1), (2, .int x2)] [] 4 := by
    intro  f
    induction f with
    | zero => intro x1 x2 σ h; exact none_some h
    | succ f ih => intro x1 x2 σ h; exact hB4 (p_X4_greatest_L4  f)  ih  x1 x2 σ h
  unfold p_X4_greatest at h
  show V G 4 3 X ((some (.int res.1)), res.2) σ [(0, .ref (ga G 4))] [] 0
  refine v_blk hC (is := [(.iconst 0, (0 : Int32)), (.istore_n 1, 0), (.iconst 1, (1 : Int32)), (.istore_n 2, 0)]) (pc' := 4) (ls' := [(2, .int (1 : Int32)), (1, .int (0 : Int32)), (0, .ref (ga G 4))]) (st' := []) (by decide +kernel) rfl ?_
  refine v_sub [2, 1, 0] (ls' := [(0, .ref (ga G 4)), (1, .int (0 : Int32)), (2, .int (1 : Int32))]) rfl ?_
  exact (hL4 1000) _ _ _ h

def p_X4_mostSkilled_B60 (k9 : Int32 → Int32 → Int32 → Mem → Option (Int32 × Mem)) (x1 : Nat) (x2 : Int32) (x3 : Int32) (x4 : Int32) (x5 : Int32) (σ : Mem) : Option (Int32 × Mem) := k9 x3 x4 (x5 + (1 : Int32)) σ
def p_X4_mostSkilled_B9 (k9 : Int32 → Int32 → Int32 → Mem → Option (Int32 × Mem)) (x1 : Nat) (x2 : Int32) (x3 : Int32) (x4 : Int32) (x5 : Int32) (σ : Mem) : Option (Int32 × Mem) := (lt (σ 4 4) fun v1 => (if ((1 : Int32) <<< (v1 &&& 31)) ≤ x5 then some (x3, σ) else (bnd (p_J6_bitCount_0f7a4 x5 σ) fun v2 s3 => (if v2 = x2 then (bnd (p_X4_isCrew x5 s3) fun v5 s6 => (if v5 = 0 then (p_X4_mostSkilled_B60 k9 x1 x2) x3 x4 x5 s6 else (bnd (p_X3_skillOf x1 x5 s6) fun v8 s9 => (if v8 ≤ x4 then (p_X4_mostSkilled_B60 k9 x1 x2) x3 x4 x5 s9 else (bnd (p_X3_skillOf x1 x5 s9) fun v11 s12 => (p_X4_mostSkilled_B60 k9 x1 x2) x5 v11 x5 s12))))) else (p_X4_mostSkilled_B60 k9 x1 x2) x3 x4 x5 s3))))
def p_X4_mostSkilled_L9  (x1 : Nat) (x2 : Int32) : Nat → Int32 → Int32 → Int32 → Mem → Option (Int32 × Mem)
  | 0 => fun _ _ _ _ => none
  | f + 1 => p_X4_mostSkilled_B9 (p_X4_mostSkilled_L9 x1 x2 f) x1 x2
def p_X4_mostSkilled (x1 : Nat) (x2 : Int32) (σ : Mem) : Option (Int32 × Mem) := (p_X4_mostSkilled_L9 x1 x2 1000) (-4 : Int32) (-1 : Int32) (0 : Int32) σ
set_option maxHeartbeats 4000000 in
set_option maxRecDepth 100000 in
theorem c_X4_mostSkilled {G : Gl} {x1 : Nat} {x2 : Int32} {σ : Mem} {res : Int32 × Mem} (hx1 : isCape x1) (h : p_X4_mostSkilled x1 x2 σ = some res) : MetX G yX4_mostSkilled cX4_mostSkilled 6 (some .int) 5 [.ref (ga G 4), .ref (ga G x1), .int x2] σ (some (.int res.1)) res.2 := by
  refine met_V (by decide +kernel) (Nat.le_of_ble_eq_true rfl) (fun X hC => ?_)
  have hC : Ok G 5 6 X cX4_mostSkilled RX4 (some .int) := hC
  have hB60 : ∀ (k9 : Int32 → Int32 → Int32 → Mem → Option (Int32 × Mem)), (∀ (x3 : Int32), ∀ (x4 : Int32), ∀ (x5 : Int32), ∀ σ : Mem, k9 x3 x4 x5 σ = some res → V G 5 6 X ((some (.int res.1)), res.2) σ [(0, .ref (ga G 4)), (1, .ref (ga G x1)), (2, .int x2), (3, .int x3), (4, .int x4), (5, .int x5)] [] 9) → ∀ (x3 : Int32), ∀ (x4 : Int32), ∀ (x5 : Int32), ∀ σ : Mem, p_X4_mostSkilled_B60 k9 x1 x2 x3 x4 x5 σ = some res → V G 5 6 X ((some (.int res.1)), res.2) σ [(0, .ref (ga G 4)), (1, .ref (ga G x1)), (2, .int x2), (3, .int x3), (4, .int x4), (5, .int x5)] [] 60 := by
    intro k9 hk9 x3 x4 x5 σ h
    unfold p_X4_mostSkilled_B60 at h
    refine v_blk hC (is := [(.iinc 5 1, (1 : Int32))]) (pc' := 63) (ls' := [(5, .int (x5 + (1 : Int32))), (0, .ref (ga G 4)), (1, .ref (ga G x1)), (2, .int x2), (3, .int x3), (4, .int x4)]) (st' := []) (by decide +kernel) rfl ?_
    refine v_goto hC (off := (-54)) (tgt := 9) (by decide +kernel) (by decide) ?_
    refine v_sub [1, 2, 3, 4, 5, 0] (ls' := [(0, .ref (ga G 4)), (1, .ref (ga G x1)), (2, .int x2), (3, .int x3), (4, .int x4), (5, .int (x5 + (1 : Int32)))]) rfl ?_
    exact hk9 _ _ _ _ h
  have hB9 : ∀ (k9 : Int32 → Int32 → Int32 → Mem → Option (Int32 × Mem)), (∀ (x3 : Int32), ∀ (x4 : Int32), ∀ (x5 : Int32), ∀ σ : Mem, k9 x3 x4 x5 σ = some res → V G 5 6 X ((some (.int res.1)), res.2) σ [(0, .ref (ga G 4)), (1, .ref (ga G x1)), (2, .int x2), (3, .int x3), (4, .int x4), (5, .int x5)] [] 9) → ∀ (x3 : Int32), ∀ (x4 : Int32), ∀ (x5 : Int32), ∀ σ : Mem, p_X4_mostSkilled_B9 k9 x1 x2 x3 x4 x5 σ = some res → V G 5 6 X ((some (.int res.1)), res.2) σ [(0, .ref (ga G 4)), (1, .ref (ga G x1)), (2, .int x2), (3, .int x3), (4, .int x4), (5, .int x5)] [] 9 := by
    intro k9 hk9 x3 x4 x5 σ h
    unfold p_X4_mostSkilled_B9 at h
    refine v_blk hC (is := [(.iload 5, 0), (.iconst 1, (1 : Int32)), (.aload_n 0, 0)]) (pc' := 13) (ls' := [(0, .ref (ga G 4)), (1, .ref (ga G x1)), (2, .int x2), (3, .int x3), (4, .int x4), (5, .int x5)]) (st' := [.ref (ga G 4), .int (1 : Int32), .int x5]) (by decide +kernel) rfl ?_
    refine gX4_4 hC lfX4_30 (by decide +kernel) h (fun v1 h => ?_)
    refine v_blk hC (is := [(.ishl, 0)]) (pc' := 17) (ls' := [(0, .ref (ga G 4)), (1, .ref (ga G x1)), (2, .int x2), (3, .int x3), (4, .int x4), (5, .int x5)]) (st' := [.int ((1 : Int32) <<< (v1 &&& 31)), .int x5]) (by decide +kernel) rfl ?_
    refine v_icmp_ge hC (off := 49) (tgt := 66) (by decide +kernel) (by decide) h (fun hq h => ?_) (fun hq h => ?_)
    · refine v_blk hC (is := [(.iload_n 3, 0)]) (pc' := 67) (ls' := [(0, .ref (ga G 4)), (1, .ref (ga G x1)), (2, .int x2), (3, .int x3), (4, .int x4), (5, .int x5)]) (st' := [.int x3]) (by decide +kernel) rfl ?_
      exact v_iret hC h (by decide +kernel)
    · refine v_blk hC (is := [(.iload 5, 0)]) (pc' := 22) (ls' := [(0, .ref (ga G 4)), (1, .ref (ga G x1)), (2, .int x2), (3, .int x3), (4, .int x4), (5, .int x5)]) (st' := [.int x5]) (by decide +kernel) rfl ?_
      obtain ⟨v2, s3, e4, h⟩ := bndI h
      refine v_cS (idx := 49) hC ⟨tt_at 620 (by decide +kernel) rfl, tsJ6_bitCount_0f7a4, tnJ6_bitCount_0f7a4, tcJ6_bitCount_0f7a4, tmJ6_bitCount_0f7a4⟩ (c_J6_bitCount_0f7a4 e4) (by decide) (by decide) (by decide +kernel) (rest := []) rfl rfl (Nat.le_of_ble_eq_true rfl) rfl ?_
      refine v_blk hC (is := [(.iload_n 2, 0)]) (pc' := 26) (ls' := [(0, .ref (ga G 4)), (1, .ref (ga G x1)), (2, .int x2), (3, .int x3), (4, .int x4), (5, .int x5)]) (st' := [.int x2, .int v2]) (by decide +kernel) rfl ?_
      refine v_icmp_ne hC (off := 34) (tgt := 60) (by decide +kernel) (by decide) h (fun hq h => ?_) (fun hq h => ?_)
      · exact (hB60 _ hk9) _ _ _ _ h
      · refine v_blk hC (is := [(.aload_n 0, 0), (.iload 5, 0)]) (pc' := 32) (ls' := [(0, .ref (ga G 4)), (1, .ref (ga G x1)), (2, .int x2), (3, .int x3), (4, .int x4), (5, .int x5)]) (st' := [.int x5, .ref (ga G 4)]) (by decide +kernel) rfl ?_
        obtain ⟨v5, s6, e7, h⟩ := bndI h
        refine v_cV (idx := 55) hC ⟨tt_at 621 (by decide +kernel) rfl, tiX4_isCrew, tvX4_isCrew, tnX4_isCrew, tcX4_isCrew, tmX4_isCrew⟩ isO_X4 rfl (c_X4_isCrew e7) (by decide) (by decide) (by decide +kernel) (rest := []) rfl rfl (Nat.le_of_ble_eq_true rfl) rfl ?_
        refine v_if_eq hC (off := 25) (tgt := 60) (by decide +kernel) (by decide) h (fun hq h => ?_) (fun hq h => ?_)
        · exact (hB60 _ hk9) _ _ _ _ h
        · refine v_blk hC (is := [(.aload_n 1, 0), (.iload 5, 0)]) (pc' := 41) (ls' := [(0, .ref (ga G 4)), (1, .ref (ga G x1)), (2, .int x2), (3, .int x3), (4, .int x4), (5, .int x5)]) (st' := [.int x5, .ref (ga G x1)]) (by decide +kernel) rfl ?_
          obtain ⟨v8, s9, e10, h⟩ := bndI h
          refine v_cVN (idx := 58) hC ⟨List.mem_of_getElem? (i := 48) (by decide +kernel), tiX3_skillOf, tvX3_skillOf, tnX3_skillOf, tcX3_skillOf, tmX3_skillOf⟩ (isO_X3 hx1) rfl (c_X3_skillOf hx1 e10) (by decide) (by decide) (by decide +kernel) (rest := []) rfl rfl (Nat.le_of_ble_eq_true rfl) rfl ?_
          refine v_blk hC (is := [(.iload 4, 0)]) (pc' := 46) (ls' := [(0, .ref (ga G 4)), (1, .ref (ga G x1)), (2, .int x2), (3, .int x3), (4, .int x4), (5, .int x5)]) (st' := [.int x4, .int v8]) (by decide +kernel) rfl ?_
          refine v_icmp_le hC (off := 14) (tgt := 60) (by decide +kernel) (by decide) h (fun hq h => ?_) (fun hq h => ?_)
          · exact (hB60 _ hk9) _ _ _ _ h
          · refine v_blk hC (is := [(.iload 5, 0), (.istore_n 3, 0), (.aload_n 1, 0), (.iload 5, 0)]) (pc' := 55) (ls' := [(3, .int x5), (0, .ref (ga G 4)), (1, .ref (ga G x1)), (2, .int x2), (4, .int x4), (5, .int x5)]) (st' := [.int x5, .ref (ga G x1)]) (by decide +kernel) rfl ?_
            obtain ⟨v11, s12, e13, h⟩ := bndI h
            refine v_cVN (idx := 58) hC ⟨List.mem_of_getElem? (i := 48) (by decide +kernel), tiX3_skillOf, tvX3_skillOf, tnX3_skillOf, tcX3_skillOf, tmX3_skillOf⟩ (isO_X3 hx1) rfl (c_X3_skillOf hx1 e13) (by decide) (by decide) (by decide +kernel) (rest := []) rfl rfl (Nat.le_of_ble_eq_true rfl) rfl ?_
            refine v_blk hC (is := [(.istore 4, 0)]) (pc' := 60) (ls' := [(4, .int v11), (3, .int x5), (0, .ref (ga G 4)), (1, .ref (ga G x1)), (2, .int x2), (5, .int x5)]) (st' := []) (by decide +kernel) rfl ?_
            refine v_sub [2, 3, 4, 1, 0, 5] (ls' := [(0, .ref (ga G 4)), (1, .ref (ga G x1)), (2, .int x2), (3, .int x5), (4, .int v11), (5, .int x5)]) rfl ?_
            exact (hB60 _ hk9) _ _ _ _ h
  have hL9 : ∀ f : Nat, ∀ (x3 : Int32), ∀ (x4 : Int32), ∀ (x5 : Int32), ∀ σ : Mem, p_X4_mostSkilled_L9 x1 x2 f x3 x4 x5 σ = some res → V G 5 6 X ((some (.int res.1)), res.2) σ [(0, .ref (ga G 4)), (1, .ref (ga G x1)), (2, .int x2), (3, .int x3), (4, .int x4), (5, .int x5)] [] 9 := by
    intro  f
    induction f with
    | zero => intro x3 x4 x5 σ h; exact none_some h
    | succ f ih => intro x3 x4 x5 σ h; exact hB9 (p_X4_mostSkilled_L9 x1 x2 f)  ih  x3 x4 x5 σ h
  unfold p_X4_mostSkilled at h
  show V G 5 6 X ((some (.int res.1)), res.2) σ [(0, .ref (ga G 4)), (1, .ref (ga G x1)), (2, .int x2)] [] 0
  refine v_blk hC (is := [(.bipush (-4), (-4 : Int32)), (.istore_n 3, 0), (.iconst (-1), (-1 : Int32)), (.istore 4, 0), (.iconst 0, (0 : Int32)), (.istore 5, 0)]) (pc' := 9) (ls' := [(5, .int (0 : Int32)), (4, .int (-1 : Int32)), (3, .int (-4 : Int32)), (0, .ref (ga G 4)), (1, .ref (ga G x1)), (2, .int x2)]) (st' := []) (by decide +kernel) rfl ?_
  refine v_sub [3, 4, 5, 2, 1, 0] (ls' := [(0, .ref (ga G 4)), (1, .ref (ga G x1)), (2, .int x2), (3, .int (-4 : Int32)), (4, .int (-1 : Int32)), (5, .int (0 : Int32))]) rfl ?_
  exact (hL9 1000) _ _ _ _ h

def p_X4_leastPaid_B62 (k10 : Int32 → Int32 → Int32 → Mem → Option (Int32 × Mem)) (x1 : Nat) (x2 : Int32) (x3 : Int32) (x4 : Int32) (x5 : Int32) (σ : Mem) : Option (Int32 × Mem) := k10 x3 x4 (x5 + (1 : Int32)) σ
def p_X4_leastPaid_B10 (k10 : Int32 → Int32 → Int32 → Mem → Option (Int32 × Mem)) (x1 : Nat) (x2 : Int32) (x3 : Int32) (x4 : Int32) (x5 : Int32) (σ : Mem) : Option (Int32 × Mem) := (lt (σ 4 4) fun v1 => (if ((1 : Int32) <<< (v1 &&& 31)) ≤ x5 then some (x3, σ) else (bnd (p_X4_isCrew x5 σ) fun v2 s3 => (if v2 = 0 then (p_X4_leastPaid_B62 k10 x1 x2) x3 x4 x5 s3 else (bnd (p_X3_skillOf x1 x5 s3) fun v5 s6 => (if v5 < x2 then (p_X4_leastPaid_B62 k10 x1 x2) x3 x4 x5 s6 else (bnd (p_X3_payOf x1 x5 s6) fun v8 s9 => (if x4 ≤ v8 then (p_X4_leastPaid_B62 k10 x1 x2) x3 x4 x5 s9 else (bnd (p_X3_payOf x1 x5 s9) fun v11 s12 => (p_X4_leastPaid_B62 k10 x1 x2) x5 v11 x5 s12)))))))))
def p_X4_leastPaid_L10  (x1 : Nat) (x2 : Int32) : Nat → Int32 → Int32 → Int32 → Mem → Option (Int32 × Mem)
  | 0 => fun _ _ _ _ => none
  | f + 1 => p_X4_leastPaid_B10 (p_X4_leastPaid_L10 x1 x2 f) x1 x2
def p_X4_leastPaid (x1 : Nat) (x2 : Int32) (σ : Mem) : Option (Int32 × Mem) := (p_X4_leastPaid_L10 x1 x2 1000) (-4 : Int32) (2147483647 : Int32) (0 : Int32) σ
set_option maxHeartbeats 4000000 in
set_option maxRecDepth 100000 in
theorem c_X4_leastPaid {G : Gl} {x1 : Nat} {x2 : Int32} {σ : Mem} {res : Int32 × Mem} (hx1 : isCape x1) (h : p_X4_leastPaid x1 x2 σ = some res) : MetX G yX4_leastPaid cX4_leastPaid 6 (some .int) 5 [.ref (ga G 4), .ref (ga G x1), .int x2] σ (some (.int res.1)) res.2 := by
  refine met_V (by decide +kernel) (Nat.le_of_ble_eq_true rfl) (fun X hC => ?_)
  have hC : Ok G 5 6 X cX4_leastPaid RX4 (some .int) := hC
  have hB62 : ∀ (k10 : Int32 → Int32 → Int32 → Mem → Option (Int32 × Mem)), (∀ (x3 : Int32), ∀ (x4 : Int32), ∀ (x5 : Int32), ∀ σ : Mem, k10 x3 x4 x5 σ = some res → V G 5 6 X ((some (.int res.1)), res.2) σ [(0, .ref (ga G 4)), (1, .ref (ga G x1)), (2, .int x2), (3, .int x3), (4, .int x4), (5, .int x5)] [] 10) → ∀ (x3 : Int32), ∀ (x4 : Int32), ∀ (x5 : Int32), ∀ σ : Mem, p_X4_leastPaid_B62 k10 x1 x2 x3 x4 x5 σ = some res → V G 5 6 X ((some (.int res.1)), res.2) σ [(0, .ref (ga G 4)), (1, .ref (ga G x1)), (2, .int x2), (3, .int x3), (4, .int x4), (5, .int x5)] [] 62 := by
    intro k10 hk10 x3 x4 x5 σ h
    unfold p_X4_leastPaid_B62 at h
    refine v_blk hC (is := [(.iinc 5 1, (1 : Int32))]) (pc' := 65) (ls' := [(5, .int (x5 + (1 : Int32))), (0, .ref (ga G 4)), (1, .ref (ga G x1)), (2, .int x2), (3, .int x3), (4, .int x4)]) (st' := []) (by decide +kernel) rfl ?_
    refine v_goto hC (off := (-55)) (tgt := 10) (by decide +kernel) (by decide) ?_
    refine v_sub [1, 2, 3, 4, 5, 0] (ls' := [(0, .ref (ga G 4)), (1, .ref (ga G x1)), (2, .int x2), (3, .int x3), (4, .int x4), (5, .int (x5 + (1 : Int32)))]) rfl ?_
    exact hk10 _ _ _ _ h
  have hB10 : ∀ (k10 : Int32 → Int32 → Int32 → Mem → Option (Int32 × Mem)), (∀ (x3 : Int32), ∀ (x4 : Int32), ∀ (x5 : Int32), ∀ σ : Mem, k10 x3 x4 x5 σ = some res → V G 5 6 X ((some (.int res.1)), res.2) σ [(0, .ref (ga G 4)), (1, .ref (ga G x1)), (2, .int x2), (3, .int x3), (4, .int x4), (5, .int x5)] [] 10) → ∀ (x3 : Int32), ∀ (x4 : Int32), ∀ (x5 : Int32), ∀ σ : Mem, p_X4_leastPaid_B10 k10 x1 x2 x3 x4 x5 σ = some res → V G 5 6 X ((some (.int res.1)), res.2) σ [(0, .ref (ga G 4)), (1, .ref (ga G x1)), (2, .int x2), (3, .int x3), (4, .int x4), (5, .int x5)] [] 10 := by
    intro k10 hk10 x3 x4 x5 σ h
    unfold p_X4_leastPaid_B10 at h
    refine v_blk hC (is := [(.iload 5, 0), (.iconst 1, (1 : Int32)), (.aload_n 0, 0)]) (pc' := 14) (ls' := [(0, .ref (ga G 4)), (1, .ref (ga G x1)), (2, .int x2), (3, .int x3), (4, .int x4), (5, .int x5)]) (st' := [.ref (ga G 4), .int (1 : Int32), .int x5]) (by decide +kernel) rfl ?_
    refine gX4_4 hC lfX4_30 (by decide +kernel) h (fun v1 h => ?_)
    refine v_blk hC (is := [(.ishl, 0)]) (pc' := 18) (ls' := [(0, .ref (ga G 4)), (1, .ref (ga G x1)), (2, .int x2), (3, .int x3), (4, .int x4), (5, .int x5)]) (st' := [.int ((1 : Int32) <<< (v1 &&& 31)), .int x5]) (by decide +kernel) rfl ?_
    refine v_icmp_ge hC (off := 50) (tgt := 68) (by decide +kernel) (by decide) h (fun hq h => ?_) (fun hq h => ?_)
    · refine v_blk hC (is := [(.iload_n 3, 0)]) (pc' := 69) (ls' := [(0, .ref (ga G 4)), (1, .ref (ga G x1)), (2, .int x2), (3, .int x3), (4, .int x4), (5, .int x5)]) (st' := [.int x3]) (by decide +kernel) rfl ?_
      exact v_iret hC h (by decide +kernel)
    · refine v_blk hC (is := [(.aload_n 0, 0), (.iload 5, 0)]) (pc' := 24) (ls' := [(0, .ref (ga G 4)), (1, .ref (ga G x1)), (2, .int x2), (3, .int x3), (4, .int x4), (5, .int x5)]) (st' := [.int x5, .ref (ga G 4)]) (by decide +kernel) rfl ?_
      obtain ⟨v2, s3, e4, h⟩ := bndI h
      refine v_cV (idx := 55) hC ⟨tt_at 621 (by decide +kernel) rfl, tiX4_isCrew, tvX4_isCrew, tnX4_isCrew, tcX4_isCrew, tmX4_isCrew⟩ isO_X4 rfl (c_X4_isCrew e4) (by decide) (by decide) (by decide +kernel) (rest := []) rfl rfl (Nat.le_of_ble_eq_true rfl) rfl ?_
      refine v_if_eq hC (off := 35) (tgt := 62) (by decide +kernel) (by decide) h (fun hq h => ?_) (fun hq h => ?_)
      · exact (hB62 _ hk10) _ _ _ _ h
      · refine v_blk hC (is := [(.aload_n 1, 0), (.iload 5, 0)]) (pc' := 33) (ls' := [(0, .ref (ga G 4)), (1, .ref (ga G x1)), (2, .int x2), (3, .int x3), (4, .int x4), (5, .int x5)]) (st' := [.int x5, .ref (ga G x1)]) (by decide +kernel) rfl ?_
        obtain ⟨v5, s6, e7, h⟩ := bndI h
        refine v_cVN (idx := 58) hC ⟨List.mem_of_getElem? (i := 48) (by decide +kernel), tiX3_skillOf, tvX3_skillOf, tnX3_skillOf, tcX3_skillOf, tmX3_skillOf⟩ (isO_X3 hx1) rfl (c_X3_skillOf hx1 e7) (by decide) (by decide) (by decide +kernel) (rest := []) rfl rfl (Nat.le_of_ble_eq_true rfl) rfl ?_
        refine v_blk hC (is := [(.iload_n 2, 0)]) (pc' := 37) (ls' := [(0, .ref (ga G 4)), (1, .ref (ga G x1)), (2, .int x2), (3, .int x3), (4, .int x4), (5, .int x5)]) (st' := [.int x2, .int v5]) (by decide +kernel) rfl ?_
        refine v_icmp_lt hC (off := 25) (tgt := 62) (by decide +kernel) (by decide) h (fun hq h => ?_) (fun hq h => ?_)
        · exact (hB62 _ hk10) _ _ _ _ h
        · refine v_blk hC (is := [(.aload_n 1, 0), (.iload 5, 0)]) (pc' := 43) (ls' := [(0, .ref (ga G 4)), (1, .ref (ga G x1)), (2, .int x2), (3, .int x3), (4, .int x4), (5, .int x5)]) (st' := [.int x5, .ref (ga G x1)]) (by decide +kernel) rfl ?_
          obtain ⟨v8, s9, e10, h⟩ := bndI h
          refine v_cVN (idx := 62) hC ⟨List.mem_of_getElem? (i := 51) (by decide +kernel), tiX3_payOf, tvX3_payOf, tnX3_payOf, tcX3_payOf, tmX3_payOf⟩ (isO_X3 hx1) rfl (c_X3_payOf hx1 e10) (by decide) (by decide) (by decide +kernel) (rest := []) rfl rfl (Nat.le_of_ble_eq_true rfl) rfl ?_
          refine v_blk hC (is := [(.iload 4, 0)]) (pc' := 48) (ls' := [(0, .ref (ga G 4)), (1, .ref (ga G x1)), (2, .int x2), (3, .int x3), (4, .int x4), (5, .int x5)]) (st' := [.int x4, .int v8]) (by decide +kernel) rfl ?_
          refine v_icmp_ge hC (off := 14) (tgt := 62) (by decide +kernel) (by decide) h (fun hq h => ?_) (fun hq h => ?_)
          · exact (hB62 _ hk10) _ _ _ _ h
          · refine v_blk hC (is := [(.iload 5, 0), (.istore_n 3, 0), (.aload_n 1, 0), (.iload 5, 0)]) (pc' := 57) (ls' := [(3, .int x5), (0, .ref (ga G 4)), (1, .ref (ga G x1)), (2, .int x2), (4, .int x4), (5, .int x5)]) (st' := [.int x5, .ref (ga G x1)]) (by decide +kernel) rfl ?_
            obtain ⟨v11, s12, e13, h⟩ := bndI h
            refine v_cVN (idx := 62) hC ⟨List.mem_of_getElem? (i := 51) (by decide +kernel), tiX3_payOf, tvX3_payOf, tnX3_payOf, tcX3_payOf, tmX3_payOf⟩ (isO_X3 hx1) rfl (c_X3_payOf hx1 e13) (by decide) (by decide) (by decide +kernel) (rest := []) rfl rfl (Nat.le_of_ble_eq_true rfl) rfl ?_
            refine v_blk hC (is := [(.istore 4, 0)]) (pc' := 62) (ls' := [(4, .int v11), (3, .int x5), (0, .ref (ga G 4)), (1, .ref (ga G x1)), (2, .int x2), (5, .int x5)]) (st' := []) (by decide +kernel) rfl ?_
            refine v_sub [2, 3, 4, 1, 0, 5] (ls' := [(0, .ref (ga G 4)), (1, .ref (ga G x1)), (2, .int x2), (3, .int x5), (4, .int v11), (5, .int x5)]) rfl ?_
            exact (hB62 _ hk10) _ _ _ _ h
  have hL10 : ∀ f : Nat, ∀ (x3 : Int32), ∀ (x4 : Int32), ∀ (x5 : Int32), ∀ σ : Mem, p_X4_leastPaid_L10 x1 x2 f x3 x4 x5 σ = some res → V G 5 6 X ((some (.int res.1)), res.2) σ [(0, .ref (ga G 4)), (1, .ref (ga G x1)), (2, .int x2), (3, .int x3), (4, .int x4), (5, .int x5)] [] 10 := by
    intro  f
    induction f with
    | zero => intro x3 x4 x5 σ h; exact none_some h
    | succ f ih => intro x3 x4 x5 σ h; exact hB10 (p_X4_leastPaid_L10 x1 x2 f)  ih  x3 x4 x5 σ h
  unfold p_X4_leastPaid at h
  show V G 5 6 X ((some (.int res.1)), res.2) σ [(0, .ref (ga G 4)), (1, .ref (ga G x1)), (2, .int x2)] [] 0
  refine v_blk hC (is := [(.bipush (-4), (-4 : Int32)), (.istore_n 3, 0)]) (pc' := 3) (ls' := [(3, .int (-4 : Int32)), (0, .ref (ga G 4)), (1, .ref (ga G x1)), (2, .int x2)]) (st' := []) (by decide +kernel) rfl ?_
  refine v_ldc hC (idx := 61) (v := (2147483647 : Int32)) (tt_at 675 (by decide +kernel) rfl) (by decide +kernel) ?_
  refine v_blk hC (is := [(.istore 4, 0), (.iconst 0, (0 : Int32)), (.istore 5, 0)]) (pc' := 10) (ls' := [(5, .int (0 : Int32)), (4, .int (2147483647 : Int32)), (3, .int (-4 : Int32)), (0, .ref (ga G 4)), (1, .ref (ga G x1)), (2, .int x2)]) (st' := []) (by decide +kernel) rfl ?_
  refine v_sub [3, 4, 5, 2, 1, 0] (ls' := [(0, .ref (ga G 4)), (1, .ref (ga G x1)), (2, .int x2), (3, .int (-4 : Int32)), (4, .int (2147483647 : Int32)), (5, .int (0 : Int32))]) rfl ?_
  exact (hL10 1000) _ _ _ _ h

def p_X4_enters (x1 : Int32) (x2 : Int32) (x3 : Int32) (σ : Mem) : Option (Unit × Mem) := (if x2 < 0 ∨ 8 ≤ (x2).toNatClampNeg then none else wr σ 38 (x2).toNatClampNeg x1 fun s1 => (if x1 < 0 ∨ 8 ≤ (x1).toNatClampNeg then none else lt (s1 39 (x1).toNatClampNeg) fun v2 => (if x1 < 0 ∨ 8 ≤ (x1).toNatClampNeg then none else wr s1 39 (x1).toNatClampNeg (v2 ^^^ ((1 : Int32) <<< (x2 &&& 31))) fun s3 => (if x1 < 0 ∨ 8 ≤ (x1).toNatClampNeg then none else lt (s3 40 (x1).toNatClampNeg) fun v4 => (if x1 < 0 ∨ 8 ≤ (x1).toNatClampNeg then none else wr s3 40 (x1).toNatClampNeg (v4 - x3) fun s5 => some ((), s5))))))
set_option maxHeartbeats 4000000 in
set_option maxRecDepth 100000 in
theorem c_X4_enters {G : Gl} {x1 : Int32} {x2 : Int32} {x3 : Int32} {σ : Mem} {res : Unit × Mem}  (h : p_X4_enters x1 x2 x3 σ = some res) : MetX G yX4_enters cX4_enters 4 none 1 [.ref (ga G 4), .int x1, .int x2, .int x3] σ none res.2 := by
  refine met_V (by decide +kernel) (Nat.le_of_ble_eq_true rfl) (fun X hC => ?_)
  have hC : Ok G 1 4 X cX4_enters RX4 none := hC
  unfold p_X4_enters at h
  show V G 1 4 X (none, res.2) σ [(0, .ref (ga G 4)), (1, .int x1), (2, .int x2), (3, .int x3)] [] 0
  refine v_blk hC (is := [(.aload_n 0, 0)]) (pc' := 1) (ls' := [(0, .ref (ga G 4)), (1, .int x1), (2, .int x2), (3, .int x3)]) (st' := [.ref (ga G 4)]) (by decide +kernel) rfl ?_
  refine gX4_1 hC lfX4_15 (by decide +kernel) ?_
  refine v_blk hC (is := [(.iload_n 2, 0), (.iload_n 1, 0)]) (pc' := 6) (ls' := [(0, .ref (ga G 4)), (1, .int x1), (2, .int x2), (3, .int x3)]) (st' := [.int x1, .int x2, .ref (ga G 38)]) (by decide +kernel) rfl ?_
  refine v_iast hC isA_38 rfl (by decide +kernel) h (fun s1 h => ?_)
  refine v_blk hC (is := [(.aload_n 0, 0)]) (pc' := 8) (ls' := [(0, .ref (ga G 4)), (1, .int x1), (2, .int x2), (3, .int x3)]) (st' := [.ref (ga G 4)]) (by decide +kernel) rfl ?_
  refine gX4_2 hC lfX4_18 (by decide +kernel) ?_
  refine v_blk hC (is := [(.iload_n 1, 0), (.dup2, 0)]) (pc' := 13) (ls' := [(0, .ref (ga G 4)), (1, .int x1), (2, .int x2), (3, .int x3)]) (st' := [.int x1, .ref (ga G 39), .int x1, .ref (ga G 39)]) (by decide +kernel) rfl ?_
  refine v_iald hC isA_39 rfl (by decide +kernel) h (fun v2 h => ?_)
  refine v_blk hC (is := [(.iconst 1, (1 : Int32)), (.iload_n 2, 0), (.ishl, 0), (.ixor, 0)]) (pc' := 18) (ls' := [(0, .ref (ga G 4)), (1, .int x1), (2, .int x2), (3, .int x3)]) (st' := [.int (v2 ^^^ ((1 : Int32) <<< (x2 &&& 31))), .int x1, .ref (ga G 39)]) (by decide +kernel) rfl ?_
  refine v_iast hC isA_39 rfl (by decide +kernel) h (fun s3 h => ?_)
  refine v_blk hC (is := [(.aload_n 0, 0)]) (pc' := 20) (ls' := [(0, .ref (ga G 4)), (1, .int x1), (2, .int x2), (3, .int x3)]) (st' := [.ref (ga G 4)]) (by decide +kernel) rfl ?_
  refine gX4_3 hC lfX4_21 (by decide +kernel) ?_
  refine v_blk hC (is := [(.iload_n 1, 0), (.dup2, 0)]) (pc' := 25) (ls' := [(0, .ref (ga G 4)), (1, .int x1), (2, .int x2), (3, .int x3)]) (st' := [.int x1, .ref (ga G 40), .int x1, .ref (ga G 40)]) (by decide +kernel) rfl ?_
  refine v_iald hC isA_40 rfl (by decide +kernel) h (fun v4 h => ?_)
  refine v_blk hC (is := [(.iload_n 3, 0), (.isub, 0)]) (pc' := 28) (ls' := [(0, .ref (ga G 4)), (1, .int x1), (2, .int x2), (3, .int x3)]) (st' := [.int (v4 - x3), .int x1, .ref (ga G 40)]) (by decide +kernel) rfl ?_
  refine v_iast hC isA_40 rfl (by decide +kernel) h (fun s5 h => ?_)
  exact v_vret hC h (by decide +kernel)

def p_X4_seats_B126 (k39 : Int32 → Mem → Option (Int32 × Mem)) (rc : Int32 → Mem → Option (Int32 × Mem)) (x1 : Int32) (x2 : Int32) (σ : Mem) : Option (Int32 × Mem) := k39 (x2 + (1 : Int32)) σ
def p_X4_seats_B113 (k39 : Int32 → Mem → Option (Int32 × Mem)) (rc : Int32 → Mem → Option (Int32 × Mem)) (x1 : Int32) (x2 : Int32) (x3 : Int32) (σ : Mem) : Option (Int32 × Mem) := (if x3 = 0 then (p_X4_seats_B126 k39 rc x1) x2 σ else (lt (σ 4 8) fun v1 => (if v1 = 0 then (p_X4_seats_B126 k39 rc x1) x2 σ else some ((0 : Int32), σ))))
def p_X4_seats_B61 (k39 : Int32 → Mem → Option (Int32 × Mem)) (rc : Int32 → Mem → Option (Int32 × Mem)) (x1 : Int32) (x2 : Int32) (t0 : Int32) (σ : Mem) : Option (Int32 × Mem) := (if x2 < 0 ∨ 8 ≤ (x2).toNatClampNeg then none else lt (σ 40 (x2).toNatClampNeg) fun v2 => (if v2 ≤ 0 then (p_X4_seats_B113 k39 rc x1) x2 t0 σ else (if x2 < 0 ∨ 8 ≤ (x2).toNatClampNeg then none else lt (σ 39 (x2).toNatClampNeg) fun v3 => (if x1 < 0 ∨ 8 ≤ (x1).toNatClampNeg then none else lt (σ 37 (x1).toNatClampNeg) fun v4 => (if (v3 &&& v4) = 0 then (bnd (p_X4_enters x2 x1 (1 : Int32) σ) fun (v5 : Unit) s6 => (bnd (rc (x1 + (1 : Int32)) s6) fun v8 s9 => (if v8 = 0 then (bnd (p_X4_enters x2 x1 (-1 : Int32) s9) fun (v11 : Unit) s12 => (p_X4_seats_B113 k39 rc x1) x2 t0 s12) else some ((1 : Int32), s9)))) else (p_X4_seats_B113 k39 rc x1) x2 t0 σ)))))
def p_X4_seats_B39 (k39 : Int32 → Mem → Option (Int32 × Mem)) (k132 : Mem → Option (Int32 × Mem)) (rc : Int32 → Mem → Option (Int32 × Mem)) (x1 : Int32) (x2 : Int32) (σ : Mem) : Option (Int32 × Mem) := (lt (σ 4 6) fun v14 => (if v14 ≤ x2 then k132 σ else (if x2 < 0 ∨ 8 ≤ (x2).toNatClampNeg then none else lt (σ 39 (x2).toNatClampNeg) fun v15 => (if v15 = 0 then (p_X4_seats_B61 k39 rc x1) x2 (1 : Int32) σ else (p_X4_seats_B61 k39 rc x1) x2 (0 : Int32) σ))))
def p_X4_seats_L39 (k132 : Mem → Option (Int32 × Mem)) (rc : Int32 → Mem → Option (Int32 × Mem)) (x1 : Int32) : Nat → Int32 → Mem → Option (Int32 × Mem)
  | 0 => fun _ _ => none
  | f + 1 => p_X4_seats_B39 (p_X4_seats_L39 k132 rc x1 f) k132 rc x1
def p_X4_seats_E (rc : Int32 → Mem → Option (Int32 × Mem)) (x1 : Int32) (σ : Mem) : Option (Int32 × Mem) := (lt (σ 4 4) fun v16 => (if x1 < v16 then (lt (σ 4 5) fun v17 => (bnd (p_X11_holds v17 x1 σ) fun v18 s19 => (if v18 = 0 then (if x1 < 0 ∨ 8 ≤ (x1).toNatClampNeg then none else wr s19 38 (x1).toNatClampNeg (9 : Int32) fun s31 => (bnd (rc (x1 + (1 : Int32)) s31) fun v32 s33 => rz v32 s33)) else (p_X4_seats_L39 (fun  (m21 : Mem) => (lt (m21 4 7) fun v22 => (if v22 ≤ 0 then some ((0 : Int32), m21) else (if x1 < 0 ∨ 8 ≤ (x1).toNatClampNeg then none else wr m21 38 (x1).toNatClampNeg (9 : Int32) fun s23 => (lt (s23 4 7) fun v24 => (wr s23 4 7 (v24 - (1 : Int32)) fun s25 => (bnd (rc (x1 + (1 : Int32)) s25) fun v26 s27 => (if v26 = 0 then (lt (s27 4 7) fun v29 => (wr s27 4 7 (v29 + (1 : Int32)) fun s30 => some ((0 : Int32), s30))) else some ((1 : Int32), s27))))))))) rc x1 1000) (0 : Int32) s19))) else some ((1 : Int32), σ)))
def p_X4_seats : Nat → Int32 → Mem → Option (Int32 × Mem)
  | 0 => fun _ _ => none
  | d + 1 => p_X4_seats_E (p_X4_seats d)
set_option maxHeartbeats 4000000 in
set_option maxRecDepth 100000 in
theorem c_X4_seats {G : Gl} : ∀ (d : Nat) {x1 : Int32} {σ : Mem} {res : Int32 × Mem} , p_X4_seats d x1 σ = some res → MetX G yX4_seats cX4_seats 4 (some .boolean) (2 + d) [.ref (ga G 4), .int x1] σ (some (.int res.1)) res.2 := by
  intro d
  induction d with
  | zero => intro x1 σ res h; exact none_some h
  | succ d ih =>
    intro x1 σ res h
    refine met_V (by decide +kernel) (Nat.le_of_ble_eq_true rfl) (fun X hC => ?_)
    have hC : Ok G (2 + d + 1) 4 X cX4_seats RX4 (some .boolean) := hC
    have hB126 : ∀ (k39 : Int32 → Mem → Option (Int32 × Mem)), (∀ (x2 : Int32), ∀ σ : Mem, k39 x2 σ = some res → V G (2 + d + 1) 4 X ((some (.int res.1)), res.2) σ [(0, .ref (ga G 4)), (1, .int x1), (2, .int x2)] [] 39) → ∀ (x2 : Int32), ∀ σ : Mem, p_X4_seats_B126 k39 (p_X4_seats d) x1 x2 σ = some res → V G (2 + d + 1) 4 X ((some (.int res.1)), res.2) σ [(0, .ref (ga G 4)), (1, .int x1), (2, .int x2)] [] 126 := by
      intro k39 hk39 x2 σ h
      unfold p_X4_seats_B126 at h
      refine v_blk hC (is := [(.iinc 2 1, (1 : Int32))]) (pc' := 129) (ls' := [(2, .int (x2 + (1 : Int32))), (0, .ref (ga G 4)), (1, .int x1)]) (st' := []) (by decide +kernel) rfl ?_
      refine v_goto hC (off := (-90)) (tgt := 39) (by decide +kernel) (by decide) ?_
      refine v_sub [1, 2, 0] (ls' := [(0, .ref (ga G 4)), (1, .int x1), (2, .int (x2 + (1 : Int32)))]) rfl ?_
      exact hk39 _ _ h
    have hB113 : ∀ (k39 : Int32 → Mem → Option (Int32 × Mem)), (∀ (x2 : Int32), ∀ σ : Mem, k39 x2 σ = some res → V G (2 + d + 1) 4 X ((some (.int res.1)), res.2) σ [(0, .ref (ga G 4)), (1, .int x1), (2, .int x2)] [] 39) → ∀ (x2 : Int32), ∀ (x3 : Int32), ∀ σ : Mem, p_X4_seats_B113 k39 (p_X4_seats d) x1 x2 x3 σ = some res → V G (2 + d + 1) 4 X ((some (.int res.1)), res.2) σ [(0, .ref (ga G 4)), (1, .int x1), (2, .int x2), (3, .int x3)] [] 113 := by
      intro k39 hk39 x2 x3 σ h
      unfold p_X4_seats_B113 at h
      refine v_blk hC (is := [(.iload_n 3, 0)]) (pc' := 114) (ls' := [(0, .ref (ga G 4)), (1, .int x1), (2, .int x2), (3, .int x3)]) (st' := [.int x3]) (by decide +kernel) rfl ?_
      refine v_if_eq hC (off := 12) (tgt := 126) (by decide +kernel) (by decide) h (fun hq h => ?_) (fun hq h => ?_)
      · refine v_sub [0, 1, 2] (ls' := [(0, .ref (ga G 4)), (1, .int x1), (2, .int x2)]) rfl ?_
        exact (hB126 _ hk39) _ _ h
      · refine v_blk hC (is := [(.aload_n 0, 0)]) (pc' := 118) (ls' := [(0, .ref (ga G 4)), (1, .int x1), (2, .int x2), (3, .int x3)]) (st' := [.ref (ga G 4)]) (by decide +kernel) rfl ?_
        refine gX4_8 hC lfX4_74 (by decide +kernel) h (fun v1 h => ?_)
        refine v_if_eq hC (off := 5) (tgt := 126) (by decide +kernel) (by decide) h (fun hq h => ?_) (fun hq h => ?_)
        · refine v_sub [0, 1, 2] (ls' := [(0, .ref (ga G 4)), (1, .int x1), (2, .int x2)]) rfl ?_
          exact (hB126 _ hk39) _ _ h
        · refine v_blk hC (is := [(.iconst 0, (0 : Int32))]) (pc' := 125) (ls' := [(0, .ref (ga G 4)), (1, .int x1), (2, .int x2), (3, .int x3)]) (st' := [.int (0 : Int32)]) (by decide +kernel) rfl ?_
          exact v_zret hC rfl h (by decide +kernel)
    have hB61 : ∀ (k39 : Int32 → Mem → Option (Int32 × Mem)), (∀ (x2 : Int32), ∀ σ : Mem, k39 x2 σ = some res → V G (2 + d + 1) 4 X ((some (.int res.1)), res.2) σ [(0, .ref (ga G 4)), (1, .int x1), (2, .int x2)] [] 39) → ∀ (x2 : Int32), ∀ (t0 : Int32), ∀ σ : Mem, p_X4_seats_B61 k39 (p_X4_seats d) x1 x2 t0 σ = some res → V G (2 + d + 1) 4 X ((some (.int res.1)), res.2) σ [(0, .ref (ga G 4)), (1, .int x1), (2, .int x2)] [.int t0] 61 := by
      intro k39 hk39 x2 t0 σ h
      unfold p_X4_seats_B61 at h
      refine v_blk hC (is := [(.istore_n 3, 0), (.aload_n 0, 0)]) (pc' := 63) (ls' := [(3, .int t0), (0, .ref (ga G 4)), (1, .int x1), (2, .int x2)]) (st' := [.ref (ga G 4)]) (by decide +kernel) rfl ?_
      refine gX4_3 hC lfX4_21 (by decide +kernel) ?_
      refine v_blk hC (is := [(.iload_n 2, 0)]) (pc' := 67) (ls' := [(3, .int t0), (0, .ref (ga G 4)), (1, .int x1), (2, .int x2)]) (st' := [.int x2, .ref (ga G 40)]) (by decide +kernel) rfl ?_
      refine v_iald hC isA_40 rfl (by decide +kernel) h (fun v2 h => ?_)
      refine v_if_le hC (off := 45) (tgt := 113) (by decide +kernel) (by decide) h (fun hq h => ?_) (fun hq h => ?_)
      · refine v_sub [1, 2, 3, 0] (ls' := [(0, .ref (ga G 4)), (1, .int x1), (2, .int x2), (3, .int t0)]) rfl ?_
        exact (hB113 _ hk39) _ _ _ h
      · refine v_blk hC (is := [(.aload_n 0, 0)]) (pc' := 72) (ls' := [(3, .int t0), (0, .ref (ga G 4)), (1, .int x1), (2, .int x2)]) (st' := [.ref (ga G 4)]) (by decide +kernel) rfl ?_
        refine gX4_2 hC lfX4_18 (by decide +kernel) ?_
        refine v_blk hC (is := [(.iload_n 2, 0)]) (pc' := 76) (ls' := [(3, .int t0), (0, .ref (ga G 4)), (1, .int x1), (2, .int x2)]) (st' := [.int x2, .ref (ga G 39)]) (by decide +kernel) rfl ?_
        refine v_iald hC isA_39 rfl (by decide +kernel) h (fun v3 h => ?_)
        refine v_blk hC (is := [(.aload_n 0, 0)]) (pc' := 78) (ls' := [(3, .int t0), (0, .ref (ga G 4)), (1, .int x1), (2, .int x2)]) (st' := [.ref (ga G 4), .int v3]) (by decide +kernel) rfl ?_
        refine gX4_0 hC lfX4_9 (by decide +kernel) ?_
        refine v_blk hC (is := [(.iload_n 1, 0)]) (pc' := 82) (ls' := [(3, .int t0), (0, .ref (ga G 4)), (1, .int x1), (2, .int x2)]) (st' := [.int x1, .ref (ga G 37), .int v3]) (by decide +kernel) rfl ?_
        refine v_iald hC isA_37 rfl (by decide +kernel) h (fun v4 h => ?_)
        refine v_blk hC (is := [(.iand, 0)]) (pc' := 84) (ls' := [(3, .int t0), (0, .ref (ga G 4)), (1, .int x1), (2, .int x2)]) (st' := [.int (v3 &&& v4)]) (by decide +kernel) rfl ?_
        refine v_if_ne hC (off := 29) (tgt := 113) (by decide +kernel) (by decide) h (fun hq h => ?_) (fun hq h => ?_)
        · refine v_sub [1, 2, 3, 0] (ls' := [(0, .ref (ga G 4)), (1, .int x1), (2, .int x2), (3, .int t0)]) rfl ?_
          exact (hB113 _ hk39) _ _ _ h
        · refine v_blk hC (is := [(.aload_n 0, 0), (.iload_n 2, 0), (.iload_n 1, 0), (.iconst 1, (1 : Int32))]) (pc' := 91) (ls' := [(3, .int t0), (0, .ref (ga G 4)), (1, .int x1), (2, .int x2)]) (st' := [.int (1 : Int32), .int x1, .int x2, .ref (ga G 4)]) (by decide +kernel) rfl ?_
          obtain ⟨v5, s6, e7, h⟩ := bndI h
          refine v_cV (idx := 85) hC ⟨tt_at 641 (by decide +kernel) rfl, tiX4_enters, tvX4_enters, tnX4_enters, tcX4_enters, tmX4_enters⟩ isO_X4 rfl (c_X4_enters e7) (by omega) (by decide) (by decide +kernel) (rest := []) rfl rfl (Nat.le_of_ble_eq_true rfl) rfl ?_
          refine v_blk hC (is := [(.aload_n 0, 0), (.iload_n 1, 0), (.iconst 1, (1 : Int32)), (.iadd, 0)]) (pc' := 98) (ls' := [(3, .int t0), (0, .ref (ga G 4)), (1, .int x1), (2, .int x2)]) (st' := [.int (x1 + (1 : Int32)), .ref (ga G 4)]) (by decide +kernel) rfl ?_
          obtain ⟨v8, s9, e10, h⟩ := bndI h
          refine v_cS (idx := 81) hC ⟨tt_at 638 (by decide +kernel) rfl, tsX4_seats, tnX4_seats, tcX4_seats, tmX4_seats⟩ (ih e10) (by omega) (by decide) (by decide +kernel) (rest := []) rfl rfl (Nat.le_of_ble_eq_true rfl) rfl ?_
          refine v_if_eq hC (off := 5) (tgt := 106) (by decide +kernel) (by decide) h (fun hq h => ?_) (fun hq h => ?_)
          · refine v_blk hC (is := [(.aload_n 0, 0), (.iload_n 2, 0), (.iload_n 1, 0), (.iconst (-1), (-1 : Int32))]) (pc' := 110) (ls' := [(3, .int t0), (0, .ref (ga G 4)), (1, .int x1), (2, .int x2)]) (st' := [.int (-1 : Int32), .int x1, .int x2, .ref (ga G 4)]) (by decide +kernel) rfl ?_
            obtain ⟨v11, s12, e13, h⟩ := bndI h
            refine v_cV (idx := 85) hC ⟨tt_at 641 (by decide +kernel) rfl, tiX4_enters, tvX4_enters, tnX4_enters, tcX4_enters, tmX4_enters⟩ isO_X4 rfl (c_X4_enters e13) (by omega) (by decide) (by decide +kernel) (rest := []) rfl rfl (Nat.le_of_ble_eq_true rfl) rfl ?_
            refine v_sub [1, 2, 3, 0] (ls' := [(0, .ref (ga G 4)), (1, .int x1), (2, .int x2), (3, .int t0)]) rfl ?_
            exact (hB113 _ hk39) _ _ _ h
          · refine v_blk hC (is := [(.iconst 1, (1 : Int32))]) (pc' := 105) (ls' := [(3, .int t0), (0, .ref (ga G 4)), (1, .int x1), (2, .int x2)]) (st' := [.int (1 : Int32)]) (by decide +kernel) rfl ?_
            exact v_zret hC rfl h (by decide +kernel)
    have hB39 : ∀ (k39 : Int32 → Mem → Option (Int32 × Mem)), ∀ (k132 : Mem → Option (Int32 × Mem)), (∀ (x2 : Int32), ∀ σ : Mem, k39 x2 σ = some res → V G (2 + d + 1) 4 X ((some (.int res.1)), res.2) σ [(0, .ref (ga G 4)), (1, .int x1), (2, .int x2)] [] 39) → (∀ σ : Mem, k132 σ = some res → V G (2 + d + 1) 4 X ((some (.int res.1)), res.2) σ [(0, .ref (ga G 4)), (1, .int x1)] [] 132) → ∀ (x2 : Int32), ∀ σ : Mem, p_X4_seats_B39 k39 k132 (p_X4_seats d) x1 x2 σ = some res → V G (2 + d + 1) 4 X ((some (.int res.1)), res.2) σ [(0, .ref (ga G 4)), (1, .int x1), (2, .int x2)] [] 39 := by
      intro k39 k132 hk39 hk132 x2 σ h
      unfold p_X4_seats_B39 at h
      refine v_blk hC (is := [(.iload_n 2, 0), (.aload_n 0, 0)]) (pc' := 41) (ls' := [(0, .ref (ga G 4)), (1, .int x1), (2, .int x2)]) (st' := [.ref (ga G 4), .int x2]) (by decide +kernel) rfl ?_
      refine gX4_6 hC lfX4_78 (by decide +kernel) h (fun v14 h => ?_)
      refine v_icmp_ge hC (off := 88) (tgt := 132) (by decide +kernel) (by decide) h (fun hq h => ?_) (fun hq h => ?_)
      · refine v_sub [0, 1] (ls' := [(0, .ref (ga G 4)), (1, .int x1)]) rfl ?_
        exact hk132 _ h
      · refine v_blk hC (is := [(.aload_n 0, 0)]) (pc' := 48) (ls' := [(0, .ref (ga G 4)), (1, .int x1), (2, .int x2)]) (st' := [.ref (ga G 4)]) (by decide +kernel) rfl ?_
        refine gX4_2 hC lfX4_18 (by decide +kernel) ?_
        refine v_blk hC (is := [(.iload_n 2, 0)]) (pc' := 52) (ls' := [(0, .ref (ga G 4)), (1, .int x1), (2, .int x2)]) (st' := [.int x2, .ref (ga G 39)]) (by decide +kernel) rfl ?_
        refine v_iald hC isA_39 rfl (by decide +kernel) h (fun v15 h => ?_)
        refine v_if_ne hC (off := 7) (tgt := 60) (by decide +kernel) (by decide) h (fun hq h => ?_) (fun hq h => ?_)
        · refine v_blk hC (is := [(.iconst 0, (0 : Int32))]) (pc' := 61) (ls' := [(0, .ref (ga G 4)), (1, .int x1), (2, .int x2)]) (st' := [.int (0 : Int32)]) (by decide +kernel) rfl ?_
          exact (hB61 _ hk39) _ _ _ h
        · refine v_blk hC (is := [(.iconst 1, (1 : Int32))]) (pc' := 57) (ls' := [(0, .ref (ga G 4)), (1, .int x1), (2, .int x2)]) (st' := [.int (1 : Int32)]) (by decide +kernel) rfl ?_
          refine v_goto hC (off := 4) (tgt := 61) (by decide +kernel) (by decide) ?_
          exact (hB61 _ hk39) _ _ _ h
    have hL39 : ∀ (k132 : Mem → Option (Int32 × Mem)), (∀ σ : Mem, k132 σ = some res → V G (2 + d + 1) 4 X ((some (.int res.1)), res.2) σ [(0, .ref (ga G 4)), (1, .int x1)] [] 132) → ∀ f : Nat, ∀ (x2 : Int32), ∀ σ : Mem, p_X4_seats_L39 k132 (p_X4_seats d) x1 f x2 σ = some res → V G (2 + d + 1) 4 X ((some (.int res.1)), res.2) σ [(0, .ref (ga G 4)), (1, .int x1), (2, .int x2)] [] 39 := by
      intro k132 hk132 f
      induction f with
      | zero => intro x2 σ h; exact none_some h
      | succ f ih => intro x2 σ h; exact hB39 (p_X4_seats_L39 k132 (p_X4_seats d) x1 f) k132 ih hk132 x2 σ h
    have h : p_X4_seats_E (p_X4_seats d) x1 σ = some res := h
    unfold p_X4_seats_E at h
    show V G (2 + d + 1) 4 X ((some (.int res.1)), res.2) σ [(0, .ref (ga G 4)), (1, .int x1)] [] 0
    refine v_blk hC (is := [(.iload_n 1, 0), (.aload_n 0, 0)]) (pc' := 2) (ls' := [(0, .ref (ga G 4)), (1, .int x1)]) (st' := [.ref (ga G 4), .int x1]) (by decide +kernel) rfl ?_
    refine gX4_4 hC lfX4_30 (by decide +kernel) h (fun v16 h => ?_)
    refine v_icmp_lt hC (off := 5) (tgt := 10) (by decide +kernel) (by decide) h (fun hq h => ?_) (fun hq h => ?_)
    · refine v_blk hC (is := [(.aload_n 0, 0)]) (pc' := 11) (ls' := [(0, .ref (ga G 4)), (1, .int x1)]) (st' := [.ref (ga G 4)]) (by decide +kernel) rfl ?_
      refine gX4_5 hC lfX4_35 (by decide +kernel) h (fun v17 h => ?_)
      refine v_blk hC (is := [(.iload_n 1, 0)]) (pc' := 15) (ls' := [(0, .ref (ga G 4)), (1, .int x1)]) (st' := [.int x1, .int v17]) (by decide +kernel) rfl ?_
      obtain ⟨v18, s19, e20, h⟩ := bndI h
      refine v_cSN (idx := 41) hC ⟨List.mem_of_getElem? (i := 43) (by decide +kernel), tsX11_holds, tnX11_holds, tcX11_holds, tmX11_holds⟩ (c_X11_holds e20) (by omega) (by decide) (by decide +kernel) (rest := []) rfl rfl (Nat.le_of_ble_eq_true rfl) rfl ?_
      refine v_if_ne hC (off := 19) (tgt := 37) (by decide +kernel) (by decide) h (fun hq h => ?_) (fun hq h => ?_)
      · refine v_blk hC (is := [(.iconst 0, (0 : Int32)), (.istore_n 2, 0)]) (pc' := 39) (ls' := [(2, .int (0 : Int32)), (0, .ref (ga G 4)), (1, .int x1)]) (st' := []) (by decide +kernel) rfl ?_
        refine v_sub [1, 2, 0] (ls' := [(0, .ref (ga G 4)), (1, .int x1), (2, .int (0 : Int32))]) rfl ?_
        exact (hL39 _ (fun   m21 h => by
              refine v_blk hC (is := [(.aload_n 0, 0)]) (pc' := 133) (ls' := [(0, .ref (ga G 4)), (1, .int x1)]) (st' := [.ref (ga G 4)]) (by decide +kernel) rfl ?_
              refine gX4_7 hC lfX4_71 (by decide +kernel) h (fun v22 h => ?_)
              refine v_if_le hC (off := 43) (tgt := 179) (by decide +kernel) (by decide) h (fun hq h => ?_) (fun hq h => ?_)
              · refine v_blk hC (is := [(.iconst 0, (0 : Int32))]) (pc' := 180) (ls' := [(0, .ref (ga G 4)), (1, .int x1)]) (st' := [.int (0 : Int32)]) (by decide +kernel) rfl ?_
                exact v_zret hC rfl h (by decide +kernel)
              · refine v_blk hC (is := [(.aload_n 0, 0)]) (pc' := 140) (ls' := [(0, .ref (ga G 4)), (1, .int x1)]) (st' := [.ref (ga G 4)]) (by decide +kernel) rfl ?_
                refine gX4_1 hC lfX4_15 (by decide +kernel) ?_
                refine v_blk hC (is := [(.iload_n 1, 0), (.bipush 9, (9 : Int32))]) (pc' := 146) (ls' := [(0, .ref (ga G 4)), (1, .int x1)]) (st' := [.int (9 : Int32), .int x1, .ref (ga G 38)]) (by decide +kernel) rfl ?_
                refine v_iast hC isA_38 rfl (by decide +kernel) h (fun s23 h => ?_)
                refine v_blk hC (is := [(.aload_n 0, 0), (.dup, 0)]) (pc' := 149) (ls' := [(0, .ref (ga G 4)), (1, .int x1)]) (st' := [.ref (ga G 4), .ref (ga G 4)]) (by decide +kernel) rfl ?_
                refine gX4_7 hC lfX4_71 (by decide +kernel) h (fun v24 h => ?_)
                refine v_blk hC (is := [(.iconst 1, (1 : Int32)), (.isub, 0)]) (pc' := 154) (ls' := [(0, .ref (ga G 4)), (1, .int x1)]) (st' := [.int (v24 - (1 : Int32)), .ref (ga G 4)]) (by decide +kernel) rfl ?_
                refine pX4_7 hC lfX4_71 (by decide +kernel) h (fun s25 h => ?_)
                refine v_blk hC (is := [(.aload_n 0, 0), (.iload_n 1, 0), (.iconst 1, (1 : Int32)), (.iadd, 0)]) (pc' := 161) (ls' := [(0, .ref (ga G 4)), (1, .int x1)]) (st' := [.int (x1 + (1 : Int32)), .ref (ga G 4)]) (by decide +kernel) rfl ?_
                obtain ⟨v26, s27, e28, h⟩ := bndI h
                refine v_cS (idx := 81) hC ⟨tt_at 638 (by decide +kernel) rfl, tsX4_seats, tnX4_seats, tcX4_seats, tmX4_seats⟩ (ih e28) (by omega) (by decide) (by decide +kernel) (rest := []) rfl rfl (Nat.le_of_ble_eq_true rfl) rfl ?_
                refine v_if_eq hC (off := 5) (tgt := 169) (by decide +kernel) (by decide) h (fun hq h => ?_) (fun hq h => ?_)
                · refine v_blk hC (is := [(.aload_n 0, 0), (.dup, 0)]) (pc' := 171) (ls' := [(0, .ref (ga G 4)), (1, .int x1)]) (st' := [.ref (ga G 4), .ref (ga G 4)]) (by decide +kernel) rfl ?_
                  refine gX4_7 hC lfX4_71 (by decide +kernel) h (fun v29 h => ?_)
                  refine v_blk hC (is := [(.iconst 1, (1 : Int32)), (.iadd, 0)]) (pc' := 176) (ls' := [(0, .ref (ga G 4)), (1, .int x1)]) (st' := [.int (v29 + (1 : Int32)), .ref (ga G 4)]) (by decide +kernel) rfl ?_
                  refine pX4_7 hC lfX4_71 (by decide +kernel) h (fun s30 h => ?_)
                  refine v_blk hC (is := [(.iconst 0, (0 : Int32))]) (pc' := 180) (ls' := [(0, .ref (ga G 4)), (1, .int x1)]) (st' := [.int (0 : Int32)]) (by decide +kernel) rfl ?_
                  exact v_zret hC rfl h (by decide +kernel)
                · refine v_blk hC (is := [(.iconst 1, (1 : Int32))]) (pc' := 168) (ls' := [(0, .ref (ga G 4)), (1, .int x1)]) (st' := [.int (1 : Int32)]) (by decide +kernel) rfl ?_
                  exact v_zret hC rfl h (by decide +kernel)) 1000) _ _ h
      · refine v_blk hC (is := [(.aload_n 0, 0)]) (pc' := 22) (ls' := [(0, .ref (ga G 4)), (1, .int x1)]) (st' := [.ref (ga G 4)]) (by decide +kernel) rfl ?_
        refine gX4_1 hC lfX4_15 (by decide +kernel) ?_
        refine v_blk hC (is := [(.iload_n 1, 0), (.bipush 9, (9 : Int32))]) (pc' := 28) (ls' := [(0, .ref (ga G 4)), (1, .int x1)]) (st' := [.int (9 : Int32), .int x1, .ref (ga G 38)]) (by decide +kernel) rfl ?_
        refine v_iast hC isA_38 rfl (by decide +kernel) h (fun s31 h => ?_)
        refine v_blk hC (is := [(.aload_n 0, 0), (.iload_n 1, 0), (.iconst 1, (1 : Int32)), (.iadd, 0)]) (pc' := 33) (ls' := [(0, .ref (ga G 4)), (1, .int x1)]) (st' := [.int (x1 + (1 : Int32)), .ref (ga G 4)]) (by decide +kernel) rfl ?_
        obtain ⟨v32, s33, e34, h⟩ := bndI h
        refine v_cS (idx := 81) hC ⟨tt_at 638 (by decide +kernel) rfl, tsX4_seats, tnX4_seats, tcX4_seats, tmX4_seats⟩ (ih e34) (by omega) (by decide) (by decide +kernel) (rest := []) rfl rfl (Nat.le_of_ble_eq_true rfl) rfl ?_
        exact v_zretC hC h (by decide +kernel)
    · refine v_blk hC (is := [(.iconst 1, (1 : Int32))]) (pc' := 9) (ls' := [(0, .ref (ga G 4)), (1, .int x1)]) (st' := [.int (1 : Int32)]) (by decide +kernel) rfl ?_
      exact v_zret hC rfl h (by decide +kernel)

def p_X4_fewest_B21 (k21 : Int32 → Mem → Option (Int32 × Mem))  (x1 : Int32) (σ : Mem) : Option (Int32 × Mem) := (if (8 : Int32) < x1 then some ((-4 : Int32), σ) else (wr σ 4 6 x1 fun s1 => (bnd (p_J7_fill_53178 39 (0 : Int32) s1) fun (v2 : Unit) s3 => (bnd (p_X4_seats 10 (0 : Int32) s3) fun v5 s6 => (if v5 = 0 then k21 (x1 + (1 : Int32)) s6 else some (x1, s6))))))
def p_X4_fewest_L21   : Nat → Int32 → Mem → Option (Int32 × Mem)
  | 0 => fun _ _ => none
  | f + 1 => p_X4_fewest_B21 (p_X4_fewest_L21 f)
def p_X4_fewest  (σ : Mem) : Option (Int32 × Mem) := (bnd (p_J7_fill_53178 40 (8 : Int32) σ) fun (v8 : Unit) s9 => (wr s9 4 7 (0 : Int32) fun s11 => (wr s11 4 8 (1 : Int32) fun s12 => (p_X4_fewest_L21 1000) (0 : Int32) s12)))
set_option maxHeartbeats 4000000 in
set_option maxRecDepth 100000 in
theorem c_X4_fewest {G : Gl}  {σ : Mem} {res : Int32 × Mem}  (h : p_X4_fewest  σ = some res) : MetX G yX4_fewest cX4_fewest 2 (some .int) 13 [.ref (ga G 4)] σ (some (.int res.1)) res.2 := by
  refine met_V (by decide +kernel) (Nat.le_of_ble_eq_true rfl) (fun X hC => ?_)
  have hC : Ok G 13 2 X cX4_fewest RX4 (some .int) := hC
  have hB21 : ∀ (k21 : Int32 → Mem → Option (Int32 × Mem)), (∀ (x1 : Int32), ∀ σ : Mem, k21 x1 σ = some res → V G 13 2 X ((some (.int res.1)), res.2) σ [(0, .ref (ga G 4)), (1, .int x1)] [] 21) → ∀ (x1 : Int32), ∀ σ : Mem, p_X4_fewest_B21 k21  x1 σ = some res → V G 13 2 X ((some (.int res.1)), res.2) σ [(0, .ref (ga G 4)), (1, .int x1)] [] 21 := by
    intro k21 hk21 x1 σ h
    unfold p_X4_fewest_B21 at h
    refine v_blk hC (is := [(.iload_n 1, 0), (.bipush 8, (8 : Int32))]) (pc' := 24) (ls' := [(0, .ref (ga G 4)), (1, .int x1)]) (st' := [.int (8 : Int32), .int x1]) (by decide +kernel) rfl ?_
    refine v_icmp_gt hC (off := 32) (tgt := 56) (by decide +kernel) (by decide) h (fun hq h => ?_) (fun hq h => ?_)
    · refine v_blk hC (is := [(.bipush (-4), (-4 : Int32))]) (pc' := 58) (ls' := [(0, .ref (ga G 4)), (1, .int x1)]) (st' := [.int (-4 : Int32)]) (by decide +kernel) rfl ?_
      exact v_iret hC h (by decide +kernel)
    · refine v_blk hC (is := [(.aload_n 0, 0), (.iload_n 1, 0)]) (pc' := 29) (ls' := [(0, .ref (ga G 4)), (1, .int x1)]) (st' := [.int x1, .ref (ga G 4)]) (by decide +kernel) rfl ?_
      refine pX4_6 hC lfX4_78 (by decide +kernel) h (fun s1 h => ?_)
      refine v_blk hC (is := [(.aload_n 0, 0)]) (pc' := 33) (ls' := [(0, .ref (ga G 4)), (1, .int x1)]) (st' := [.ref (ga G 4)]) (by decide +kernel) rfl ?_
      refine gX4_2 hC lfX4_18 (by decide +kernel) ?_
      refine v_blk hC (is := [(.iconst 0, (0 : Int32))]) (pc' := 37) (ls' := [(0, .ref (ga G 4)), (1, .int x1)]) (st' := [.int (0 : Int32), .ref (ga G 39)]) (by decide +kernel) rfl ?_
      obtain ⟨v2, s3, e4, h⟩ := bndI h
      refine v_cS (idx := 65) hC ⟨tt_at 635 (by decide +kernel) rfl, tsJ7_fill_53178, tnJ7_fill_53178, tcJ7_fill_53178, tmJ7_fill_53178⟩ (c_J7_fill_53178 isA_39 e4) (by decide) (by decide) (by decide +kernel) (rest := []) rfl rfl (Nat.le_of_ble_eq_true rfl) rfl ?_
      refine v_blk hC (is := [(.aload_n 0, 0), (.iconst 0, (0 : Int32))]) (pc' := 42) (ls' := [(0, .ref (ga G 4)), (1, .int x1)]) (st' := [.int (0 : Int32), .ref (ga G 4)]) (by decide +kernel) rfl ?_
      obtain ⟨v5, s6, e7, h⟩ := bndI h
      refine v_cS (idx := 81) hC ⟨tt_at 638 (by decide +kernel) rfl, tsX4_seats, tnX4_seats, tcX4_seats, tmX4_seats⟩ (c_X4_seats 10 e7) (by decide) (by decide) (by decide +kernel) (rest := []) rfl rfl (Nat.le_of_ble_eq_true rfl) rfl ?_
      refine v_if_eq hC (off := 5) (tgt := 50) (by decide +kernel) (by decide) h (fun hq h => ?_) (fun hq h => ?_)
      · refine v_blk hC (is := [(.iinc 1 1, (1 : Int32))]) (pc' := 53) (ls' := [(1, .int (x1 + (1 : Int32))), (0, .ref (ga G 4))]) (st' := []) (by decide +kernel) rfl ?_
        refine v_goto hC (off := (-32)) (tgt := 21) (by decide +kernel) (by decide) ?_
        refine v_sub [1, 0] (ls' := [(0, .ref (ga G 4)), (1, .int (x1 + (1 : Int32)))]) rfl ?_
        exact hk21 _ _ h
      · refine v_blk hC (is := [(.iload_n 1, 0)]) (pc' := 49) (ls' := [(0, .ref (ga G 4)), (1, .int x1)]) (st' := [.int x1]) (by decide +kernel) rfl ?_
        exact v_iret hC h (by decide +kernel)
  have hL21 : ∀ f : Nat, ∀ (x1 : Int32), ∀ σ : Mem, p_X4_fewest_L21  f x1 σ = some res → V G 13 2 X ((some (.int res.1)), res.2) σ [(0, .ref (ga G 4)), (1, .int x1)] [] 21 := by
    intro  f
    induction f with
    | zero => intro x1 σ h; exact none_some h
    | succ f ih => intro x1 σ h; exact hB21 (p_X4_fewest_L21  f)  ih  x1 σ h
  unfold p_X4_fewest at h
  show V G 13 2 X ((some (.int res.1)), res.2) σ [(0, .ref (ga G 4))] [] 0
  refine v_blk hC (is := [(.aload_n 0, 0)]) (pc' := 1) (ls' := [(0, .ref (ga G 4))]) (st' := [.ref (ga G 4)]) (by decide +kernel) rfl ?_
  refine gX4_3 hC lfX4_21 (by decide +kernel) ?_
  refine v_blk hC (is := [(.bipush 8, (8 : Int32))]) (pc' := 6) (ls' := [(0, .ref (ga G 4))]) (st' := [.int (8 : Int32), .ref (ga G 40)]) (by decide +kernel) rfl ?_
  obtain ⟨v8, s9, e10, h⟩ := bndI h
  refine v_cS (idx := 65) hC ⟨tt_at 635 (by decide +kernel) rfl, tsJ7_fill_53178, tnJ7_fill_53178, tcJ7_fill_53178, tmJ7_fill_53178⟩ (c_J7_fill_53178 isA_40 e10) (by decide) (by decide) (by decide +kernel) (rest := []) rfl rfl (Nat.le_of_ble_eq_true rfl) rfl ?_
  refine v_blk hC (is := [(.aload_n 0, 0), (.iconst 0, (0 : Int32))]) (pc' := 11) (ls' := [(0, .ref (ga G 4))]) (st' := [.int (0 : Int32), .ref (ga G 4)]) (by decide +kernel) rfl ?_
  refine pX4_7 hC lfX4_71 (by decide +kernel) h (fun s11 h => ?_)
  refine v_blk hC (is := [(.aload_n 0, 0), (.iconst 1, (1 : Int32))]) (pc' := 16) (ls' := [(0, .ref (ga G 4))]) (st' := [.int (1 : Int32), .ref (ga G 4)]) (by decide +kernel) rfl ?_
  refine pX4_8 hC (by decide) lfX4_74 (by decide +kernel) h (fun s12 h => ?_)
  refine v_blk hC (is := [(.iconst 0, (0 : Int32)), (.istore_n 1, 0)]) (pc' := 21) (ls' := [(1, .int (0 : Int32)), (0, .ref (ga G 4))]) (st' := []) (by decide +kernel) rfl ?_
  refine v_sub [1, 0] (ls' := [(0, .ref (ga G 4)), (1, .int (0 : Int32))]) rfl ?_
  exact (hL21 1000) _ _ h

def p_X4_canMan (x1 : Int32) (x2 : Int32) (x3 : Int32) (σ : Mem) : Option (Int32 × Mem) := (bnd (p_J7_fill_53178 39 (0 : Int32) σ) fun (v1 : Unit) s2 => (if (0 : Int32) < 0 ∨ 8 ≤ ((0 : Int32)).toNatClampNeg then none else wr s2 40 ((0 : Int32)).toNatClampNeg x1 fun s4 => (if (1 : Int32) < 0 ∨ 8 ≤ ((1 : Int32)).toNatClampNeg then none else wr s4 40 ((1 : Int32)).toNatClampNeg x2 fun s5 => (if (2 : Int32) < 0 ∨ 8 ≤ ((2 : Int32)).toNatClampNeg then none else wr s5 40 ((2 : Int32)).toNatClampNeg x3 fun s6 => (wr s6 4 6 (3 : Int32) fun s7 => (wr s7 4 8 (0 : Int32) fun s8 => (lt (s8 4 5) fun v9 => (bnd (p_J6_bitCount_0f7a4 v9 s8) fun v10 s11 => (wr s11 4 7 (((v10 - x1) - x2) - x3) fun s13 => (lt (s13 4 7) fun v14 => (if v14 < 0 then some ((0 : Int32), s13) else (bnd (p_X4_seats 10 (0 : Int32) s13) fun v15 s16 => (if v15 = 0 then some ((0 : Int32), s16) else some ((1 : Int32), s16))))))))))))))
set_option maxHeartbeats 4000000 in
set_option maxRecDepth 100000 in
theorem c_X4_canMan {G : Gl} {x1 : Int32} {x2 : Int32} {x3 : Int32} {σ : Mem} {res : Int32 × Mem}  (h : p_X4_canMan x1 x2 x3 σ = some res) : MetX G yX4_canMan cX4_canMan 4 (some .boolean) 13 [.ref (ga G 4), .int x1, .int x2, .int x3] σ (some (.int res.1)) res.2 := by
  refine met_V (by decide +kernel) (Nat.le_of_ble_eq_true rfl) (fun X hC => ?_)
  have hC : Ok G 13 4 X cX4_canMan RX4 (some .boolean) := hC
  unfold p_X4_canMan at h
  show V G 13 4 X ((some (.int res.1)), res.2) σ [(0, .ref (ga G 4)), (1, .int x1), (2, .int x2), (3, .int x3)] [] 0
  refine v_blk hC (is := [(.aload_n 0, 0)]) (pc' := 1) (ls' := [(0, .ref (ga G 4)), (1, .int x1), (2, .int x2), (3, .int x3)]) (st' := [.ref (ga G 4)]) (by decide +kernel) rfl ?_
  refine gX4_2 hC lfX4_18 (by decide +kernel) ?_
  refine v_blk hC (is := [(.iconst 0, (0 : Int32))]) (pc' := 5) (ls' := [(0, .ref (ga G 4)), (1, .int x1), (2, .int x2), (3, .int x3)]) (st' := [.int (0 : Int32), .ref (ga G 39)]) (by decide +kernel) rfl ?_
  obtain ⟨v1, s2, e3, h⟩ := bndI h
  refine v_cS (idx := 65) hC ⟨tt_at 635 (by decide +kernel) rfl, tsJ7_fill_53178, tnJ7_fill_53178, tcJ7_fill_53178, tmJ7_fill_53178⟩ (c_J7_fill_53178 isA_39 e3) (by decide) (by decide) (by decide +kernel) (rest := []) rfl rfl (Nat.le_of_ble_eq_true rfl) rfl ?_
  refine v_blk hC (is := [(.aload_n 0, 0)]) (pc' := 9) (ls' := [(0, .ref (ga G 4)), (1, .int x1), (2, .int x2), (3, .int x3)]) (st' := [.ref (ga G 4)]) (by decide +kernel) rfl ?_
  refine gX4_3 hC lfX4_21 (by decide +kernel) ?_
  refine v_blk hC (is := [(.iconst 0, (0 : Int32)), (.iload_n 1, 0)]) (pc' := 14) (ls' := [(0, .ref (ga G 4)), (1, .int x1), (2, .int x2), (3, .int x3)]) (st' := [.int x1, .int (0 : Int32), .ref (ga G 40)]) (by decide +kernel) rfl ?_
  refine v_iast hC isA_40 rfl (by decide +kernel) h (fun s4 h => ?_)
  refine v_blk hC (is := [(.aload_n 0, 0)]) (pc' := 16) (ls' := [(0, .ref (ga G 4)), (1, .int x1), (2, .int x2), (3, .int x3)]) (st' := [.ref (ga G 4)]) (by decide +kernel) rfl ?_
  refine gX4_3 hC lfX4_21 (by decide +kernel) ?_
  refine v_blk hC (is := [(.iconst 1, (1 : Int32)), (.iload_n 2, 0)]) (pc' := 21) (ls' := [(0, .ref (ga G 4)), (1, .int x1), (2, .int x2), (3, .int x3)]) (st' := [.int x2, .int (1 : Int32), .ref (ga G 40)]) (by decide +kernel) rfl ?_
  refine v_iast hC isA_40 rfl (by decide +kernel) h (fun s5 h => ?_)
  refine v_blk hC (is := [(.aload_n 0, 0)]) (pc' := 23) (ls' := [(0, .ref (ga G 4)), (1, .int x1), (2, .int x2), (3, .int x3)]) (st' := [.ref (ga G 4)]) (by decide +kernel) rfl ?_
  refine gX4_3 hC lfX4_21 (by decide +kernel) ?_
  refine v_blk hC (is := [(.iconst 2, (2 : Int32)), (.iload_n 3, 0)]) (pc' := 28) (ls' := [(0, .ref (ga G 4)), (1, .int x1), (2, .int x2), (3, .int x3)]) (st' := [.int x3, .int (2 : Int32), .ref (ga G 40)]) (by decide +kernel) rfl ?_
  refine v_iast hC isA_40 rfl (by decide +kernel) h (fun s6 h => ?_)
  refine v_blk hC (is := [(.aload_n 0, 0), (.iconst 3, (3 : Int32))]) (pc' := 31) (ls' := [(0, .ref (ga G 4)), (1, .int x1), (2, .int x2), (3, .int x3)]) (st' := [.int (3 : Int32), .ref (ga G 4)]) (by decide +kernel) rfl ?_
  refine pX4_6 hC lfX4_78 (by decide +kernel) h (fun s7 h => ?_)
  refine v_blk hC (is := [(.aload_n 0, 0), (.iconst 0, (0 : Int32))]) (pc' := 36) (ls' := [(0, .ref (ga G 4)), (1, .int x1), (2, .int x2), (3, .int x3)]) (st' := [.int (0 : Int32), .ref (ga G 4)]) (by decide +kernel) rfl ?_
  refine pX4_8 hC (by decide) lfX4_74 (by decide +kernel) h (fun s8 h => ?_)
  refine v_blk hC (is := [(.aload_n 0, 0), (.aload_n 0, 0)]) (pc' := 41) (ls' := [(0, .ref (ga G 4)), (1, .int x1), (2, .int x2), (3, .int x3)]) (st' := [.ref (ga G 4), .ref (ga G 4)]) (by decide +kernel) rfl ?_
  refine gX4_5 hC lfX4_35 (by decide +kernel) h (fun v9 h => ?_)
  obtain ⟨v10, s11, e12, h⟩ := bndI h
  refine v_cS (idx := 49) hC ⟨tt_at 620 (by decide +kernel) rfl, tsJ6_bitCount_0f7a4, tnJ6_bitCount_0f7a4, tcJ6_bitCount_0f7a4, tmJ6_bitCount_0f7a4⟩ (c_J6_bitCount_0f7a4 e12) (by decide) (by decide) (by decide +kernel) (rest := [.ref (ga G 4)]) rfl rfl (Nat.le_of_ble_eq_true rfl) rfl ?_
  refine v_blk hC (is := [(.iload_n 1, 0), (.isub, 0), (.iload_n 2, 0), (.isub, 0), (.iload_n 3, 0), (.isub, 0)]) (pc' := 53) (ls' := [(0, .ref (ga G 4)), (1, .int x1), (2, .int x2), (3, .int x3)]) (st' := [.int (((v10 - x1) - x2) - x3), .ref (ga G 4)]) (by decide +kernel) rfl ?_
  refine pX4_7 hC lfX4_71 (by decide +kernel) h (fun s13 h => ?_)
  refine v_blk hC (is := [(.aload_n 0, 0)]) (pc' := 57) (ls' := [(0, .ref (ga G 4)), (1, .int x1), (2, .int x2), (3, .int x3)]) (st' := [.ref (ga G 4)]) (by decide +kernel) rfl ?_
  refine gX4_7 hC lfX4_71 (by decide +kernel) h (fun v14 h => ?_)
  refine v_if_lt hC (off := 15) (tgt := 75) (by decide +kernel) (by decide) h (fun hq h => ?_) (fun hq h => ?_)
  · refine v_blk hC (is := [(.iconst 0, (0 : Int32))]) (pc' := 76) (ls' := [(0, .ref (ga G 4)), (1, .int x1), (2, .int x2), (3, .int x3)]) (st' := [.int (0 : Int32)]) (by decide +kernel) rfl ?_
    exact v_zret hC rfl h (by decide +kernel)
  · refine v_blk hC (is := [(.aload_n 0, 0), (.iconst 0, (0 : Int32))]) (pc' := 65) (ls' := [(0, .ref (ga G 4)), (1, .int x1), (2, .int x2), (3, .int x3)]) (st' := [.int (0 : Int32), .ref (ga G 4)]) (by decide +kernel) rfl ?_
    obtain ⟨v15, s16, e17, h⟩ := bndI h
    refine v_cS (idx := 81) hC ⟨tt_at 638 (by decide +kernel) rfl, tsX4_seats, tnX4_seats, tcX4_seats, tmX4_seats⟩ (c_X4_seats 10 e17) (by decide) (by decide) (by decide +kernel) (rest := []) rfl rfl (Nat.le_of_ble_eq_true rfl) rfl ?_
    refine v_if_eq hC (off := 7) (tgt := 75) (by decide +kernel) (by decide) h (fun hq h => ?_) (fun hq h => ?_)
    · refine v_blk hC (is := [(.iconst 0, (0 : Int32))]) (pc' := 76) (ls' := [(0, .ref (ga G 4)), (1, .int x1), (2, .int x2), (3, .int x3)]) (st' := [.int (0 : Int32)]) (by decide +kernel) rfl ?_
      exact v_zret hC rfl h (by decide +kernel)
    · refine v_blk hC (is := [(.iconst 1, (1 : Int32))]) (pc' := 72) (ls' := [(0, .ref (ga G 4)), (1, .int x1), (2, .int x2), (3, .int x3)]) (st' := [.int (1 : Int32)]) (by decide +kernel) rfl ?_
      refine v_goto hC (off := 4) (tgt := 76) (by decide +kernel) (by decide) ?_
      exact v_zret hC rfl h (by decide +kernel)

def p_X8_getsRow (d : Nat) (x1 : Int32) (x2 : Int32) (σ : Mem) : Option (Unit × Mem) := (wr σ d 1 (2 : Int32) fun s1 => (wr s1 d 4 x1 fun s2 => (wr s2 d 5 x2 fun s3 => (bnd (p_J7_fill_53178 (8 + d) (0 : Int32) s3) fun (v4 : Unit) s5 => some ((), s5)))))
set_option maxHeartbeats 4000000 in
set_option maxRecDepth 100000 in
theorem c_X8_getsRow {G : Gl} {d : Nat} {x1 : Int32} {x2 : Int32} {σ : Mem} {res : Unit × Mem} (hd : isShelf d) (h : p_X8_getsRow d x1 x2 σ = some res) : MetX G yX8_getsRow cX8_getsRow 3 none 2 [.ref (ga G d), .int x1, .int x2] σ none res.2 := by
  refine met_V (by decide +kernel) (Nat.le_of_ble_eq_true rfl) (fun X hC => ?_)
  have hC : Ok G 2 3 X cX8_getsRow RX8 none := hC
  unfold p_X8_getsRow at h
  show V G 2 3 X (none, res.2) σ [(0, .ref (ga G d)), (1, .int x1), (2, .int x2)] [] 0
  refine v_blk hC (is := [(.aload_n 0, 0), (.iconst 2, (2 : Int32))]) (pc' := 2) (ls' := [(0, .ref (ga G d)), (1, .int x1), (2, .int x2)]) (st' := [.int (2 : Int32), .ref (ga G d)]) (by decide +kernel) rfl ?_
  refine pX8_1 hC hd lfX8_13 (by decide +kernel) h (fun s1 h => ?_)
  refine v_blk hC (is := [(.aload_n 0, 0), (.iload_n 1, 0)]) (pc' := 7) (ls' := [(0, .ref (ga G d)), (1, .int x1), (2, .int x2)]) (st' := [.int x1, .ref (ga G d)]) (by decide +kernel) rfl ?_
  refine pX8_4 hC hd lfX8_17 (by decide +kernel) h (fun s2 h => ?_)
  refine v_blk hC (is := [(.aload_n 0, 0), (.iload_n 2, 0)]) (pc' := 12) (ls' := [(0, .ref (ga G d)), (1, .int x1), (2, .int x2)]) (st' := [.int x2, .ref (ga G d)]) (by decide +kernel) rfl ?_
  refine pX8_5 hC hd lfX8_20 (by decide +kernel) h (fun s3 h => ?_)
  refine v_blk hC (is := [(.aload_n 0, 0)]) (pc' := 16) (ls' := [(0, .ref (ga G d)), (1, .int x1), (2, .int x2)]) (st' := [.ref (ga G d)]) (by decide +kernel) rfl ?_
  refine gX8_0 hC hd lfX8_9 (by decide +kernel) ?_
  refine v_blk hC (is := [(.iconst 0, (0 : Int32))]) (pc' := 20) (ls' := [(0, .ref (ga G d)), (1, .int x1), (2, .int x2)]) (st' := [.int (0 : Int32), .ref (ga G (8 + d))]) (by decide +kernel) rfl ?_
  obtain ⟨v4, s5, e6, h⟩ := bndI h
  refine v_cS (idx := 23) hC ⟨tt_at 851 (by decide +kernel) rfl, tsJ7_fill_53178, tnJ7_fill_53178, tcJ7_fill_53178, tmJ7_fill_53178⟩ (c_J7_fill_53178 (isA_cells hd) e6) (by decide) (by decide) (by decide +kernel) (rest := []) rfl rfl (Nat.le_of_ble_eq_true rfl) rfl ?_
  exact v_vret hC h (by decide +kernel)

def p_X8_lowest (d : Nat) (x1 : Int32) (σ : Mem) : Option (Int32 × Mem) := (lt (σ d 4) fun v1 => (if v1 = (0 : Int32) then some (((Int32.toInt8 x1).toInt32), σ) else (if v1 = (1 : Int32) then some (((Int32.toInt16 x1).toInt32), σ) else some (x1, σ))))
set_option maxHeartbeats 4000000 in
set_option maxRecDepth 100000 in
theorem c_X8_lowest {G : Gl} {d : Nat} {x1 : Int32} {σ : Mem} {res : Int32 × Mem} (hd : isShelf d) (h : p_X8_lowest d x1 σ = some res) : MetX G yX8_lowest cX8_lowest 2 (some .int) 1 [.ref (ga G d), .int x1] σ (some (.int res.1)) res.2 := by
  refine met_V (by decide +kernel) (Nat.le_of_ble_eq_true rfl) (fun X hC => ?_)
  have hC : Ok G 1 2 X cX8_lowest RX8 (some .int) := hC
  unfold p_X8_lowest at h
  show V G 1 2 X ((some (.int res.1)), res.2) σ [(0, .ref (ga G d)), (1, .int x1)] [] 0
  refine v_blk hC (is := [(.aload_n 0, 0)]) (pc' := 1) (ls' := [(0, .ref (ga G d)), (1, .int x1)]) (st' := [.ref (ga G d)]) (by decide +kernel) rfl ?_
  refine gX8_4 hC hd lfX8_17 (by decide +kernel) h (fun v1 h => ?_)
  by_cases q2 : v1 = (0 : Int32)
  · replace h := br_pos h q2
    refine v_lsw hC (dflt := 34) (ps := #[(0, 28), (1, 31)]) (len := 28) (off := 28) (tgt := 32) (by decide +kernel) (by decide) (by rw [q2]; decide +kernel) (by decide) ?_
    refine v_blk hC (is := [(.iload_n 1, 0), (.i2b, 0)]) (pc' := 34) (ls' := [(0, .ref (ga G d)), (1, .int x1)]) (st' := [.int ((Int32.toInt8 x1).toInt32)]) (by decide +kernel) rfl ?_
    exact v_iret hC h (by decide +kernel)
  replace h := br_neg h q2
  by_cases q3 : v1 = (1 : Int32)
  · replace h := br_pos h q3
    refine v_lsw hC (dflt := 34) (ps := #[(0, 28), (1, 31)]) (len := 28) (off := 31) (tgt := 35) (by decide +kernel) (by decide) (by refine (lv_osw q2 (by decide)).trans ?_; rw [q3]; decide +kernel) (by decide) ?_
    refine v_blk hC (is := [(.iload_n 1, 0), (.i2s, 0)]) (pc' := 37) (ls' := [(0, .ref (ga G d)), (1, .int x1)]) (st' := [.int ((Int32.toInt16 x1).toInt32)]) (by decide +kernel) rfl ?_
    exact v_iret hC h (by decide +kernel)
  replace h := br_neg h q3
  refine v_lsw hC (dflt := 34) (ps := #[(0, 28), (1, 31)]) (len := 28) (off := 34) (tgt := 38) (by decide +kernel) (by decide) (by refine (lv_osw q2 (by decide)).trans ?_; refine (lv_osw q3 (by decide)).trans ?_; rfl) (by decide) ?_
  refine v_blk hC (is := [(.iload_n 1, 0)]) (pc' := 39) (ls' := [(0, .ref (ga G d)), (1, .int x1)]) (st' := [.int x1]) (by decide +kernel) rfl ?_
  exact v_iret hC h (by decide +kernel)

def p_X8_isSkipped (d : Nat) (x1 : Int32) (σ : Mem) : Option (Int32 × Mem) := (lt (σ d 4) fun v1 => (if v1 = (0 : Int32) then (if x1 < 0 ∨ 100 ≤ (x1).toNatClampNeg then none else lt (σ (8 + d) (x1).toNatClampNeg) fun v3 => (if v3 = (-128 : Int32) then some ((1 : Int32), σ) else some ((0 : Int32), σ))) else (if v1 = (1 : Int32) then (if x1 < 0 ∨ 100 ≤ (x1).toNatClampNeg then none else lt (σ (8 + d) (x1).toNatClampNeg) fun v5 => (if v5 = (-32768 : Int32) then some ((1 : Int32), σ) else some ((0 : Int32), σ))) else (if x1 < 0 ∨ 100 ≤ (x1).toNatClampNeg then none else lt (σ (8 + d) (x1).toNatClampNeg) fun v6 => (if v6 = (-2147483648 : Int32) then some ((1 : Int32), σ) else some ((0 : Int32), σ))))))
set_option maxHeartbeats 4000000 in
set_option maxRecDepth 100000 in
theorem c_X8_isSkipped {G : Gl} {d : Nat} {x1 : Int32} {σ : Mem} {res : Int32 × Mem} (hd : isShelf d) (h : p_X8_isSkipped d x1 σ = some res) : MetX G yX8_isSkipped cX8_isSkipped 2 (some .boolean) 1 [.ref (ga G d), .int x1] σ (some (.int res.1)) res.2 := by
  refine met_V (by decide +kernel) (Nat.le_of_ble_eq_true rfl) (fun X hC => ?_)
  have hC : Ok G 1 2 X cX8_isSkipped RX8 (some .boolean) := hC
  unfold p_X8_isSkipped at h
  show V G 1 2 X ((some (.int res.1)), res.2) σ [(0, .ref (ga G d)), (1, .int x1)] [] 0
  refine v_blk hC (is := [(.aload_n 0, 0)]) (pc' := 1) (ls' := [(0, .ref (ga G d)), (1, .int x1)]) (st' := [.ref (ga G d)]) (by decide +kernel) rfl ?_
  refine gX8_4 hC hd lfX8_17 (by decide +kernel) h (fun v1 h => ?_)
  by_cases q2 : v1 = (0 : Int32)
  · replace h := br_pos h q2
    refine v_lsw hC (dflt := 63) (ps := #[(0, 28), (1, 45)]) (len := 28) (off := 28) (tgt := 32) (by decide +kernel) (by decide) (by rw [q2]; decide +kernel) (by decide) ?_
    refine v_blk hC (is := [(.aload_n 0, 0)]) (pc' := 33) (ls' := [(0, .ref (ga G d)), (1, .int x1)]) (st' := [.ref (ga G d)]) (by decide +kernel) rfl ?_
    refine gX8_0 hC hd lfX8_9 (by decide +kernel) ?_
    refine v_blk hC (is := [(.iload_n 1, 0)]) (pc' := 37) (ls' := [(0, .ref (ga G d)), (1, .int x1)]) (st' := [.int x1, .ref (ga G (8 + d))]) (by decide +kernel) rfl ?_
    refine v_iald hC (isA_cells hd) (al_cells hd) (by decide +kernel) h (fun v3 h => ?_)
    refine v_blk hC (is := [(.bipush (-128), (-128 : Int32))]) (pc' := 40) (ls' := [(0, .ref (ga G d)), (1, .int x1)]) (st' := [.int (-128 : Int32), .int v3]) (by decide +kernel) rfl ?_
    refine v_icmp_ne hC (off := 7) (tgt := 47) (by decide +kernel) (by decide) h (fun hq h => ?_) (fun hq h => ?_)
    · refine v_blk hC (is := [(.iconst 0, (0 : Int32))]) (pc' := 48) (ls' := [(0, .ref (ga G d)), (1, .int x1)]) (st' := [.int (0 : Int32)]) (by decide +kernel) rfl ?_
      exact v_zret hC rfl h (by decide +kernel)
    · refine v_blk hC (is := [(.iconst 1, (1 : Int32))]) (pc' := 44) (ls' := [(0, .ref (ga G d)), (1, .int x1)]) (st' := [.int (1 : Int32)]) (by decide +kernel) rfl ?_
      refine v_goto hC (off := 4) (tgt := 48) (by decide +kernel) (by decide) ?_
      exact v_zret hC rfl h (by decide +kernel)
  replace h := br_neg h q2
  by_cases q4 : v1 = (1 : Int32)
  · replace h := br_pos h q4
    refine v_lsw hC (dflt := 63) (ps := #[(0, 28), (1, 45)]) (len := 28) (off := 45) (tgt := 49) (by decide +kernel) (by decide) (by refine (lv_osw q2 (by decide)).trans ?_; rw [q4]; decide +kernel) (by decide) ?_
    refine v_blk hC (is := [(.aload_n 0, 0)]) (pc' := 50) (ls' := [(0, .ref (ga G d)), (1, .int x1)]) (st' := [.ref (ga G d)]) (by decide +kernel) rfl ?_
    refine gX8_0 hC hd lfX8_9 (by decide +kernel) ?_
    refine v_blk hC (is := [(.iload_n 1, 0)]) (pc' := 54) (ls' := [(0, .ref (ga G d)), (1, .int x1)]) (st' := [.int x1, .ref (ga G (8 + d))]) (by decide +kernel) rfl ?_
    refine v_iald hC (isA_cells hd) (al_cells hd) (by decide +kernel) h (fun v5 h => ?_)
    refine v_blk hC (is := [(.sipush (-32768), (-32768 : Int32))]) (pc' := 58) (ls' := [(0, .ref (ga G d)), (1, .int x1)]) (st' := [.int (-32768 : Int32), .int v5]) (by decide +kernel) rfl ?_
    refine v_icmp_ne hC (off := 7) (tgt := 65) (by decide +kernel) (by decide) h (fun hq h => ?_) (fun hq h => ?_)
    · refine v_blk hC (is := [(.iconst 0, (0 : Int32))]) (pc' := 66) (ls' := [(0, .ref (ga G d)), (1, .int x1)]) (st' := [.int (0 : Int32)]) (by decide +kernel) rfl ?_
      exact v_zret hC rfl h (by decide +kernel)
    · refine v_blk hC (is := [(.iconst 1, (1 : Int32))]) (pc' := 62) (ls' := [(0, .ref (ga G d)), (1, .int x1)]) (st' := [.int (1 : Int32)]) (by decide +kernel) rfl ?_
      refine v_goto hC (off := 4) (tgt := 66) (by decide +kernel) (by decide) ?_
      exact v_zret hC rfl h (by decide +kernel)
  replace h := br_neg h q4
  refine v_lsw hC (dflt := 63) (ps := #[(0, 28), (1, 45)]) (len := 28) (off := 63) (tgt := 67) (by decide +kernel) (by decide) (by refine (lv_osw q2 (by decide)).trans ?_; refine (lv_osw q4 (by decide)).trans ?_; rfl) (by decide) ?_
  refine v_blk hC (is := [(.aload_n 0, 0)]) (pc' := 68) (ls' := [(0, .ref (ga G d)), (1, .int x1)]) (st' := [.ref (ga G d)]) (by decide +kernel) rfl ?_
  refine gX8_0 hC hd lfX8_9 (by decide +kernel) ?_
  refine v_blk hC (is := [(.iload_n 1, 0)]) (pc' := 72) (ls' := [(0, .ref (ga G d)), (1, .int x1)]) (st' := [.int x1, .ref (ga G (8 + d))]) (by decide +kernel) rfl ?_
  refine v_iald hC (isA_cells hd) (al_cells hd) (by decide +kernel) h (fun v6 h => ?_)
  refine v_ldc hC (idx := 29) (v := (-2147483648 : Int32)) (tt_at 791 (by decide +kernel) rfl) (by decide +kernel) ?_
  refine v_icmp_ne hC (off := 7) (tgt := 82) (by decide +kernel) (by decide) h (fun hq h => ?_) (fun hq h => ?_)
  · refine v_blk hC (is := [(.iconst 0, (0 : Int32))]) (pc' := 83) (ls' := [(0, .ref (ga G d)), (1, .int x1)]) (st' := [.int (0 : Int32)]) (by decide +kernel) rfl ?_
    exact v_zret hC rfl h (by decide +kernel)
  · refine v_blk hC (is := [(.iconst 1, (1 : Int32))]) (pc' := 79) (ls' := [(0, .ref (ga G d)), (1, .int x1)]) (st' := [.int (1 : Int32)]) (by decide +kernel) rfl ?_
    refine v_goto hC (off := 4) (tgt := 83) (by decide +kernel) (by decide) ?_
    exact v_zret hC rfl h (by decide +kernel)

def p_X8_hasPlaces (d : Nat) (x1 : Int32) (x2 : Int32) (σ : Mem) : Option (Int32 × Mem) := (if x2 < 0 then some ((0 : Int32), σ) else (lt (σ d 5) fun v1 => (if v1 < x2 then some ((0 : Int32), σ) else (if x1 < 0 then some ((0 : Int32), σ) else (lt (σ d 5) fun v2 => (if (v2 - x2) < x1 then some ((0 : Int32), σ) else some ((1 : Int32), σ)))))))
set_option maxHeartbeats 4000000 in
set_option maxRecDepth 100000 in
theorem c_X8_hasPlaces {G : Gl} {d : Nat} {x1 : Int32} {x2 : Int32} {σ : Mem} {res : Int32 × Mem} (hd : isShelf d) (h : p_X8_hasPlaces d x1 x2 σ = some res) : MetX G yX8_hasPlaces cX8_hasPlaces 3 (some .boolean) 1 [.ref (ga G d), .int x1, .int x2] σ (some (.int res.1)) res.2 := by
  refine met_V (by decide +kernel) (Nat.le_of_ble_eq_true rfl) (fun X hC => ?_)
  have hC : Ok G 1 3 X cX8_hasPlaces RX8 (some .boolean) := hC
  unfold p_X8_hasPlaces at h
  show V G 1 3 X ((some (.int res.1)), res.2) σ [(0, .ref (ga G d)), (1, .int x1), (2, .int x2)] [] 0
  refine v_blk hC (is := [(.iload_n 2, 0)]) (pc' := 1) (ls' := [(0, .ref (ga G d)), (1, .int x1), (2, .int x2)]) (st' := [.int x2]) (by decide +kernel) rfl ?_
  refine v_if_lt hC (off := 29) (tgt := 30) (by decide +kernel) (by decide) h (fun hq h => ?_) (fun hq h => ?_)
  · refine v_blk hC (is := [(.iconst 0, (0 : Int32))]) (pc' := 31) (ls' := [(0, .ref (ga G d)), (1, .int x1), (2, .int x2)]) (st' := [.int (0 : Int32)]) (by decide +kernel) rfl ?_
    exact v_zret hC rfl h (by decide +kernel)
  · refine v_blk hC (is := [(.iload_n 2, 0), (.aload_n 0, 0)]) (pc' := 6) (ls' := [(0, .ref (ga G d)), (1, .int x1), (2, .int x2)]) (st' := [.ref (ga G d), .int x2]) (by decide +kernel) rfl ?_
    refine gX8_5 hC hd lfX8_20 (by decide +kernel) h (fun v1 h => ?_)
    refine v_icmp_gt hC (off := 21) (tgt := 30) (by decide +kernel) (by decide) h (fun hq h => ?_) (fun hq h => ?_)
    · refine v_blk hC (is := [(.iconst 0, (0 : Int32))]) (pc' := 31) (ls' := [(0, .ref (ga G d)), (1, .int x1), (2, .int x2)]) (st' := [.int (0 : Int32)]) (by decide +kernel) rfl ?_
      exact v_zret hC rfl h (by decide +kernel)
    · refine v_blk hC (is := [(.iload_n 1, 0)]) (pc' := 13) (ls' := [(0, .ref (ga G d)), (1, .int x1), (2, .int x2)]) (st' := [.int x1]) (by decide +kernel) rfl ?_
      refine v_if_lt hC (off := 17) (tgt := 30) (by decide +kernel) (by decide) h (fun hq h => ?_) (fun hq h => ?_)
      · refine v_blk hC (is := [(.iconst 0, (0 : Int32))]) (pc' := 31) (ls' := [(0, .ref (ga G d)), (1, .int x1), (2, .int x2)]) (st' := [.int (0 : Int32)]) (by decide +kernel) rfl ?_
        exact v_zret hC rfl h (by decide +kernel)
      · refine v_blk hC (is := [(.iload_n 1, 0), (.aload_n 0, 0)]) (pc' := 18) (ls' := [(0, .ref (ga G d)), (1, .int x1), (2, .int x2)]) (st' := [.ref (ga G d), .int x1]) (by decide +kernel) rfl ?_
        refine gX8_5 hC hd lfX8_20 (by decide +kernel) h (fun v2 h => ?_)
        refine v_blk hC (is := [(.iload_n 2, 0), (.isub, 0)]) (pc' := 23) (ls' := [(0, .ref (ga G d)), (1, .int x1), (2, .int x2)]) (st' := [.int (v2 - x2), .int x1]) (by decide +kernel) rfl ?_
        refine v_icmp_gt hC (off := 7) (tgt := 30) (by decide +kernel) (by decide) h (fun hq h => ?_) (fun hq h => ?_)
        · refine v_blk hC (is := [(.iconst 0, (0 : Int32))]) (pc' := 31) (ls' := [(0, .ref (ga G d)), (1, .int x1), (2, .int x2)]) (st' := [.int (0 : Int32)]) (by decide +kernel) rfl ?_
          exact v_zret hC rfl h (by decide +kernel)
        · refine v_blk hC (is := [(.iconst 1, (1 : Int32))]) (pc' := 27) (ls' := [(0, .ref (ga G d)), (1, .int x1), (2, .int x2)]) (st' := [.int (1 : Int32)]) (by decide +kernel) rfl ?_
          refine v_goto hC (off := 4) (tgt := 31) (by decide +kernel) (by decide) ?_
          exact v_zret hC rfl h (by decide +kernel)

def p_X8_digitsBehind (x0 : Int32) (σ : Mem) : Option (Int32 × Mem) := (if x0 = (98 : Int32) then some ((2 : Int32), σ) else (if x0 = (108 : Int32) then some ((1 : Int32), σ) else (if x0 = (110 : Int32) then some ((2 : Int32), σ) else (if x0 = (112 : Int32) then some ((2 : Int32), σ) else (if x0 = (115 : Int32) then some ((3 : Int32), σ) else (if x0 = (119 : Int32) then some ((1 : Int32), σ) else some ((0 : Int32), σ)))))))
set_option maxHeartbeats 4000000 in
set_option maxRecDepth 100000 in
theorem c_X8_digitsBehind {G : Gl} {x0 : Int32} {σ : Mem} {res : Int32 × Mem}  (h : p_X8_digitsBehind x0 σ = some res) : MetX G yX8_digitsBehind cX8_digitsBehind 1 (some .int) 1 [.int x0] σ (some (.int res.1)) res.2 := by
  refine met_V (by decide +kernel) (Nat.le_of_ble_eq_true rfl) (fun X hC => ?_)
  have hC : Ok G 1 1 X cX8_digitsBehind RX8 (some .int) := hC
  unfold p_X8_digitsBehind at h
  show V G 1 1 X ((some (.int res.1)), res.2) σ [(0, .int x0)] [] 0
  refine v_blk hC (is := [(.iload_n 0, 0)]) (pc' := 1) (ls' := [(0, .int x0)]) (st' := [.int x0]) (by decide +kernel) rfl ?_
  by_cases q1 : x0 = (98 : Int32)
  · replace h := br_pos h q1
    refine v_lsw hC (dflt := 65) (ps := #[(98, 61), (108, 59), (110, 61), (112, 61), (115, 63), (119, 59)]) (len := 59) (off := 61) (tgt := 62) (by decide +kernel) (by decide) (by rw [q1]; decide +kernel) (by decide) ?_
    refine v_blk hC (is := [(.iconst 2, (2 : Int32))]) (pc' := 63) (ls' := [(0, .int x0)]) (st' := [.int (2 : Int32)]) (by decide +kernel) rfl ?_
    exact v_iret hC h (by decide +kernel)
  replace h := br_neg h q1
  by_cases q2 : x0 = (108 : Int32)
  · replace h := br_pos h q2
    refine v_lsw hC (dflt := 65) (ps := #[(98, 61), (108, 59), (110, 61), (112, 61), (115, 63), (119, 59)]) (len := 59) (off := 59) (tgt := 60) (by decide +kernel) (by decide) (by refine (lv_osw q1 (by decide)).trans ?_; rw [q2]; decide +kernel) (by decide) ?_
    refine v_blk hC (is := [(.iconst 1, (1 : Int32))]) (pc' := 61) (ls' := [(0, .int x0)]) (st' := [.int (1 : Int32)]) (by decide +kernel) rfl ?_
    exact v_iret hC h (by decide +kernel)
  replace h := br_neg h q2
  by_cases q3 : x0 = (110 : Int32)
  · replace h := br_pos h q3
    refine v_lsw hC (dflt := 65) (ps := #[(98, 61), (108, 59), (110, 61), (112, 61), (115, 63), (119, 59)]) (len := 59) (off := 61) (tgt := 62) (by decide +kernel) (by decide) (by refine (lv_osw q1 (by decide)).trans ?_; refine (lv_osw q2 (by decide)).trans ?_; rw [q3]; decide +kernel) (by decide) ?_
    refine v_blk hC (is := [(.iconst 2, (2 : Int32))]) (pc' := 63) (ls' := [(0, .int x0)]) (st' := [.int (2 : Int32)]) (by decide +kernel) rfl ?_
    exact v_iret hC h (by decide +kernel)
  replace h := br_neg h q3
  by_cases q4 : x0 = (112 : Int32)
  · replace h := br_pos h q4
    refine v_lsw hC (dflt := 65) (ps := #[(98, 61), (108, 59), (110, 61), (112, 61), (115, 63), (119, 59)]) (len := 59) (off := 61) (tgt := 62) (by decide +kernel) (by decide) (by refine (lv_osw q1 (by decide)).trans ?_; refine (lv_osw q2 (by decide)).trans ?_; refine (lv_osw q3 (by decide)).trans ?_; rw [q4]; decide +kernel) (by decide) ?_
    refine v_blk hC (is := [(.iconst 2, (2 : Int32))]) (pc' := 63) (ls' := [(0, .int x0)]) (st' := [.int (2 : Int32)]) (by decide +kernel) rfl ?_
    exact v_iret hC h (by decide +kernel)
  replace h := br_neg h q4
  by_cases q5 : x0 = (115 : Int32)
  · replace h := br_pos h q5
    refine v_lsw hC (dflt := 65) (ps := #[(98, 61), (108, 59), (110, 61), (112, 61), (115, 63), (119, 59)]) (len := 59) (off := 63) (tgt := 64) (by decide +kernel) (by decide) (by refine (lv_osw q1 (by decide)).trans ?_; refine (lv_osw q2 (by decide)).trans ?_; refine (lv_osw q3 (by decide)).trans ?_; refine (lv_osw q4 (by decide)).trans ?_; rw [q5]; decide +kernel) (by decide) ?_
    refine v_blk hC (is := [(.iconst 3, (3 : Int32))]) (pc' := 65) (ls' := [(0, .int x0)]) (st' := [.int (3 : Int32)]) (by decide +kernel) rfl ?_
    exact v_iret hC h (by decide +kernel)
  replace h := br_neg h q5
  by_cases q6 : x0 = (119 : Int32)
  · replace h := br_pos h q6
    refine v_lsw hC (dflt := 65) (ps := #[(98, 61), (108, 59), (110, 61), (112, 61), (115, 63), (119, 59)]) (len := 59) (off := 59) (tgt := 60) (by decide +kernel) (by decide) (by refine (lv_osw q1 (by decide)).trans ?_; refine (lv_osw q2 (by decide)).trans ?_; refine (lv_osw q3 (by decide)).trans ?_; refine (lv_osw q4 (by decide)).trans ?_; refine (lv_osw q5 (by decide)).trans ?_; rw [q6]; decide +kernel) (by decide) ?_
    refine v_blk hC (is := [(.iconst 1, (1 : Int32))]) (pc' := 61) (ls' := [(0, .int x0)]) (st' := [.int (1 : Int32)]) (by decide +kernel) rfl ?_
    exact v_iret hC h (by decide +kernel)
  replace h := br_neg h q6
  refine v_lsw hC (dflt := 65) (ps := #[(98, 61), (108, 59), (110, 61), (112, 61), (115, 63), (119, 59)]) (len := 59) (off := 65) (tgt := 66) (by decide +kernel) (by decide) (by refine (lv_osw q1 (by decide)).trans ?_; refine (lv_osw q2 (by decide)).trans ?_; refine (lv_osw q3 (by decide)).trans ?_; refine (lv_osw q4 (by decide)).trans ?_; refine (lv_osw q5 (by decide)).trans ?_; refine (lv_osw q6 (by decide)).trans ?_; rfl) (by decide) ?_
  refine v_blk hC (is := [(.iconst 0, (0 : Int32))]) (pc' := 67) (ls' := [(0, .int x0)]) (st' := [.int (0 : Int32)]) (by decide +kernel) rfl ?_
  exact v_iret hC h (by decide +kernel)

def p_X8_lengthAt (d : Nat) (x1 : Int32) (σ : Mem) : Option (Int32 × Mem) := (if x1 < 0 ∨ 100 ≤ (x1).toNatClampNeg then none else lt (σ (8 + d) (x1).toNatClampNeg) fun v1 => (bnd (p_X8_digitsBehind v1 σ) fun v2 s3 => some ((v2 + (2 : Int32)), s3)))
set_option maxHeartbeats 4000000 in
set_option maxRecDepth 100000 in
theorem c_X8_lengthAt {G : Gl} {d : Nat} {x1 : Int32} {σ : Mem} {res : Int32 × Mem} (hd : isShelf d) (h : p_X8_lengthAt d x1 σ = some res) : MetX G yX8_lengthAt cX8_lengthAt 2 (some .int) 2 [.ref (ga G d), .int x1] σ (some (.int res.1)) res.2 := by
  refine met_V (by decide +kernel) (Nat.le_of_ble_eq_true rfl) (fun X hC => ?_)
  have hC : Ok G 2 2 X cX8_lengthAt RX8 (some .int) := hC
  unfold p_X8_lengthAt at h
  show V G 2 2 X ((some (.int res.1)), res.2) σ [(0, .ref (ga G d)), (1, .int x1)] [] 0
  refine v_blk hC (is := [(.aload_n 0, 0)]) (pc' := 1) (ls' := [(0, .ref (ga G d)), (1, .int x1)]) (st' := [.ref (ga G d)]) (by decide +kernel) rfl ?_
  refine gX8_0 hC hd lfX8_9 (by decide +kernel) ?_
  refine v_blk hC (is := [(.iload_n 1, 0)]) (pc' := 5) (ls' := [(0, .ref (ga G d)), (1, .int x1)]) (st' := [.int x1, .ref (ga G (8 + d))]) (by decide +kernel) rfl ?_
  refine v_iald hC (isA_cells hd) (al_cells hd) (by decide +kernel) h (fun v1 h => ?_)
  obtain ⟨v2, s3, e4, h⟩ := bndI h
  refine v_cS (idx := 30) hC ⟨tt_at 307 (by decide +kernel) rfl, tsX8_digitsBehind, tnX8_digitsBehind, tcX8_digitsBehind, tmX8_digitsBehind⟩ (c_X8_digitsBehind e4) (by decide) (by decide) (by decide +kernel) (rest := []) rfl rfl (Nat.le_of_ble_eq_true rfl) rfl ?_
  refine v_blk hC (is := [(.iconst 2, (2 : Int32)), (.iadd, 0)]) (pc' := 11) (ls' := [(0, .ref (ga G d)), (1, .int x1)]) (st' := [.int (v2 + (2 : Int32))]) (by decide +kernel) rfl ?_
  exact v_iret hC h (by decide +kernel)

def p_X8_brokenAt_B46 (k46 : Int32 → Int32 → Int32 → Int32 → Mem → Option (Int32 × Mem)) (k63 : Int32 → Int32 → Mem → Option (Int32 × Mem)) (k74 : Int32 → Int32 → Int32 → Mem → Option (Int32 × Mem)) (d : Nat) (x1 : Int32) (x2 : Int32) (x3 : Int32) (x4 : Int32) (σ : Mem) : Option (Int32 × Mem) := (if x3 < x4 then k74 x1 x2 x3 σ else (bnd (p_X8_digit d (x1 + x4) σ) fun v1 s2 => (if 0 ≤ v1 then k46 x1 x2 x3 (x4 + (1 : Int32)) s2 else k63 x1 x4 s2)))
def p_X8_brokenAt_L46 (k63 : Int32 → Int32 → Mem → Option (Int32 × Mem)) (k74 : Int32 → Int32 → Int32 → Mem → Option (Int32 × Mem)) (d : Nat) : Nat → Int32 → Int32 → Int32 → Int32 → Mem → Option (Int32 × Mem)
  | 0 => fun _ _ _ _ _ => none
  | f + 1 => p_X8_brokenAt_B46 (p_X8_brokenAt_L46 k63 k74 d f) k63 k74 d
def p_X8_brokenAt_B13 (k13 : Int32 → Int32 → Mem → Option (Int32 × Mem)) (k63 : Int32 → Int32 → Mem → Option (Int32 × Mem)) (d : Nat) (x1 : Int32) (x2 : Int32) (σ : Mem) : Option (Int32 × Mem) := (if (100 : Int32) ≤ x2 then some ((-1 : Int32), σ) else (lt (σ d 5) fun v4 => (if v4 ≤ x1 then some ((-1 : Int32), σ) else (if x1 < 0 ∨ 100 ≤ (x1).toNatClampNeg then none else lt (σ (8 + d) (x1).toNatClampNeg) fun v5 => (bnd (p_X8_digitsBehind v5 σ) fun v6 s7 => (if v6 = 0 then some (x1, s7) else (p_X8_brokenAt_L46 k63 (fun (x1 : Int32) (x2 : Int32) (x3 : Int32) (m9 : Mem) => (lt (m9 d 5) fun v10 => (if v10 ≤ ((x1 + x3) + (1 : Int32)) then some (((x1 + x3) + (1 : Int32)), m9) else (if ((x1 + x3) + (1 : Int32)) < 0 ∨ 100 ≤ (((x1 + x3) + (1 : Int32))).toNatClampNeg then none else lt (m9 (8 + d) (((x1 + x3) + (1 : Int32))).toNatClampNeg) fun v11 => (if v11 = (59 : Int32) then k13 (((x1 + x3) + (1 : Int32)) + (1 : Int32)) (x2 + (1 : Int32)) m9 else some (((x1 + x3) + (1 : Int32)), m9)))))) d 1000) x1 x2 v6 (1 : Int32) s7))))))
def p_X8_brokenAt_L13 (k63 : Int32 → Int32 → Mem → Option (Int32 × Mem)) (d : Nat) : Nat → Int32 → Int32 → Mem → Option (Int32 × Mem)
  | 0 => fun _ _ _ => none
  | f + 1 => p_X8_brokenAt_B13 (p_X8_brokenAt_L13 k63 d f) k63 d
def p_X8_brokenAt (d : Nat) (σ : Mem) : Option (Int32 × Mem) := (lt (σ d 5) fun v12 => (if v12 = 0 then some ((0 : Int32), σ) else (p_X8_brokenAt_L13 (fun (x1 : Int32) (x4 : Int32) (m13 : Mem) => some ((x1 + x4), m13)) d 1000) (0 : Int32) (0 : Int32) σ))
set_option maxHeartbeats 4000000 in
set_option maxRecDepth 100000 in
theorem c_X8_brokenAt {G : Gl} {d : Nat} {σ : Mem} {res : Int32 × Mem} (hd : isShelf d) (h : p_X8_brokenAt d σ = some res) : MetX G yX8_brokenAt cX8_brokenAt 5 (some .int) 2 [.ref (ga G d)] σ (some (.int res.1)) res.2 := by
  refine met_V (by decide +kernel) (Nat.le_of_ble_eq_true rfl) (fun X hC => ?_)
  have hC : Ok G 2 5 X cX8_brokenAt RX8 (some .int) := hC
  have hB46 : ∀ (k46 : Int32 → Int32 → Int32 → Int32 → Mem → Option (Int32 × Mem)), ∀ (k63 : Int32 → Int32 → Mem → Option (Int32 × Mem)), ∀ (k74 : Int32 → Int32 → Int32 → Mem → Option (Int32 × Mem)), (∀ (x1 : Int32), ∀ (x2 : Int32), ∀ (x3 : Int32), ∀ (x4 : Int32), ∀ σ : Mem, k46 x1 x2 x3 x4 σ = some res → V G 2 5 X ((some (.int res.1)), res.2) σ [(0, .ref (ga G d)), (1, .int x1), (2, .int x2), (3, .int x3), (4, .int x4)] [] 46) → (∀ (x1 : Int32), ∀ (x4 : Int32), ∀ σ : Mem, k63 x1 x4 σ = some res → V G 2 5 X ((some (.int res.1)), res.2) σ [(1, .int x1), (4, .int x4)] [] 63) → (∀ (x1 : Int32), ∀ (x2 : Int32), ∀ (x3 : Int32), ∀ σ : Mem, k74 x1 x2 x3 σ = some res → V G 2 5 X ((some (.int res.1)), res.2) σ [(0, .ref (ga G d)), (1, .int x1), (2, .int x2), (3, .int x3)] [] 74) → ∀ (x1 : Int32), ∀ (x2 : Int32), ∀ (x3 : Int32), ∀ (x4 : Int32), ∀ σ : Mem, p_X8_brokenAt_B46 k46 k63 k74 d x1 x2 x3 x4 σ = some res → V G 2 5 X ((some (.int res.1)), res.2) σ [(0, .ref (ga G d)), (1, .int x1), (2, .int x2), (3, .int x3), (4, .int x4)] [] 46 := by
    intro k46 k63 k74 hk46 hk63 hk74 x1 x2 x3 x4 σ h
    unfold p_X8_brokenAt_B46 at h
    refine v_blk hC (is := [(.iload 4, 0), (.iload_n 3, 0)]) (pc' := 49) (ls' := [(0, .ref (ga G d)), (1, .int x1), (2, .int x2), (3, .int x3), (4, .int x4)]) (st' := [.int x3, .int x4]) (by decide +kernel) rfl ?_
    refine v_icmp_gt hC (off := 25) (tgt := 74) (by decide +kernel) (by decide) h (fun hq h => ?_) (fun hq h => ?_)
    · refine v_sub [0, 1, 2, 3] (ls' := [(0, .ref (ga G d)), (1, .int x1), (2, .int x2), (3, .int x3)]) rfl ?_
      exact hk74 _ _ _ _ h
    · refine v_blk hC (is := [(.aload_n 0, 0), (.iload_n 1, 0), (.iload 4, 0), (.iadd, 0)]) (pc' := 57) (ls' := [(0, .ref (ga G d)), (1, .int x1), (2, .int x2), (3, .int x3), (4, .int x4)]) (st' := [.int (x1 + x4), .ref (ga G d)]) (by decide +kernel) rfl ?_
      obtain ⟨v1, s2, e3, h⟩ := bndI h
      refine v_cV (idx := 34) hC ⟨tt_at 310 (by decide +kernel) rfl, tiX8_digit, tvX8_digit, tnX8_digit, tcX8_digit, tmX8_digit⟩ (isO_X8 hd) rfl (c_X8_digit hd e3) (by decide) (by decide) (by decide +kernel) (rest := []) rfl rfl (Nat.le_of_ble_eq_true rfl) rfl ?_
      refine v_if_ge hC (off := 8) (tgt := 68) (by decide +kernel) (by decide) h (fun hq h => ?_) (fun hq h => ?_)
      · refine v_blk hC (is := [(.iinc 4 1, (1 : Int32))]) (pc' := 71) (ls' := [(4, .int (x4 + (1 : Int32))), (0, .ref (ga G d)), (1, .int x1), (2, .int x2), (3, .int x3)]) (st' := []) (by decide +kernel) rfl ?_
        refine v_goto hC (off := (-25)) (tgt := 46) (by decide +kernel) (by decide) ?_
        refine v_sub [1, 2, 3, 4, 0] (ls' := [(0, .ref (ga G d)), (1, .int x1), (2, .int x2), (3, .int x3), (4, .int (x4 + (1 : Int32)))]) rfl ?_
        exact hk46 _ _ _ _ _ h
      · refine v_sub [1, 4] (ls' := [(1, .int x1), (4, .int x4)]) rfl ?_
        exact hk63 _ _ _ h
  have hL46 : ∀ (k63 : Int32 → Int32 → Mem → Option (Int32 × Mem)), ∀ (k74 : Int32 → Int32 → Int32 → Mem → Option (Int32 × Mem)), (∀ (x1 : Int32), ∀ (x4 : Int32), ∀ σ : Mem, k63 x1 x4 σ = some res → V G 2 5 X ((some (.int res.1)), res.2) σ [(1, .int x1), (4, .int x4)] [] 63) → (∀ (x1 : Int32), ∀ (x2 : Int32), ∀ (x3 : Int32), ∀ σ : Mem, k74 x1 x2 x3 σ = some res → V G 2 5 X ((some (.int res.1)), res.2) σ [(0, .ref (ga G d)), (1, .int x1), (2, .int x2), (3, .int x3)] [] 74) → ∀ f : Nat, ∀ (x1 : Int32), ∀ (x2 : Int32), ∀ (x3 : Int32), ∀ (x4 : Int32), ∀ σ : Mem, p_X8_brokenAt_L46 k63 k74 d f x1 x2 x3 x4 σ = some res → V G 2 5 X ((some (.int res.1)), res.2) σ [(0, .ref (ga G d)), (1, .int x1), (2, .int x2), (3, .int x3), (4, .int x4)] [] 46 := by
    intro k63 k74 hk63 hk74 f
    induction f with
    | zero => intro x1 x2 x3 x4 σ h; exact none_some h
    | succ f ih => intro x1 x2 x3 x4 σ h; exact hB46 (p_X8_brokenAt_L46 k63 k74 d f) k63 k74 ih hk63 hk74 x1 x2 x3 x4 σ h
  have hB13 : ∀ (k13 : Int32 → Int32 → Mem → Option (Int32 × Mem)), ∀ (k63 : Int32 → Int32 → Mem → Option (Int32 × Mem)), (∀ (x1 : Int32), ∀ (x2 : Int32), ∀ σ : Mem, k13 x1 x2 σ = some res → V G 2 5 X ((some (.int res.1)), res.2) σ [(0, .ref (ga G d)), (1, .int x1), (2, .int x2)] [] 13) → (∀ (x1 : Int32), ∀ (x4 : Int32), ∀ σ : Mem, k63 x1 x4 σ = some res → V G 2 5 X ((some (.int res.1)), res.2) σ [(1, .int x1), (4, .int x4)] [] 63) → ∀ (x1 : Int32), ∀ (x2 : Int32), ∀ σ : Mem, p_X8_brokenAt_B13 k13 k63 d x1 x2 σ = some res → V G 2 5 X ((some (.int res.1)), res.2) σ [(0, .ref (ga G d)), (1, .int x1), (2, .int x2)] [] 13 := by
    intro k13 k63 hk13 hk63 x1 x2 σ h
    unfold p_X8_brokenAt_B13 at h
    refine v_blk hC (is := [(.iload_n 2, 0), (.bipush 100, (100 : Int32))]) (pc' := 16) (ls' := [(0, .ref (ga G d)), (1, .int x1), (2, .int x2)]) (st' := [.int (100 : Int32), .int x2]) (by decide +kernel) rfl ?_
    refine v_icmp_ge hC (off := 100) (tgt := 116) (by decide +kernel) (by decide) h (fun hq h => ?_) (fun hq h => ?_)
    · refine v_blk hC (is := [(.iconst (-1), (-1 : Int32))]) (pc' := 117) (ls' := [(0, .ref (ga G d)), (1, .int x1), (2, .int x2)]) (st' := [.int (-1 : Int32)]) (by decide +kernel) rfl ?_
      exact v_iret hC h (by decide +kernel)
    · refine v_blk hC (is := [(.iload_n 1, 0), (.aload_n 0, 0)]) (pc' := 21) (ls' := [(0, .ref (ga G d)), (1, .int x1), (2, .int x2)]) (st' := [.ref (ga G d), .int x1]) (by decide +kernel) rfl ?_
      refine gX8_5 hC hd lfX8_20 (by decide +kernel) h (fun v4 h => ?_)
      refine v_icmp_ge hC (off := 92) (tgt := 116) (by decide +kernel) (by decide) h (fun hq h => ?_) (fun hq h => ?_)
      · refine v_blk hC (is := [(.iconst (-1), (-1 : Int32))]) (pc' := 117) (ls' := [(0, .ref (ga G d)), (1, .int x1), (2, .int x2)]) (st' := [.int (-1 : Int32)]) (by decide +kernel) rfl ?_
        exact v_iret hC h (by decide +kernel)
      · refine v_blk hC (is := [(.aload_n 0, 0)]) (pc' := 28) (ls' := [(0, .ref (ga G d)), (1, .int x1), (2, .int x2)]) (st' := [.ref (ga G d)]) (by decide +kernel) rfl ?_
        refine gX8_0 hC hd lfX8_9 (by decide +kernel) ?_
        refine v_blk hC (is := [(.iload_n 1, 0)]) (pc' := 32) (ls' := [(0, .ref (ga G d)), (1, .int x1), (2, .int x2)]) (st' := [.int x1, .ref (ga G (8 + d))]) (by decide +kernel) rfl ?_
        refine v_iald hC (isA_cells hd) (al_cells hd) (by decide +kernel) h (fun v5 h => ?_)
        obtain ⟨v6, s7, e8, h⟩ := bndI h
        refine v_cS (idx := 30) hC ⟨tt_at 307 (by decide +kernel) rfl, tsX8_digitsBehind, tnX8_digitsBehind, tcX8_digitsBehind, tmX8_digitsBehind⟩ (c_X8_digitsBehind e8) (by decide) (by decide) (by decide +kernel) (rest := []) rfl rfl (Nat.le_of_ble_eq_true rfl) rfl ?_
        refine v_blk hC (is := [(.istore_n 3, 0), (.iload_n 3, 0)]) (pc' := 38) (ls' := [(3, .int v6), (0, .ref (ga G d)), (1, .int x1), (2, .int x2)]) (st' := [.int v6]) (by decide +kernel) rfl ?_
        refine v_if_ne hC (off := 5) (tgt := 43) (by decide +kernel) (by decide) h (fun hq h => ?_) (fun hq h => ?_)
        · refine v_blk hC (is := [(.iconst 1, (1 : Int32)), (.istore 4, 0)]) (pc' := 46) (ls' := [(4, .int (1 : Int32)), (3, .int v6), (0, .ref (ga G d)), (1, .int x1), (2, .int x2)]) (st' := []) (by decide +kernel) rfl ?_
          refine v_sub [2, 3, 4, 1, 0] (ls' := [(0, .ref (ga G d)), (1, .int x1), (2, .int x2), (3, .int v6), (4, .int (1 : Int32))]) rfl ?_
          exact (hL46 _ _ hk63 (fun x1 x2 x3  m9 h => by
                refine v_blk hC (is := [(.iload_n 1, 0), (.iload_n 3, 0), (.iadd, 0), (.iconst 1, (1 : Int32)), (.iadd, 0), (.istore 4, 0), (.iload 4, 0), (.aload_n 0, 0)]) (pc' := 84) (ls' := [(4, .int ((x1 + x3) + (1 : Int32))), (0, .ref (ga G d)), (1, .int x1), (2, .int x2), (3, .int x3)]) (st' := [.ref (ga G d), .int ((x1 + x3) + (1 : Int32))]) (by decide +kernel) rfl ?_
                refine gX8_5 hC hd lfX8_20 (by decide +kernel) h (fun v10 h => ?_)
                refine v_icmp_ge hC (off := 15) (tgt := 102) (by decide +kernel) (by decide) h (fun hq h => ?_) (fun hq h => ?_)
                · refine v_blk hC (is := [(.iload 4, 0)]) (pc' := 104) (ls' := [(4, .int ((x1 + x3) + (1 : Int32))), (0, .ref (ga G d)), (1, .int x1), (2, .int x2), (3, .int x3)]) (st' := [.int ((x1 + x3) + (1 : Int32))]) (by decide +kernel) rfl ?_
                  exact v_iret hC h (by decide +kernel)
                · refine v_blk hC (is := [(.aload_n 0, 0)]) (pc' := 91) (ls' := [(4, .int ((x1 + x3) + (1 : Int32))), (0, .ref (ga G d)), (1, .int x1), (2, .int x2), (3, .int x3)]) (st' := [.ref (ga G d)]) (by decide +kernel) rfl ?_
                  refine gX8_0 hC hd lfX8_9 (by decide +kernel) ?_
                  refine v_blk hC (is := [(.iload 4, 0)]) (pc' := 96) (ls' := [(4, .int ((x1 + x3) + (1 : Int32))), (0, .ref (ga G d)), (1, .int x1), (2, .int x2), (3, .int x3)]) (st' := [.int ((x1 + x3) + (1 : Int32)), .ref (ga G (8 + d))]) (by decide +kernel) rfl ?_
                  refine v_iald hC (isA_cells hd) (al_cells hd) (by decide +kernel) h (fun v11 h => ?_)
                  refine v_blk hC (is := [(.bipush 59, (59 : Int32))]) (pc' := 99) (ls' := [(4, .int ((x1 + x3) + (1 : Int32))), (0, .ref (ga G d)), (1, .int x1), (2, .int x2), (3, .int x3)]) (st' := [.int (59 : Int32), .int v11]) (by decide +kernel) rfl ?_
                  refine v_icmp_eq hC (off := 6) (tgt := 105) (by decide +kernel) (by decide) h (fun hq h => ?_) (fun hq h => ?_)
                  · refine v_blk hC (is := [(.iload 4, 0), (.iconst 1, (1 : Int32)), (.iadd, 0), (.istore_n 1, 0), (.iinc 2 1, (1 : Int32))]) (pc' := 113) (ls' := [(2, .int (x2 + (1 : Int32))), (1, .int (((x1 + x3) + (1 : Int32)) + (1 : Int32))), (4, .int ((x1 + x3) + (1 : Int32))), (0, .ref (ga G d)), (3, .int x3)]) (st' := []) (by decide +kernel) rfl ?_
                    refine v_goto hC (off := (-100)) (tgt := 13) (by decide +kernel) (by decide) ?_
                    refine v_sub [3, 1, 0] (ls' := [(0, .ref (ga G d)), (1, .int (((x1 + x3) + (1 : Int32)) + (1 : Int32))), (2, .int (x2 + (1 : Int32)))]) rfl ?_
                    exact hk13 _ _ _ h
                  · refine v_blk hC (is := [(.iload 4, 0)]) (pc' := 104) (ls' := [(4, .int ((x1 + x3) + (1 : Int32))), (0, .ref (ga G d)), (1, .int x1), (2, .int x2), (3, .int x3)]) (st' := [.int ((x1 + x3) + (1 : Int32))]) (by decide +kernel) rfl ?_
                    exact v_iret hC h (by decide +kernel)) 1000) _ _ _ _ _ h
        · refine v_blk hC (is := [(.iload_n 1, 0)]) (pc' := 42) (ls' := [(3, .int v6), (0, .ref (ga G d)), (1, .int x1), (2, .int x2)]) (st' := [.int x1]) (by decide +kernel) rfl ?_
          exact v_iret hC h (by decide +kernel)
  have hL13 : ∀ (k63 : Int32 → Int32 → Mem → Option (Int32 × Mem)), (∀ (x1 : Int32), ∀ (x4 : Int32), ∀ σ : Mem, k63 x1 x4 σ = some res → V G 2 5 X ((some (.int res.1)), res.2) σ [(1, .int x1), (4, .int x4)] [] 63) → ∀ f : Nat, ∀ (x1 : Int32), ∀ (x2 : Int32), ∀ σ : Mem, p_X8_brokenAt_L13 k63 d f x1 x2 σ = some res → V G 2 5 X ((some (.int res.1)), res.2) σ [(0, .ref (ga G d)), (1, .int x1), (2, .int x2)] [] 13 := by
    intro k63 hk63 f
    induction f with
    | zero => intro x1 x2 σ h; exact none_some h
    | succ f ih => intro x1 x2 σ h; exact hB13 (p_X8_brokenAt_L13 k63 d f) k63 ih hk63 x1 x2 σ h
  unfold p_X8_brokenAt at h
  show V G 2 5 X ((some (.int res.1)), res.2) σ [(0, .ref (ga G d))] [] 0
  refine v_blk hC (is := [(.aload_n 0, 0)]) (pc' := 1) (ls' := [(0, .ref (ga G d))]) (st' := [.ref (ga G d)]) (by decide +kernel) rfl ?_
  refine gX8_5 hC hd lfX8_20 (by decide +kernel) h (fun v12 h => ?_)
  refine v_if_ne hC (off := 5) (tgt := 9) (by decide +kernel) (by decide) h (fun hq h => ?_) (fun hq h => ?_)
  · refine v_blk hC (is := [(.iconst 0, (0 : Int32)), (.istore_n 1, 0), (.iconst 0, (0 : Int32)), (.istore_n 2, 0)]) (pc' := 13) (ls' := [(2, .int (0 : Int32)), (1, .int (0 : Int32)), (0, .ref (ga G d))]) (st' := []) (by decide +kernel) rfl ?_
    refine v_sub [2, 1, 0] (ls' := [(0, .ref (ga G d)), (1, .int (0 : Int32)), (2, .int (0 : Int32))]) rfl ?_
    exact (hL13 _ (fun x1 x4  m13 h => by
        refine v_blk hC (is := [(.iload_n 1, 0), (.iload 4, 0), (.iadd, 0)]) (pc' := 67) (ls' := [(1, .int x1), (4, .int x4)]) (st' := [.int (x1 + x4)]) (by decide +kernel) rfl ?_
        exact v_iret hC h (by decide +kernel)) 1000) _ _ _ h
  · refine v_blk hC (is := [(.iconst 0, (0 : Int32))]) (pc' := 8) (ls' := [(0, .ref (ga G d))]) (st' := [.int (0 : Int32)]) (by decide +kernel) rfl ?_
    exact v_iret hC h (by decide +kernel)
