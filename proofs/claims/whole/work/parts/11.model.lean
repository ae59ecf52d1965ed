def p_X12_isIn (x0 : Int32) (x1 : Int32) (x2 : Int32) (σ : Mem) : Option (Int32 × Mem) := (if x0 < x1 then some ((0 : Int32), σ) else (if x2 < x0 then some ((0 : Int32), σ) else some ((1 : Int32), σ)))
set_option maxHeartbeats 4000000 in
set_option maxRecDepth 100000 in
theorem c_X12_isIn {G : Gl} {x0 : Int32} {x1 : Int32} {x2 : Int32} {σ : Mem} {res : Int32 × Mem}  (h : p_X12_isIn x0 x1 x2 σ = some res) : MetX G yX12_isIn cX12_isIn 3 (some .boolean) 1 [.int x0, .int x1, .int x2] σ (some (.int res.1)) res.2 := by
  refine met_V (by decide +kernel) (Nat.le_of_ble_eq_true rfl) (fun X hC => ?_)
  have hC : Ok G 1 3 X cX12_isIn RX12 (some .boolean) := hC
  unfold p_X12_isIn at h
  show V G 1 3 X ((some (.int res.1)), res.2) σ [(0, .int x0), (1, .int x1), (2, .int x2)] [] 0
  refine v_blk hC (is := [(.iload_n 0, 0), (.iload_n 1, 0)]) (pc' := 2) (ls' := [(0, .int x0), (1, .int x1), (2, .int x2)]) (st' := [.int x1, .int x0]) (by decide +kernel) rfl ?_
  refine v_icmp_lt hC (off := 12) (tgt := 14) (by decide +kernel) (by decide) h (fun hq h => ?_) (fun hq h => ?_)
  · refine v_blk hC (is := [(.iconst 0, (0 : Int32))]) (pc' := 15) (ls' := [(0, .int x0), (1, .int x1), (2, .int x2)]) (st' := [.int (0 : Int32)]) (by decide +kernel) rfl ?_
    exact v_zret hC rfl h (by decide +kernel)
  · refine v_blk hC (is := [(.iload_n 0, 0), (.iload_n 2, 0)]) (pc' := 7) (ls' := [(0, .int x0), (1, .int x1), (2, .int x2)]) (st' := [.int x2, .int x0]) (by decide +kernel) rfl ?_
    refine v_icmp_gt hC (off := 7) (tgt := 14) (by decide +kernel) (by decide) h (fun hq h => ?_) (fun hq h => ?_)
    · refine v_blk hC (is := [(.iconst 0, (0 : Int32))]) (pc' := 15) (ls' := [(0, .int x0), (1, .int x1), (2, .int x2)]) (st' := [.int (0 : Int32)]) (by decide +kernel) rfl ?_
      exact v_zret hC rfl h (by decide +kernel)
    · refine v_blk hC (is := [(.iconst 1, (1 : Int32))]) (pc' := 11) (ls' := [(0, .int x0), (1, .int x1), (2, .int x2)]) (st' := [.int (1 : Int32)]) (by decide +kernel) rfl ?_
      refine v_goto hC (off := 4) (tgt := 15) (by decide +kernel) (by decide) ?_
      exact v_zret hC rfl h (by decide +kernel)

def p_X12_copies_B2 (k2 : Int32 → Mem → Option (Unit × Mem)) (x0 : Nat) (x1 : Nat) (x2 : Int32) (σ : Mem) : Option (Unit × Mem) := (if (100 : Int32) ≤ x2 then some ((), σ) else (if x2 < 0 ∨ 100 ≤ (x2).toNatClampNeg then none else lt (σ x0 (x2).toNatClampNeg) fun v1 => (if x2 < 0 ∨ 100 ≤ (x2).toNatClampNeg then none else wr σ x1 (x2).toNatClampNeg v1 fun s2 => k2 (x2 + (1 : Int32)) s2)))
def p_X12_copies_L2  (x0 : Nat) (x1 : Nat) : Nat → Int32 → Mem → Option (Unit × Mem)
  | 0 => fun _ _ => none
  | f + 1 => p_X12_copies_B2 (p_X12_copies_L2 x0 x1 f) x0 x1
def p_X12_copies (x0 : Nat) (x1 : Nat) (σ : Mem) : Option (Unit × Mem) := (p_X12_copies_L2 x0 x1 1000) (0 : Int32) σ
set_option maxHeartbeats 4000000 in
set_option maxRecDepth 100000 in
theorem c_X12_copies {G : Gl} {x0 : Nat} {x1 : Nat} {σ : Mem} {res : Unit × Mem} (hx0 : isRow x0) (hx1 : isRow x1) (h : p_X12_copies x0 x1 σ = some res) : MetX G yX12_copies cX12_copies 3 none 1 [.ref (ga G x0), .ref (ga G x1)] σ none res.2 := by
  refine met_V (by decide +kernel) (Nat.le_of_ble_eq_true rfl) (fun X hC => ?_)
  have hC : Ok G 1 3 X cX12_copies RX12 none := hC
  have hB2 : ∀ (k2 : Int32 → Mem → Option (Unit × Mem)), (∀ (x2 : Int32), ∀ σ : Mem, k2 x2 σ = some res → V G 1 3 X (none, res.2) σ [(0, .ref (ga G x0)), (1, .ref (ga G x1)), (2, .int x2)] [] 2) → ∀ (x2 : Int32), ∀ σ : Mem, p_X12_copies_B2 k2 x0 x1 x2 σ = some res → V G 1 3 X (none, res.2) σ [(0, .ref (ga G x0)), (1, .ref (ga G x1)), (2, .int x2)] [] 2 := by
    intro k2 hk2 x2 σ h
    unfold p_X12_copies_B2 at h
    refine v_blk hC (is := [(.iload_n 2, 0), (.bipush 100, (100 : Int32))]) (pc' := 5) (ls' := [(0, .ref (ga G x0)), (1, .ref (ga G x1)), (2, .int x2)]) (st' := [.int (100 : Int32), .int x2]) (by decide +kernel) rfl ?_
    refine v_icmp_ge hC (off := 15) (tgt := 20) (by decide +kernel) (by decide) h (fun hq h => ?_) (fun hq h => ?_)
    · exact v_vret hC h (by decide +kernel)
    · refine v_blk hC (is := [(.aload_n 1, 0), (.iload_n 2, 0), (.aload_n 0, 0), (.iload_n 2, 0)]) (pc' := 12) (ls' := [(0, .ref (ga G x0)), (1, .ref (ga G x1)), (2, .int x2)]) (st' := [.int x2, .ref (ga G x0), .int x2, .ref (ga G x1)]) (by decide +kernel) rfl ?_
      refine v_iald hC (isA_row hx0) (al_row hx0) (by decide +kernel) h (fun v1 h => ?_)
      refine v_iast hC (isA_row hx1) (al_row hx1) (by decide +kernel) h (fun s2 h => ?_)
      refine v_blk hC (is := [(.iinc 2 1, (1 : Int32))]) (pc' := 17) (ls' := [(2, .int (x2 + (1 : Int32))), (0, .ref (ga G x0)), (1, .ref (ga G x1))]) (st' := []) (by decide +kernel) rfl ?_
      refine v_goto hC (off := (-15)) (tgt := 2) (by decide +kernel) (by decide) ?_
      refine v_sub [1, 2, 0] (ls' := [(0, .ref (ga G x0)), (1, .ref (ga G x1)), (2, .int (x2 + (1 : Int32)))]) rfl ?_
      exact hk2 _ _ h
  have hL2 : ∀ f : Nat, ∀ (x2 : Int32), ∀ σ : Mem, p_X12_copies_L2 x0 x1 f x2 σ = some res → V G 1 3 X (none, res.2) σ [(0, .ref (ga G x0)), (1, .ref (ga G x1)), (2, .int x2)] [] 2 := by
    intro  f
    induction f with
    | zero => intro x2 σ h; exact none_some h
    | succ f ih => intro x2 σ h; exact hB2 (p_X12_copies_L2 x0 x1 f)  ih  x2 σ h
  unfold p_X12_copies at h
  show V G 1 3 X (none, res.2) σ [(0, .ref (ga G x0)), (1, .ref (ga G x1))] [] 0
  refine v_blk hC (is := [(.iconst 0, (0 : Int32)), (.istore_n 2, 0)]) (pc' := 2) (ls' := [(2, .int (0 : Int32)), (0, .ref (ga G x0)), (1, .ref (ga G x1))]) (st' := []) (by decide +kernel) rfl ?_
  refine v_sub [1, 2, 0] (ls' := [(0, .ref (ga G x0)), (1, .ref (ga G x1)), (2, .int (0 : Int32))]) rfl ?_
  exact (hL2 1000) _ _ h

def p_X12_of (x0 : Int32) (x1 : Int32) (σ : Mem) : Option (Int32 × Mem) := some ((((4 : Int32) + ((4 : Int32) * x0)) + x1), σ)
set_option maxHeartbeats 4000000 in
set_option maxRecDepth 100000 in
theorem c_X12_of {G : Gl} {x0 : Int32} {x1 : Int32} {σ : Mem} {res : Int32 × Mem}  (h : p_X12_of x0 x1 σ = some res) : MetX G yX12_of cX12_of 2 (some .int) 1 [.int x0, .int x1] σ (some (.int res.1)) res.2 := by
  refine met_V (by decide +kernel) (Nat.le_of_ble_eq_true rfl) (fun X hC => ?_)
  have hC : Ok G 1 2 X cX12_of RX12 (some .int) := hC
  unfold p_X12_of at h
  show V G 1 2 X ((some (.int res.1)), res.2) σ [(0, .int x0), (1, .int x1)] [] 0
  refine v_blk hC (is := [(.iconst 4, (4 : Int32)), (.iconst 4, (4 : Int32)), (.iload_n 0, 0), (.imul, 0), (.iadd, 0), (.iload_n 1, 0), (.iadd, 0)]) (pc' := 7) (ls' := [(0, .int x0), (1, .int x1)]) (st' := [.int (((4 : Int32) + ((4 : Int32) * x0)) + x1)]) (by decide +kernel) rfl ?_
  exact v_iret hC h (by decide +kernel)

def p_X12_by (x0 : Int32) (x1 : Int32) (σ : Mem) : Option (Int32 × Mem) := some ((((36 : Int32) + ((8 : Int32) * x0)) + x1), σ)
set_option maxHeartbeats 4000000 in
set_option maxRecDepth 100000 in
theorem c_X12_by {G : Gl} {x0 : Int32} {x1 : Int32} {σ : Mem} {res : Int32 × Mem}  (h : p_X12_by x0 x1 σ = some res) : MetX G yX12_by cX12_by 2 (some .int) 1 [.int x0, .int x1] σ (some (.int res.1)) res.2 := by
  refine met_V (by decide +kernel) (Nat.le_of_ble_eq_true rfl) (fun X hC => ?_)
  have hC : Ok G 1 2 X cX12_by RX12 (some .int) := hC
  unfold p_X12_by at h
  show V G 1 2 X ((some (.int res.1)), res.2) σ [(0, .int x0), (1, .int x1)] [] 0
  refine v_blk hC (is := [(.bipush 36, (36 : Int32)), (.bipush 8, (8 : Int32)), (.iload_n 0, 0), (.imul, 0), (.iadd, 0), (.iload_n 1, 0), (.iadd, 0)]) (pc' := 9) (ls' := [(0, .int x0), (1, .int x1)]) (st' := [.int (((36 : Int32) + ((8 : Int32) * x0)) + x1)]) (by decide +kernel) rfl ?_
  exact v_iret hC h (by decide +kernel)

def p_X12_isMan (x1 : Int32) (σ : Mem) : Option (Int32 × Mem) := (if (0 : Int32) < 0 ∨ 100 ≤ ((0 : Int32)).toNatClampNeg then none else lt (σ 66 ((0 : Int32)).toNatClampNeg) fun v1 => (bnd (p_X12_isIn x1 (0 : Int32) (v1 - (1 : Int32)) σ) fun v2 s3 => rz v2 s3))
set_option maxHeartbeats 4000000 in
set_option maxRecDepth 100000 in
theorem c_X12_isMan {G : Gl} {x1 : Int32} {σ : Mem} {res : Int32 × Mem}  (h : p_X12_isMan x1 σ = some res) : MetX G yX12_isMan cX12_isMan 2 (some .boolean) 2 [.ref (ga G 65), .int x1] σ (some (.int res.1)) res.2 := by
  refine met_V (by decide +kernel) (Nat.le_of_ble_eq_true rfl) (fun X hC => ?_)
  have hC : Ok G 2 2 X cX12_isMan RX12 (some .boolean) := hC
  unfold p_X12_isMan at h
  show V G 2 2 X ((some (.int res.1)), res.2) σ [(0, .ref (ga G 65)), (1, .int x1)] [] 0
  refine v_blk hC (is := [(.iload_n 1, 0), (.iconst 0, (0 : Int32)), (.aload_n 0, 0)]) (pc' := 3) (ls' := [(0, .ref (ga G 65)), (1, .int x1)]) (st' := [.ref (ga G 65), .int (0 : Int32), .int x1]) (by decide +kernel) rfl ?_
  refine gX12_0 hC lfX12_9 (by decide +kernel) ?_
  refine v_blk hC (is := [(.iconst 0, (0 : Int32))]) (pc' := 7) (ls' := [(0, .ref (ga G 65)), (1, .int x1)]) (st' := [.int (0 : Int32), .ref (ga G 66), .int (0 : Int32), .int x1]) (by decide +kernel) rfl ?_
  refine v_iald hC isA_66 rfl (by decide +kernel) h (fun v1 h => ?_)
  refine v_blk hC (is := [(.iconst 1, (1 : Int32)), (.isub, 0)]) (pc' := 10) (ls' := [(0, .ref (ga G 65)), (1, .int x1)]) (st' := [.int (v1 - (1 : Int32)), .int (0 : Int32), .int x1]) (by decide +kernel) rfl ?_
  obtain ⟨v2, s3, e4, h⟩ := bndI h
  refine v_cS (idx := 49) hC ⟨tt_at 1118 (by decide +kernel) rfl, tsX12_isIn, tnX12_isIn, tcX12_isIn, tmX12_isIn⟩ (c_X12_isIn e4) (by decide) (by decide) (by decide +kernel) (rest := []) rfl rfl (Nat.le_of_ble_eq_true rfl) rfl ?_
  exact v_zretC hC h (by decide +kernel)

def p_X12_areTwo (x1 : Int32) (x2 : Int32) (σ : Mem) : Option (Int32 × Mem) := (bnd (p_X12_isMan x1 σ) fun v1 s2 => (if v1 = 0 then some ((0 : Int32), s2) else (bnd (p_X12_isMan x2 s2) fun v4 s5 => (if v4 = 0 then some ((0 : Int32), s5) else (if x1 = x2 then some ((0 : Int32), s5) else some ((1 : Int32), s5))))))
set_option maxHeartbeats 4000000 in
set_option maxRecDepth 100000 in
theorem c_X12_areTwo {G : Gl} {x1 : Int32} {x2 : Int32} {σ : Mem} {res : Int32 × Mem}  (h : p_X12_areTwo x1 x2 σ = some res) : MetX G yX12_areTwo cX12_areTwo 3 (some .boolean) 3 [.ref (ga G 65), .int x1, .int x2] σ (some (.int res.1)) res.2 := by
  refine met_V (by decide +kernel) (Nat.le_of_ble_eq_true rfl) (fun X hC => ?_)
  have hC : Ok G 3 3 X cX12_areTwo RX12 (some .boolean) := hC
  unfold p_X12_areTwo at h
  show V G 3 3 X ((some (.int res.1)), res.2) σ [(0, .ref (ga G 65)), (1, .int x1), (2, .int x2)] [] 0
  refine v_blk hC (is := [(.aload_n 0, 0), (.iload_n 1, 0)]) (pc' := 2) (ls' := [(0, .ref (ga G 65)), (1, .int x1), (2, .int x2)]) (st' := [.int x1, .ref (ga G 65)]) (by decide +kernel) rfl ?_
  obtain ⟨v1, s2, e3, h⟩ := bndI h
  refine v_cV (idx := 53) hC ⟨tt_at 1150 (by decide +kernel) rfl, tiX12_isMan, tvX12_isMan, tnX12_isMan, tcX12_isMan, tmX12_isMan⟩ isO_X12 rfl (c_X12_isMan e3) (by decide) (by decide) (by decide +kernel) (rest := []) rfl rfl (Nat.le_of_ble_eq_true rfl) rfl ?_
  refine v_if_eq hC (off := 20) (tgt := 25) (by decide +kernel) (by decide) h (fun hq h => ?_) (fun hq h => ?_)
  · refine v_blk hC (is := [(.iconst 0, (0 : Int32))]) (pc' := 26) (ls' := [(0, .ref (ga G 65)), (1, .int x1), (2, .int x2)]) (st' := [.int (0 : Int32)]) (by decide +kernel) rfl ?_
    exact v_zret hC rfl h (by decide +kernel)
  · refine v_blk hC (is := [(.aload_n 0, 0), (.iload_n 2, 0)]) (pc' := 10) (ls' := [(0, .ref (ga G 65)), (1, .int x1), (2, .int x2)]) (st' := [.int x2, .ref (ga G 65)]) (by decide +kernel) rfl ?_
    obtain ⟨v4, s5, e6, h⟩ := bndI h
    refine v_cV (idx := 53) hC ⟨tt_at 1150 (by decide +kernel) rfl, tiX12_isMan, tvX12_isMan, tnX12_isMan, tcX12_isMan, tmX12_isMan⟩ isO_X12 rfl (c_X12_isMan e6) (by decide) (by decide) (by decide +kernel) (rest := []) rfl rfl (Nat.le_of_ble_eq_true rfl) rfl ?_
    refine v_if_eq hC (off := 12) (tgt := 25) (by decide +kernel) (by decide) h (fun hq h => ?_) (fun hq h => ?_)
    · refine v_blk hC (is := [(.iconst 0, (0 : Int32))]) (pc' := 26) (ls' := [(0, .ref (ga G 65)), (1, .int x1), (2, .int x2)]) (st' := [.int (0 : Int32)]) (by decide +kernel) rfl ?_
      exact v_zret hC rfl h (by decide +kernel)
    · refine v_blk hC (is := [(.iload_n 1, 0), (.iload_n 2, 0)]) (pc' := 18) (ls' := [(0, .ref (ga G 65)), (1, .int x1), (2, .int x2)]) (st' := [.int x2, .int x1]) (by decide +kernel) rfl ?_
      refine v_icmp_eq hC (off := 7) (tgt := 25) (by decide +kernel) (by decide) h (fun hq h => ?_) (fun hq h => ?_)
      · refine v_blk hC (is := [(.iconst 0, (0 : Int32))]) (pc' := 26) (ls' := [(0, .ref (ga G 65)), (1, .int x1), (2, .int x2)]) (st' := [.int (0 : Int32)]) (by decide +kernel) rfl ?_
        exact v_zret hC rfl h (by decide +kernel)
      · refine v_blk hC (is := [(.iconst 1, (1 : Int32))]) (pc' := 22) (ls' := [(0, .ref (ga G 65)), (1, .int x1), (2, .int x2)]) (st' := [.int (1 : Int32)]) (by decide +kernel) rfl ?_
        refine v_goto hC (off := 4) (tgt := 26) (by decide +kernel) (by decide) ?_
        exact v_zret hC rfl h (by decide +kernel)

def p_X12_isBoat (x0 : Int32) (σ : Mem) : Option (Int32 × Mem) := (bnd (p_X12_isIn x0 (0 : Int32) (2 : Int32) σ) fun v1 s2 => rz v1 s2)
set_option maxHeartbeats 4000000 in
set_option maxRecDepth 100000 in
theorem c_X12_isBoat {G : Gl} {x0 : Int32} {σ : Mem} {res : Int32 × Mem}  (h : p_X12_isBoat x0 σ = some res) : MetX G yX12_isBoat cX12_isBoat 1 (some .boolean) 2 [.int x0] σ (some (.int res.1)) res.2 := by
  refine met_V (by decide +kernel) (Nat.le_of_ble_eq_true rfl) (fun X hC => ?_)
  have hC : Ok G 2 1 X cX12_isBoat RX12 (some .boolean) := hC
  unfold p_X12_isBoat at h
  show V G 2 1 X ((some (.int res.1)), res.2) σ [(0, .int x0)] [] 0
  refine v_blk hC (is := [(.iload_n 0, 0), (.iconst 0, (0 : Int32)), (.iconst 2, (2 : Int32))]) (pc' := 3) (ls' := [(0, .int x0)]) (st' := [.int (2 : Int32), .int (0 : Int32), .int x0]) (by decide +kernel) rfl ?_
  obtain ⟨v1, s2, e3, h⟩ := bndI h
  refine v_cS (idx := 49) hC ⟨tt_at 1118 (by decide +kernel) rfl, tsX12_isIn, tnX12_isIn, tcX12_isIn, tmX12_isIn⟩ (c_X12_isIn e3) (by decide) (by decide) (by decide +kernel) (rest := []) rfl rfl (Nat.le_of_ble_eq_true rfl) rfl ?_
  exact v_zretC hC h (by decide +kernel)

def p_X12_has (x0 : Int32) (x1 : Int32) (σ : Mem) : Option (Int32 × Mem) := (if ((x0 >>> (x1 &&& 31)) &&& (1 : Int32)) = (1 : Int32) then some ((1 : Int32), σ) else some ((0 : Int32), σ))
set_option maxHeartbeats 4000000 in
set_option maxRecDepth 100000 in
theorem c_X12_has {G : Gl} {x0 : Int32} {x1 : Int32} {σ : Mem} {res : Int32 × Mem}  (h : p_X12_has x0 x1 σ = some res) : MetX G yX12_has cX12_has 2 (some .boolean) 1 [.int x0, .int x1] σ (some (.int res.1)) res.2 := by
  refine met_V (by decide +kernel) (Nat.le_of_ble_eq_true rfl) (fun X hC => ?_)
  have hC : Ok G 1 2 X cX12_has RX12 (some .boolean) := hC
  unfold p_X12_has at h
  show V G 1 2 X ((some (.int res.1)), res.2) σ [(0, .int x0), (1, .int x1)] [] 0
  refine v_blk hC (is := [(.iload_n 0, 0), (.iload_n 1, 0), (.ishr, 0), (.iconst 1, (1 : Int32)), (.iand, 0), (.iconst 1, (1 : Int32))]) (pc' := 6) (ls' := [(0, .int x0), (1, .int x1)]) (st' := [.int (1 : Int32), .int ((x0 >>> (x1 &&& 31)) &&& (1 : Int32))]) (by decide +kernel) rfl ?_
  refine v_icmp_ne hC (off := 7) (tgt := 13) (by decide +kernel) (by decide) h (fun hq h => ?_) (fun hq h => ?_)
  · refine v_blk hC (is := [(.iconst 0, (0 : Int32))]) (pc' := 14) (ls' := [(0, .int x0), (1, .int x1)]) (st' := [.int (0 : Int32)]) (by decide +kernel) rfl ?_
    exact v_zret hC rfl h (by decide +kernel)
  · refine v_blk hC (is := [(.iconst 1, (1 : Int32))]) (pc' := 10) (ls' := [(0, .int x0), (1, .int x1)]) (st' := [.int (1 : Int32)]) (by decide +kernel) rfl ?_
    refine v_goto hC (off := 4) (tgt := 14) (by decide +kernel) (by decide) ?_
    exact v_zret hC rfl h (by decide +kernel)

def p_X12_bits_B4 (k4 : Int32 → Int32 → Mem → Option (Int32 × Mem)) (x0 : Int32) (x1 : Int32) (x2 : Int32) (σ : Mem) : Option (Int32 × Mem) := (if (10 : Int32) ≤ x2 then some (x1, σ) else k4 (x1 + ((x0 >>> (x2 &&& 31)) &&& (1 : Int32))) (x2 + (1 : Int32)) σ)
def p_X12_bits_L4  (x0 : Int32) : Nat → Int32 → Int32 → Mem → Option (Int32 × Mem)
  | 0 => fun _ _ _ => none
  | f + 1 => p_X12_bits_B4 (p_X12_bits_L4 x0 f) x0
def p_X12_bits (x0 : Int32) (σ : Mem) : Option (Int32 × Mem) := (p_X12_bits_L4 x0 1000) (0 : Int32) (0 : Int32) σ
set_option maxHeartbeats 4000000 in
set_option maxRecDepth 100000 in
theorem c_X12_bits {G : Gl} {x0 : Int32} {σ : Mem} {res : Int32 × Mem}  (h : p_X12_bits x0 σ = some res) : MetX G yX12_bits cX12_bits 3 (some .int) 1 [.int x0] σ (some (.int res.1)) res.2 := by
  refine met_V (by decide +kernel) (Nat.le_of_ble_eq_true rfl) (fun X hC => ?_)
  have hC : Ok G 1 3 X cX12_bits RX12 (some .int) := hC
  have hB4 : ∀ (k4 : Int32 → Int32 → Mem → Option (Int32 × Mem)), (∀ (x1 : Int32), ∀ (x2 : Int32), ∀ σ : Mem, k4 x1 x2 σ = some res → V G 1 3 X ((some (.int res.1)), res.2) σ [(0, .int x0), (1, .int x1), (2, .int x2)] [] 4) → ∀ (x1 : Int32), ∀ (x2 : Int32), ∀ σ : Mem, p_X12_bits_B4 k4 x0 x1 x2 σ = some res → V G 1 3 X ((some (.int res.1)), res.2) σ [(0, .int x0), (1, .int x1), (2, .int x2)] [] 4 := by
    intro k4 hk4 x1 x2 σ h
    unfold p_X12_bits_B4 at h
    refine v_blk hC (is := [(.iload_n 2, 0), (.bipush 10, (10 : Int32))]) (pc' := 7) (ls' := [(0, .int x0), (1, .int x1), (2, .int x2)]) (st' := [.int (10 : Int32), .int x2]) (by decide +kernel) rfl ?_
    refine v_icmp_ge hC (off := 17) (tgt := 24) (by decide +kernel) (by decide) h (fun hq h => ?_) (fun hq h => ?_)
    · refine v_blk hC (is := [(.iload_n 1, 0)]) (pc' := 25) (ls' := [(0, .int x0), (1, .int x1), (2, .int x2)]) (st' := [.int x1]) (by decide +kernel) rfl ?_
      exact v_iret hC h (by decide +kernel)
    · refine v_blk hC (is := [(.iload_n 1, 0), (.iload_n 0, 0), (.iload_n 2, 0), (.ishr, 0), (.iconst 1, (1 : Int32)), (.iand, 0), (.iadd, 0), (.istore_n 1, 0), (.iinc 2 1, (1 : Int32))]) (pc' := 21) (ls' := [(2, .int (x2 + (1 : Int32))), (1, .int (x1 + ((x0 >>> (x2 &&& 31)) &&& (1 : Int32)))), (0, .int x0)]) (st' := []) (by decide +kernel) rfl ?_
      refine v_goto hC (off := (-17)) (tgt := 4) (by decide +kernel) (by decide) ?_
      refine v_sub [2, 1, 0] (ls' := [(0, .int x0), (1, .int (x1 + ((x0 >>> (x2 &&& 31)) &&& (1 : Int32)))), (2, .int (x2 + (1 : Int32)))]) rfl ?_
      exact hk4 _ _ _ h
  have hL4 : ∀ f : Nat, ∀ (x1 : Int32), ∀ (x2 : Int32), ∀ σ : Mem, p_X12_bits_L4 x0 f x1 x2 σ = some res → V G 1 3 X ((some (.int res.1)), res.2) σ [(0, .int x0), (1, .int x1), (2, .int x2)] [] 4 := by
    intro  f
    induction f with
    | zero => intro x1 x2 σ h; exact none_some h
    | succ f ih => intro x1 x2 σ h; exact hB4 (p_X12_bits_L4 x0 f)  ih  x1 x2 σ h
  unfold p_X12_bits at h
  show V G 1 3 X ((some (.int res.1)), res.2) σ [(0, .int x0)] [] 0
  refine v_blk hC (is := [(.iconst 0, (0 : Int32)), (.istore_n 1, 0), (.iconst 0, (0 : Int32)), (.istore_n 2, 0)]) (pc' := 4) (ls' := [(2, .int (0 : Int32)), (1, .int (0 : Int32)), (0, .int x0)]) (st' := []) (by decide +kernel) rfl ?_
  refine v_sub [2, 1, 0] (ls' := [(0, .int x0), (1, .int (0 : Int32)), (2, .int (0 : Int32))]) rfl ?_
  exact (hL4 1000) _ _ _ h

def p_X12_skill (x0 : Int32) (x1 : Int32) (σ : Mem) : Option (Int32 × Mem) := (if x0 = (1 : Int32) then some ((x1 + (3 : Int32)), σ) else (if x0 = (2 : Int32) then some ((x1 / (2 : Int32)), σ) else (if x0 = (3 : Int32) then some ((0 : Int32), σ) else (if x0 = (4 : Int32) then some (((2 : Int32) * (x1 + (3 : Int32))), σ) else (if x0 = (5 : Int32) then some (((x1 / (2 : Int32)) + (1 : Int32)), σ) else (if x0 = (6 : Int32) then some (x1, σ) else (if x0 = (7 : Int32) then some ((9 : Int32), σ) else some (x1, σ))))))))
set_option maxHeartbeats 4000000 in
set_option maxRecDepth 100000 in
theorem c_X12_skill {G : Gl} {x0 : Int32} {x1 : Int32} {σ : Mem} {res : Int32 × Mem}  (h : p_X12_skill x0 x1 σ = some res) : MetX G yX12_skill cX12_skill 2 (some .int) 1 [.int x0, .int x1] σ (some (.int res.1)) res.2 := by
  refine met_V (by decide +kernel) (Nat.le_of_ble_eq_true rfl) (fun X hC => ?_)
  have hC : Ok G 1 2 X cX12_skill RX12 (some .int) := hC
  unfold p_X12_skill at h
  show V G 1 2 X ((some (.int res.1)), res.2) σ [(0, .int x0), (1, .int x1)] [] 0
  refine v_blk hC (is := [(.iload_n 0, 0)]) (pc' := 1) (ls' := [(0, .int x0), (1, .int x1)]) (st' := [.int x0]) (by decide +kernel) rfl ?_
  by_cases q1 : x0 = (1 : Int32)
  · replace h := br_pos h q1
    refine v_tin hC (dflt := 68) (lo := 1) (hi := 7) (offs := #[43, 47, 51, 53, 59, 68, 65]) (len := 43) (off := 43) (tgt := 44) (by decide +kernel) (by rw [q1]; decide) (by rw [q1]; decide) (by rw [q1]; decide) (by decide) ?_
    refine v_blk hC (is := [(.iload_n 1, 0), (.iconst 3, (3 : Int32)), (.iadd, 0)]) (pc' := 47) (ls' := [(0, .int x0), (1, .int x1)]) (st' := [.int (x1 + (3 : Int32))]) (by decide +kernel) rfl ?_
    exact v_iret hC h (by decide +kernel)
  replace h := br_neg h q1
  by_cases q2 : x0 = (2 : Int32)
  · replace h := br_pos h q2
    refine v_tin hC (dflt := 68) (lo := 1) (hi := 7) (offs := #[43, 47, 51, 53, 59, 68, 65]) (len := 43) (off := 47) (tgt := 48) (by decide +kernel) (by rw [q2]; decide) (by rw [q2]; decide) (by rw [q2]; decide) (by decide) ?_
    refine v_blk hC (is := [(.iload_n 1, 0), (.iconst 2, (2 : Int32))]) (pc' := 50) (ls' := [(0, .int x0), (1, .int x1)]) (st' := [.int (2 : Int32), .int x1]) (by decide +kernel) rfl ?_
    refine v_idiv hC (by decide +kernel) (by decide) ?_
    exact v_iret hC h (by decide +kernel)
  replace h := br_neg h q2
  by_cases q3 : x0 = (3 : Int32)
  · replace h := br_pos h q3
    refine v_tin hC (dflt := 68) (lo := 1) (hi := 7) (offs := #[43, 47, 51, 53, 59, 68, 65]) (len := 43) (off := 51) (tgt := 52) (by decide +kernel) (by rw [q3]; decide) (by rw [q3]; decide) (by rw [q3]; decide) (by decide) ?_
    refine v_blk hC (is := [(.iconst 0, (0 : Int32))]) (pc' := 53) (ls' := [(0, .int x0), (1, .int x1)]) (st' := [.int (0 : Int32)]) (by decide +kernel) rfl ?_
    exact v_iret hC h (by decide +kernel)
  replace h := br_neg h q3
  by_cases q4 : x0 = (4 : Int32)
  · replace h := br_pos h q4
    refine v_tin hC (dflt := 68) (lo := 1) (hi := 7) (offs := #[43, 47, 51, 53, 59, 68, 65]) (len := 43) (off := 53) (tgt := 54) (by decide +kernel) (by rw [q4]; decide) (by rw [q4]; decide) (by rw [q4]; decide) (by decide) ?_
    refine v_blk hC (is := [(.iconst 2, (2 : Int32)), (.iload_n 1, 0), (.iconst 3, (3 : Int32)), (.iadd, 0), (.imul, 0)]) (pc' := 59) (ls' := [(0, .int x0), (1, .int x1)]) (st' := [.int ((2 : Int32) * (x1 + (3 : Int32)))]) (by decide +kernel) rfl ?_
    exact v_iret hC h (by decide +kernel)
  replace h := br_neg h q4
  by_cases q5 : x0 = (5 : Int32)
  · replace h := br_pos h q5
    refine v_tin hC (dflt := 68) (lo := 1) (hi := 7) (offs := #[43, 47, 51, 53, 59, 68, 65]) (len := 43) (off := 59) (tgt := 60) (by decide +kernel) (by rw [q5]; decide) (by rw [q5]; decide) (by rw [q5]; decide) (by decide) ?_
    refine v_blk hC (is := [(.iload_n 1, 0), (.iconst 2, (2 : Int32))]) (pc' := 62) (ls' := [(0, .int x0), (1, .int x1)]) (st' := [.int (2 : Int32), .int x1]) (by decide +kernel) rfl ?_
    refine v_idiv hC (by decide +kernel) (by decide) ?_
    refine v_blk hC (is := [(.iconst 1, (1 : Int32)), (.iadd, 0)]) (pc' := 65) (ls' := [(0, .int x0), (1, .int x1)]) (st' := [.int ((x1 / (2 : Int32)) + (1 : Int32))]) (by decide +kernel) rfl ?_
    exact v_iret hC h (by decide +kernel)
  replace h := br_neg h q5
  by_cases q6 : x0 = (6 : Int32)
  · replace h := br_pos h q6
    refine v_tin hC (dflt := 68) (lo := 1) (hi := 7) (offs := #[43, 47, 51, 53, 59, 68, 65]) (len := 43) (off := 68) (tgt := 69) (by decide +kernel) (by rw [q6]; decide) (by rw [q6]; decide) (by rw [q6]; decide) (by decide) ?_
    refine v_blk hC (is := [(.iload_n 1, 0)]) (pc' := 70) (ls' := [(0, .int x0), (1, .int x1)]) (st' := [.int x1]) (by decide +kernel) rfl ?_
    exact v_iret hC h (by decide +kernel)
  replace h := br_neg h q6
  by_cases q7 : x0 = (7 : Int32)
  · replace h := br_pos h q7
    refine v_tin hC (dflt := 68) (lo := 1) (hi := 7) (offs := #[43, 47, 51, 53, 59, 68, 65]) (len := 43) (off := 65) (tgt := 66) (by decide +kernel) (by rw [q7]; decide) (by rw [q7]; decide) (by rw [q7]; decide) (by decide) ?_
    refine v_blk hC (is := [(.bipush 9, (9 : Int32))]) (pc' := 68) (ls' := [(0, .int x0), (1, .int x1)]) (st' := [.int (9 : Int32)]) (by decide +kernel) rfl ?_
    exact v_iret hC h (by decide +kernel)
  replace h := br_neg h q7
  refine v_tout hC (dflt := 68) (lo := 1) (hi := 7) (offs := #[43, 47, 51, 53, 59, 68, 65]) (len := 43) (tgt := 69) (by decide +kernel) (by have wq1 := lv_neT q1 (a := 1) (by decide); have wq2 := lv_neT q2 (a := 2) (by decide); have wq3 := lv_neT q3 (a := 3) (by decide); have wq4 := lv_neT q4 (a := 4) (by decide); have wq5 := lv_neT q5 (a := 5) (by decide); have wq6 := lv_neT q6 (a := 6) (by decide); have wq7 := lv_neT q7 (a := 7) (by decide); omega) (by decide) ?_
  refine v_blk hC (is := [(.iload_n 1, 0)]) (pc' := 70) (ls' := [(0, .int x0), (1, .int x1)]) (st' := [.int x1]) (by decide +kernel) rfl ?_
  exact v_iret hC h (by decide +kernel)

def p_X12_risk (x0 : Int32) (x1 : Int32) (x2 : Int32) (σ : Mem) : Option (Int32 × Mem) := (if x0 = (1 : Int32) then some ((0 : Int32), σ) else (if x0 = (2 : Int32) then some (((x1 - x1 / (5 : Int32) * (5 : Int32)) + (4 : Int32)), σ) else (if x0 = (3 : Int32) then some ((0 : Int32), σ) else (if x0 = (4 : Int32) then some ((1 : Int32), σ) else (if x0 = (5 : Int32) then some ((((x1 - x1 / (5 : Int32) * (5 : Int32)) + (4 : Int32)) - (x2 - x2 / (2 : Int32) * (2 : Int32))), σ) else (if x0 = (6 : Int32) then some (((x1 + x2) - (x1 + x2) / (10 : Int32) * (10 : Int32)), σ) else (if x0 = (7 : Int32) then some ((0 : Int32), σ) else some ((x1 - x1 / (5 : Int32) * (5 : Int32)), σ))))))))
set_option maxHeartbeats 4000000 in
set_option maxRecDepth 100000 in
theorem c_X12_risk {G : Gl} {x0 : Int32} {x1 : Int32} {x2 : Int32} {σ : Mem} {res : Int32 × Mem}  (h : p_X12_risk x0 x1 x2 σ = some res) : MetX G yX12_risk cX12_risk 3 (some .int) 1 [.int x0, .int x1, .int x2] σ (some (.int res.1)) res.2 := by
  refine met_V (by decide +kernel) (Nat.le_of_ble_eq_true rfl) (fun X hC => ?_)
  have hC : Ok G 1 3 X cX12_risk RX12 (some .int) := hC
  unfold p_X12_risk at h
  show V G 1 3 X ((some (.int res.1)), res.2) σ [(0, .int x0), (1, .int x1), (2, .int x2)] [] 0
  refine v_blk hC (is := [(.iload_n 0, 0)]) (pc' := 1) (ls' := [(0, .int x0), (1, .int x1), (2, .int x2)]) (st' := [.int x0]) (by decide +kernel) rfl ?_
  by_cases q1 : x0 = (1 : Int32)
  · replace h := br_pos h q1
    refine v_tin hC (dflt := 70) (lo := 1) (hi := 7) (offs := #[43, 45, 43, 51, 53, 63, 43]) (len := 43) (off := 43) (tgt := 44) (by decide +kernel) (by rw [q1]; decide) (by rw [q1]; decide) (by rw [q1]; decide) (by decide) ?_
    refine v_blk hC (is := [(.iconst 0, (0 : Int32))]) (pc' := 45) (ls' := [(0, .int x0), (1, .int x1), (2, .int x2)]) (st' := [.int (0 : Int32)]) (by decide +kernel) rfl ?_
    exact v_iret hC h (by decide +kernel)
  replace h := br_neg h q1
  by_cases q2 : x0 = (2 : Int32)
  · replace h := br_pos h q2
    refine v_tin hC (dflt := 70) (lo := 1) (hi := 7) (offs := #[43, 45, 43, 51, 53, 63, 43]) (len := 43) (off := 45) (tgt := 46) (by decide +kernel) (by rw [q2]; decide) (by rw [q2]; decide) (by rw [q2]; decide) (by decide) ?_
    refine v_blk hC (is := [(.iload_n 1, 0), (.iconst 5, (5 : Int32))]) (pc' := 48) (ls' := [(0, .int x0), (1, .int x1), (2, .int x2)]) (st' := [.int (5 : Int32), .int x1]) (by decide +kernel) rfl ?_
    refine v_irem hC (by decide +kernel) (by decide) ?_
    refine v_blk hC (is := [(.iconst 4, (4 : Int32)), (.iadd, 0)]) (pc' := 51) (ls' := [(0, .int x0), (1, .int x1), (2, .int x2)]) (st' := [.int ((x1 - x1 / (5 : Int32) * (5 : Int32)) + (4 : Int32))]) (by decide +kernel) rfl ?_
    exact v_iret hC h (by decide +kernel)
  replace h := br_neg h q2
  by_cases q3 : x0 = (3 : Int32)
  · replace h := br_pos h q3
    refine v_tin hC (dflt := 70) (lo := 1) (hi := 7) (offs := #[43, 45, 43, 51, 53, 63, 43]) (len := 43) (off := 43) (tgt := 44) (by decide +kernel) (by rw [q3]; decide) (by rw [q3]; decide) (by rw [q3]; decide) (by decide) ?_
    refine v_blk hC (is := [(.iconst 0, (0 : Int32))]) (pc' := 45) (ls' := [(0, .int x0), (1, .int x1), (2, .int x2)]) (st' := [.int (0 : Int32)]) (by decide +kernel) rfl ?_
    exact v_iret hC h (by decide +kernel)
  replace h := br_neg h q3
  by_cases q4 : x0 = (4 : Int32)
  · replace h := br_pos h q4
    refine v_tin hC (dflt := 70) (lo := 1) (hi := 7) (offs := #[43, 45, 43, 51, 53, 63, 43]) (len := 43) (off := 51) (tgt := 52) (by decide +kernel) (by rw [q4]; decide) (by rw [q4]; decide) (by rw [q4]; decide) (by decide) ?_
    refine v_blk hC (is := [(.iconst 1, (1 : Int32))]) (pc' := 53) (ls' := [(0, .int x0), (1, .int x1), (2, .int x2)]) (st' := [.int (1 : Int32)]) (by decide +kernel) rfl ?_
    exact v_iret hC h (by decide +kernel)
  replace h := br_neg h q4
  by_cases q5 : x0 = (5 : Int32)
  · replace h := br_pos h q5
    refine v_tin hC (dflt := 70) (lo := 1) (hi := 7) (offs := #[43, 45, 43, 51, 53, 63, 43]) (len := 43) (off := 53) (tgt := 54) (by decide +kernel) (by rw [q5]; decide) (by rw [q5]; decide) (by rw [q5]; decide) (by decide) ?_
    refine v_blk hC (is := [(.iload_n 1, 0), (.iconst 5, (5 : Int32))]) (pc' := 56) (ls' := [(0, .int x0), (1, .int x1), (2, .int x2)]) (st' := [.int (5 : Int32), .int x1]) (by decide +kernel) rfl ?_
    refine v_irem hC (by decide +kernel) (by decide) ?_
    refine v_blk hC (is := [(.iconst 4, (4 : Int32)), (.iadd, 0), (.iload_n 2, 0), (.iconst 2, (2 : Int32))]) (pc' := 61) (ls' := [(0, .int x0), (1, .int x1), (2, .int x2)]) (st' := [.int (2 : Int32), .int x2, .int ((x1 - x1 / (5 : Int32) * (5 : Int32)) + (4 : Int32))]) (by decide +kernel) rfl ?_
    refine v_irem hC (by decide +kernel) (by decide) ?_
    refine v_blk hC (is := [(.isub, 0)]) (pc' := 63) (ls' := [(0, .int x0), (1, .int x1), (2, .int x2)]) (st' := [.int (((x1 - x1 / (5 : Int32) * (5 : Int32)) + (4 : Int32)) - (x2 - x2 / (2 : Int32) * (2 : Int32)))]) (by decide +kernel) rfl ?_
    exact v_iret hC h (by decide +kernel)
  replace h := br_neg h q5
  by_cases q6 : x0 = (6 : Int32)
  · replace h := br_pos h q6
    refine v_tin hC (dflt := 70) (lo := 1) (hi := 7) (offs := #[43, 45, 43, 51, 53, 63, 43]) (len := 43) (off := 63) (tgt := 64) (by decide +kernel) (by rw [q6]; decide) (by rw [q6]; decide) (by rw [q6]; decide) (by decide) ?_
    refine v_blk hC (is := [(.iload_n 1, 0), (.iload_n 2, 0), (.iadd, 0), (.bipush 10, (10 : Int32))]) (pc' := 69) (ls' := [(0, .int x0), (1, .int x1), (2, .int x2)]) (st' := [.int (10 : Int32), .int (x1 + x2)]) (by decide +kernel) rfl ?_
    refine v_irem hC (by decide +kernel) (by decide) ?_
    exact v_iret hC h (by decide +kernel)
  replace h := br_neg h q6
  by_cases q7 : x0 = (7 : Int32)
  · replace h := br_pos h q7
    refine v_tin hC (dflt := 70) (lo := 1) (hi := 7) (offs := #[43, 45, 43, 51, 53, 63, 43]) (len := 43) (off := 43) (tgt := 44) (by decide +kernel) (by rw [q7]; decide) (by rw [q7]; decide) (by rw [q7]; decide) (by decide) ?_
    refine v_blk hC (is := [(.iconst 0, (0 : Int32))]) (pc' := 45) (ls' := [(0, .int x0), (1, .int x1), (2, .int x2)]) (st' := [.int (0 : Int32)]) (by decide +kernel) rfl ?_
    exact v_iret hC h (by decide +kernel)
  replace h := br_neg h q7
  refine v_tout hC (dflt := 70) (lo := 1) (hi := 7) (offs := #[43, 45, 43, 51, 53, 63, 43]) (len := 43) (tgt := 71) (by decide +kernel) (by have wq1 := lv_neT q1 (a := 1) (by decide); have wq2 := lv_neT q2 (a := 2) (by decide); have wq3 := lv_neT q3 (a := 3) (by decide); have wq4 := lv_neT q4 (a := 4) (by decide); have wq5 := lv_neT q5 (a := 5) (by decide); have wq6 := lv_neT q6 (a := 6) (by decide); have wq7 := lv_neT q7 (a := 7) (by decide); omega) (by decide) ?_
  refine v_blk hC (is := [(.iload_n 1, 0), (.iconst 5, (5 : Int32))]) (pc' := 73) (ls' := [(0, .int x0), (1, .int x1), (2, .int x2)]) (st' := [.int (5 : Int32), .int x1]) (by decide +kernel) rfl ?_
  refine v_irem hC (by decide +kernel) (by decide) ?_
  exact v_iret hC h (by decide +kernel)

def p_X12_reach (x0 : Int32) (x1 : Int32) (σ : Mem) : Option (Int32 × Mem) := (if x0 = (1 : Int32) then some (((6 : Int32) + (x1 / (3 : Int32))), σ) else (if x0 = (2 : Int32) then some ((1 : Int32), σ) else (if x0 = (3 : Int32) then some ((0 : Int32), σ) else (if x0 = (4 : Int32) then some (((5 : Int32) + (x1 / (3 : Int32))), σ) else (if x0 = (5 : Int32) then some ((2 : Int32), σ) else (if x0 = (6 : Int32) then some (((3 : Int32) + (x1 / (3 : Int32))), σ) else (if x0 = (7 : Int32) then some ((9 : Int32), σ) else some (((3 : Int32) + (x1 / (3 : Int32))), σ))))))))
set_option maxHeartbeats 4000000 in
set_option maxRecDepth 100000 in
theorem c_X12_reach {G : Gl} {x0 : Int32} {x1 : Int32} {σ : Mem} {res : Int32 × Mem}  (h : p_X12_reach x0 x1 σ = some res) : MetX G yX12_reach cX12_reach 2 (some .int) 1 [.int x0, .int x1] σ (some (.int res.1)) res.2 := by
  refine met_V (by decide +kernel) (Nat.le_of_ble_eq_true rfl) (fun X hC => ?_)
  have hC : Ok G 1 2 X cX12_reach RX12 (some .int) := hC
  unfold p_X12_reach at h
  show V G 1 2 X ((some (.int res.1)), res.2) σ [(0, .int x0), (1, .int x1)] [] 0
  refine v_blk hC (is := [(.iload_n 0, 0)]) (pc' := 1) (ls' := [(0, .int x0), (1, .int x1)]) (st' := [.int x0]) (by decide +kernel) rfl ?_
  by_cases q1 : x0 = (1 : Int32)
  · replace h := br_pos h q1
    refine v_tin hC (dflt := 65) (lo := 1) (hi := 7) (offs := #[43, 50, 52, 54, 60, 65, 62]) (len := 43) (off := 43) (tgt := 44) (by decide +kernel) (by rw [q1]; decide) (by rw [q1]; decide) (by rw [q1]; decide) (by decide) ?_
    refine v_blk hC (is := [(.bipush 6, (6 : Int32)), (.iload_n 1, 0), (.iconst 3, (3 : Int32))]) (pc' := 48) (ls' := [(0, .int x0), (1, .int x1)]) (st' := [.int (3 : Int32), .int x1, .int (6 : Int32)]) (by decide +kernel) rfl ?_
    refine v_idiv hC (by decide +kernel) (by decide) ?_
    refine v_blk hC (is := [(.iadd, 0)]) (pc' := 50) (ls' := [(0, .int x0), (1, .int x1)]) (st' := [.int ((6 : Int32) + (x1 / (3 : Int32)))]) (by decide +kernel) rfl ?_
    exact v_iret hC h (by decide +kernel)
  replace h := br_neg h q1
  by_cases q2 : x0 = (2 : Int32)
  · replace h := br_pos h q2
    refine v_tin hC (dflt := 65) (lo := 1) (hi := 7) (offs := #[43, 50, 52, 54, 60, 65, 62]) (len := 43) (off := 50) (tgt := 51) (by decide +kernel) (by rw [q2]; decide) (by rw [q2]; decide) (by rw [q2]; decide) (by decide) ?_
    refine v_blk hC (is := [(.iconst 1, (1 : Int32))]) (pc' := 52) (ls' := [(0, .int x0), (1, .int x1)]) (st' := [.int (1 : Int32)]) (by decide +kernel) rfl ?_
    exact v_iret hC h (by decide +kernel)
  replace h := br_neg h q2
  by_cases q3 : x0 = (3 : Int32)
  · replace h := br_pos h q3
    refine v_tin hC (dflt := 65) (lo := 1) (hi := 7) (offs := #[43, 50, 52, 54, 60, 65, 62]) (len := 43) (off := 52) (tgt := 53) (by decide +kernel) (by rw [q3]; decide) (by rw [q3]; decide) (by rw [q3]; decide) (by decide) ?_
    refine v_blk hC (is := [(.iconst 0, (0 : Int32))]) (pc' := 54) (ls' := [(0, .int x0), (1, .int x1)]) (st' := [.int (0 : Int32)]) (by decide +kernel) rfl ?_
    exact v_iret hC h (by decide +kernel)
  replace h := br_neg h q3
  by_cases q4 : x0 = (4 : Int32)
  · replace h := br_pos h q4
    refine v_tin hC (dflt := 65) (lo := 1) (hi := 7) (offs := #[43, 50, 52, 54, 60, 65, 62]) (len := 43) (off := 54) (tgt := 55) (by decide +kernel) (by rw [q4]; decide) (by rw [q4]; decide) (by rw [q4]; decide) (by decide) ?_
    refine v_blk hC (is := [(.iconst 5, (5 : Int32)), (.iload_n 1, 0), (.iconst 3, (3 : Int32))]) (pc' := 58) (ls' := [(0, .int x0), (1, .int x1)]) (st' := [.int (3 : Int32), .int x1, .int (5 : Int32)]) (by decide +kernel) rfl ?_
    refine v_idiv hC (by decide +kernel) (by decide) ?_
    refine v_blk hC (is := [(.iadd, 0)]) (pc' := 60) (ls' := [(0, .int x0), (1, .int x1)]) (st' := [.int ((5 : Int32) + (x1 / (3 : Int32)))]) (by decide +kernel) rfl ?_
    exact v_iret hC h (by decide +kernel)
  replace h := br_neg h q4
  by_cases q5 : x0 = (5 : Int32)
  · replace h := br_pos h q5
    refine v_tin hC (dflt := 65) (lo := 1) (hi := 7) (offs := #[43, 50, 52, 54, 60, 65, 62]) (len := 43) (off := 60) (tgt := 61) (by decide +kernel) (by rw [q5]; decide) (by rw [q5]; decide) (by rw [q5]; decide) (by decide) ?_
    refine v_blk hC (is := [(.iconst 2, (2 : Int32))]) (pc' := 62) (ls' := [(0, .int x0), (1, .int x1)]) (st' := [.int (2 : Int32)]) (by decide +kernel) rfl ?_
    exact v_iret hC h (by decide +kernel)
  replace h := br_neg h q5
  by_cases q6 : x0 = (6 : Int32)
  · replace h := br_pos h q6
    refine v_tin hC (dflt := 65) (lo := 1) (hi := 7) (offs := #[43, 50, 52, 54, 60, 65, 62]) (len := 43) (off := 65) (tgt := 66) (by decide +kernel) (by rw [q6]; decide) (by rw [q6]; decide) (by rw [q6]; decide) (by decide) ?_
    refine v_blk hC (is := [(.iconst 3, (3 : Int32)), (.iload_n 1, 0), (.iconst 3, (3 : Int32))]) (pc' := 69) (ls' := [(0, .int x0), (1, .int x1)]) (st' := [.int (3 : Int32), .int x1, .int (3 : Int32)]) (by decide +kernel) rfl ?_
    refine v_idiv hC (by decide +kernel) (by decide) ?_
    refine v_blk hC (is := [(.iadd, 0)]) (pc' := 71) (ls' := [(0, .int x0), (1, .int x1)]) (st' := [.int ((3 : Int32) + (x1 / (3 : Int32)))]) (by decide +kernel) rfl ?_
    exact v_iret hC h (by decide +kernel)
  replace h := br_neg h q6
  by_cases q7 : x0 = (7 : Int32)
  · replace h := br_pos h q7
    refine v_tin hC (dflt := 65) (lo := 1) (hi := 7) (offs := #[43, 50, 52, 54, 60, 65, 62]) (len := 43) (off := 62) (tgt := 63) (by decide +kernel) (by rw [q7]; decide) (by rw [q7]; decide) (by rw [q7]; decide) (by decide) ?_
    refine v_blk hC (is := [(.bipush 9, (9 : Int32))]) (pc' := 65) (ls' := [(0, .int x0), (1, .int x1)]) (st' := [.int (9 : Int32)]) (by decide +kernel) rfl ?_
    exact v_iret hC h (by decide +kernel)
  replace h := br_neg h q7
  refine v_tout hC (dflt := 65) (lo := 1) (hi := 7) (offs := #[43, 50, 52, 54, 60, 65, 62]) (len := 43) (tgt := 66) (by decide +kernel) (by have wq1 := lv_neT q1 (a := 1) (by decide); have wq2 := lv_neT q2 (a := 2) (by decide); have wq3 := lv_neT q3 (a := 3) (by decide); have wq4 := lv_neT q4 (a := 4) (by decide); have wq5 := lv_neT q5 (a := 5) (by decide); have wq6 := lv_neT q6 (a := 6) (by decide); have wq7 := lv_neT q7 (a := 7) (by decide); omega) (by decide) ?_
  refine v_blk hC (is := [(.iconst 3, (3 : Int32)), (.iload_n 1, 0), (.iconst 3, (3 : Int32))]) (pc' := 69) (ls' := [(0, .int x0), (1, .int x1)]) (st' := [.int (3 : Int32), .int x1, .int (3 : Int32)]) (by decide +kernel) rfl ?_
  refine v_idiv hC (by decide +kernel) (by decide) ?_
  refine v_blk hC (is := [(.iadd, 0)]) (pc' := 71) (ls' := [(0, .int x0), (1, .int x1)]) (st' := [.int ((3 : Int32) + (x1 / (3 : Int32)))]) (by decide +kernel) rfl ?_
  exact v_iret hC h (by decide +kernel)

def p_X12_pay (x0 : Int32) (x1 : Int32) (σ : Mem) : Option (Int32 × Mem) := (if x0 = (1 : Int32) then some (((2 : Int32) + x1), σ) else (if x0 = (2 : Int32) then some ((1 : Int32), σ) else (if x0 = (3 : Int32) then some ((0 : Int32), σ) else (if x0 = (4 : Int32) then some (((2 : Int32) * ((2 : Int32) + x1)), σ) else (if x0 = (5 : Int32) then some ((1 : Int32), σ) else (if x0 = (6 : Int32) then some ((3 : Int32), σ) else (if x0 = (7 : Int32) then some ((0 : Int32), σ) else some ((2 : Int32), σ))))))))
set_option maxHeartbeats 4000000 in
set_option maxRecDepth 100000 in
theorem c_X12_pay {G : Gl} {x0 : Int32} {x1 : Int32} {σ : Mem} {res : Int32 × Mem}  (h : p_X12_pay x0 x1 σ = some res) : MetX G yX12_pay cX12_pay 2 (some .int) 1 [.int x0, .int x1] σ (some (.int res.1)) res.2 := by
  refine met_V (by decide +kernel) (Nat.le_of_ble_eq_true rfl) (fun X hC => ?_)
  have hC : Ok G 1 2 X cX12_pay RX12 (some .int) := hC
  unfold p_X12_pay at h
  show V G 1 2 X ((some (.int res.1)), res.2) σ [(0, .int x0), (1, .int x1)] [] 0
  refine v_blk hC (is := [(.iload_n 0, 0)]) (pc' := 1) (ls' := [(0, .int x0), (1, .int x1)]) (st' := [.int x0]) (by decide +kernel) rfl ?_
  by_cases q1 : x0 = (1 : Int32)
  · replace h := br_pos h q1
    refine v_tin hC (dflt := 59) (lo := 1) (hi := 7) (offs := #[43, 47, 49, 51, 47, 57, 49]) (len := 43) (off := 43) (tgt := 44) (by decide +kernel) (by rw [q1]; decide) (by rw [q1]; decide) (by rw [q1]; decide) (by decide) ?_
    refine v_blk hC (is := [(.iconst 2, (2 : Int32)), (.iload_n 1, 0), (.iadd, 0)]) (pc' := 47) (ls' := [(0, .int x0), (1, .int x1)]) (st' := [.int ((2 : Int32) + x1)]) (by decide +kernel) rfl ?_
    exact v_iret hC h (by decide +kernel)
  replace h := br_neg h q1
  by_cases q2 : x0 = (2 : Int32)
  · replace h := br_pos h q2
    refine v_tin hC (dflt := 59) (lo := 1) (hi := 7) (offs := #[43, 47, 49, 51, 47, 57, 49]) (len := 43) (off := 47) (tgt := 48) (by decide +kernel) (by rw [q2]; decide) (by rw [q2]; decide) (by rw [q2]; decide) (by decide) ?_
    refine v_blk hC (is := [(.iconst 1, (1 : Int32))]) (pc' := 49) (ls' := [(0, .int x0), (1, .int x1)]) (st' := [.int (1 : Int32)]) (by decide +kernel) rfl ?_
    exact v_iret hC h (by decide +kernel)
  replace h := br_neg h q2
  by_cases q3 : x0 = (3 : Int32)
  · replace h := br_pos h q3
    refine v_tin hC (dflt := 59) (lo := 1) (hi := 7) (offs := #[43, 47, 49, 51, 47, 57, 49]) (len := 43) (off := 49) (tgt := 50) (by decide +kernel) (by rw [q3]; decide) (by rw [q3]; decide) (by rw [q3]; decide) (by decide) ?_
    refine v_blk hC (is := [(.iconst 0, (0 : Int32))]) (pc' := 51) (ls' := [(0, .int x0), (1, .int x1)]) (st' := [.int (0 : Int32)]) (by decide +kernel) rfl ?_
    exact v_iret hC h (by decide +kernel)
  replace h := br_neg h q3
  by_cases q4 : x0 = (4 : Int32)
  · replace h := br_pos h q4
    refine v_tin hC (dflt := 59) (lo := 1) (hi := 7) (offs := #[43, 47, 49, 51, 47, 57, 49]) (len := 43) (off := 51) (tgt := 52) (by decide +kernel) (by rw [q4]; decide) (by rw [q4]; decide) (by rw [q4]; decide) (by decide) ?_
    refine v_blk hC (is := [(.iconst 2, (2 : Int32)), (.iconst 2, (2 : Int32)), (.iload_n 1, 0), (.iadd, 0), (.imul, 0)]) (pc' := 57) (ls' := [(0, .int x0), (1, .int x1)]) (st' := [.int ((2 : Int32) * ((2 : Int32) + x1))]) (by decide +kernel) rfl ?_
    exact v_iret hC h (by decide +kernel)
  replace h := br_neg h q4
  by_cases q5 : x0 = (5 : Int32)
  · replace h := br_pos h q5
    refine v_tin hC (dflt := 59) (lo := 1) (hi := 7) (offs := #[43, 47, 49, 51, 47, 57, 49]) (len := 43) (off := 47) (tgt := 48) (by decide +kernel) (by rw [q5]; decide) (by rw [q5]; decide) (by rw [q5]; decide) (by decide) ?_
    refine v_blk hC (is := [(.iconst 1, (1 : Int32))]) (pc' := 49) (ls' := [(0, .int x0), (1, .int x1)]) (st' := [.int (1 : Int32)]) (by decide +kernel) rfl ?_
    exact v_iret hC h (by decide +kernel)
  replace h := br_neg h q5
  by_cases q6 : x0 = (6 : Int32)
  · replace h := br_pos h q6
    refine v_tin hC (dflt := 59) (lo := 1) (hi := 7) (offs := #[43, 47, 49, 51, 47, 57, 49]) (len := 43) (off := 57) (tgt := 58) (by decide +kernel) (by rw [q6]; decide) (by rw [q6]; decide) (by rw [q6]; decide) (by decide) ?_
    refine v_blk hC (is := [(.iconst 3, (3 : Int32))]) (pc' := 59) (ls' := [(0, .int x0), (1, .int x1)]) (st' := [.int (3 : Int32)]) (by decide +kernel) rfl ?_
    exact v_iret hC h (by decide +kernel)
  replace h := br_neg h q6
  by_cases q7 : x0 = (7 : Int32)
  · replace h := br_pos h q7
    refine v_tin hC (dflt := 59) (lo := 1) (hi := 7) (offs := #[43, 47, 49, 51, 47, 57, 49]) (len := 43) (off := 49) (tgt := 50) (by decide +kernel) (by rw [q7]; decide) (by rw [q7]; decide) (by rw [q7]; decide) (by decide) ?_
    refine v_blk hC (is := [(.iconst 0, (0 : Int32))]) (pc' := 51) (ls' := [(0, .int x0), (1, .int x1)]) (st' := [.int (0 : Int32)]) (by decide +kernel) rfl ?_
    exact v_iret hC h (by decide +kernel)
  replace h := br_neg h q7
  refine v_tout hC (dflt := 59) (lo := 1) (hi := 7) (offs := #[43, 47, 49, 51, 47, 57, 49]) (len := 43) (tgt := 60) (by decide +kernel) (by have wq1 := lv_neT q1 (a := 1) (by decide); have wq2 := lv_neT q2 (a := 2) (by decide); have wq3 := lv_neT q3 (a := 3) (by decide); have wq4 := lv_neT q4 (a := 4) (by decide); have wq5 := lv_neT q5 (a := 5) (by decide); have wq6 := lv_neT q6 (a := 6) (by decide); have wq7 := lv_neT q7 (a := 7) (by decide); omega) (by decide) ?_
  refine v_blk hC (is := [(.iconst 2, (2 : Int32))]) (pc' := 61) (ls' := [(0, .int x0), (1, .int x1)]) (st' := [.int (2 : Int32)]) (by decide +kernel) rfl ?_
  exact v_iret hC h (by decide +kernel)

def p_X12_skillOf (x0 : Nat) (x1 : Int32) (σ : Mem) : Option (Int32 × Mem) := (bnd (p_X12_of x1 (0 : Int32) σ) fun v1 s2 => (if v1 < 0 ∨ 100 ≤ (v1).toNatClampNeg then none else lt (s2 x0 (v1).toNatClampNeg) fun v4 => (bnd (p_X12_of x1 (1 : Int32) s2) fun v5 s6 => (if v5 < 0 ∨ 100 ≤ (v5).toNatClampNeg then none else lt (s6 x0 (v5).toNatClampNeg) fun v8 => (bnd (p_X12_skill v4 v8 s6) fun v9 s10 => some (v9, s10))))))
set_option maxHeartbeats 4000000 in
set_option maxRecDepth 100000 in
theorem c_X12_skillOf {G : Gl} {x0 : Nat} {x1 : Int32} {σ : Mem} {res : Int32 × Mem} (hx0 : isRow x0) (h : p_X12_skillOf x0 x1 σ = some res) : MetX G yX12_skillOf cX12_skillOf 2 (some .int) 2 [.ref (ga G x0), .int x1] σ (some (.int res.1)) res.2 := by
  refine met_V (by decide +kernel) (Nat.le_of_ble_eq_true rfl) (fun X hC => ?_)
  have hC : Ok G 2 2 X cX12_skillOf RX12 (some .int) := hC
  unfold p_X12_skillOf at h
  show V G 2 2 X ((some (.int res.1)), res.2) σ [(0, .ref (ga G x0)), (1, .int x1)] [] 0
  refine v_blk hC (is := [(.aload_n 0, 0), (.iload_n 1, 0), (.iconst 0, (0 : Int32))]) (pc' := 3) (ls' := [(0, .ref (ga G x0)), (1, .int x1)]) (st' := [.int (0 : Int32), .int x1, .ref (ga G x0)]) (by decide +kernel) rfl ?_
  obtain ⟨v1, s2, e3, h⟩ := bndI h
  refine v_cS (idx := 57) hC ⟨tt_at 1143 (by decide +kernel) rfl, tsX12_of, tnX12_of, tcX12_of, tmX12_of⟩ (c_X12_of e3) (by decide) (by decide) (by decide +kernel) (rest := [.ref (ga G x0)]) rfl rfl (Nat.le_of_ble_eq_true rfl) rfl ?_
  refine v_iald hC (isA_row hx0) (al_row hx0) (by decide +kernel) h (fun v4 h => ?_)
  refine v_blk hC (is := [(.aload_n 0, 0), (.iload_n 1, 0), (.iconst 1, (1 : Int32))]) (pc' := 10) (ls' := [(0, .ref (ga G x0)), (1, .int x1)]) (st' := [.int (1 : Int32), .int x1, .ref (ga G x0), .int v4]) (by decide +kernel) rfl ?_
  obtain ⟨v5, s6, e7, h⟩ := bndI h
  refine v_cS (idx := 57) hC ⟨tt_at 1143 (by decide +kernel) rfl, tsX12_of, tnX12_of, tcX12_of, tmX12_of⟩ (c_X12_of e7) (by decide) (by decide) (by decide +kernel) (rest := [.ref (ga G x0), .int v4]) rfl rfl (Nat.le_of_ble_eq_true rfl) rfl ?_
  refine v_iald hC (isA_row hx0) (al_row hx0) (by decide +kernel) h (fun v8 h => ?_)
  obtain ⟨v9, s10, e11, h⟩ := bndI h
  refine v_cS (idx := 61) hC ⟨tt_at 1212 (by decide +kernel) rfl, tsX12_skill, tnX12_skill, tcX12_skill, tmX12_skill⟩ (c_X12_skill e11) (by decide) (by decide) (by decide +kernel) (rest := []) rfl rfl (Nat.le_of_ble_eq_true rfl) rfl ?_
  exact v_iret hC h (by decide +kernel)

def p_X12_riskOf (x0 : Nat) (x1 : Int32) (x2 : Int32) (σ : Mem) : Option (Int32 × Mem) := (bnd (p_X12_of x1 (0 : Int32) σ) fun v1 s2 => (if v1 < 0 ∨ 100 ≤ (v1).toNatClampNeg then none else lt (s2 x0 (v1).toNatClampNeg) fun v4 => (bnd (p_X12_of x1 (1 : Int32) s2) fun v5 s6 => (if v5 < 0 ∨ 100 ≤ (v5).toNatClampNeg then none else lt (s6 x0 (v5).toNatClampNeg) fun v8 => (bnd (p_X12_risk v4 v8 x2 s6) fun v9 s10 => some (v9, s10))))))
set_option maxHeartbeats 4000000 in
set_option maxRecDepth 100000 in
theorem c_X12_riskOf {G : Gl} {x0 : Nat} {x1 : Int32} {x2 : Int32} {σ : Mem} {res : Int32 × Mem} (hx0 : isRow x0) (h : p_X12_riskOf x0 x1 x2 σ = some res) : MetX G yX12_riskOf cX12_riskOf 3 (some .int) 2 [.ref (ga G x0), .int x1, .int x2] σ (some (.int res.1)) res.2 := by
  refine met_V (by decide +kernel) (Nat.le_of_ble_eq_true rfl) (fun X hC => ?_)
  have hC : Ok G 2 3 X cX12_riskOf RX12 (some .int) := hC
  unfold p_X12_riskOf at h
  show V G 2 3 X ((some (.int res.1)), res.2) σ [(0, .ref (ga G x0)), (1, .int x1), (2, .int x2)] [] 0
  refine v_blk hC (is := [(.aload_n 0, 0), (.iload_n 1, 0), (.iconst 0, (0 : Int32))]) (pc' := 3) (ls' := [(0, .ref (ga G x0)), (1, .int x1), (2, .int x2)]) (st' := [.int (0 : Int32), .int x1, .ref (ga G x0)]) (by decide +kernel) rfl ?_
  obtain ⟨v1, s2, e3, h⟩ := bndI h
  refine v_cS (idx := 57) hC ⟨tt_at 1143 (by decide +kernel) rfl, tsX12_of, tnX12_of, tcX12_of, tmX12_of⟩ (c_X12_of e3) (by decide) (by decide) (by decide +kernel) (rest := [.ref (ga G x0)]) rfl rfl (Nat.le_of_ble_eq_true rfl) rfl ?_
  refine v_iald hC (isA_row hx0) (al_row hx0) (by decide +kernel) h (fun v4 h => ?_)
  refine v_blk hC (is := [(.aload_n 0, 0), (.iload_n 1, 0), (.iconst 1, (1 : Int32))]) (pc' := 10) (ls' := [(0, .ref (ga G x0)), (1, .int x1), (2, .int x2)]) (st' := [.int (1 : Int32), .int x1, .ref (ga G x0), .int v4]) (by decide +kernel) rfl ?_
  obtain ⟨v5, s6, e7, h⟩ := bndI h
  refine v_cS (idx := 57) hC ⟨tt_at 1143 (by decide +kernel) rfl, tsX12_of, tnX12_of, tcX12_of, tmX12_of⟩ (c_X12_of e7) (by decide) (by decide) (by decide +kernel) (rest := [.ref (ga G x0), .int v4]) rfl rfl (Nat.le_of_ble_eq_true rfl) rfl ?_
  refine v_iald hC (isA_row hx0) (al_row hx0) (by decide +kernel) h (fun v8 h => ?_)
  refine v_blk hC (is := [(.iload_n 2, 0)]) (pc' := 15) (ls' := [(0, .ref (ga G x0)), (1, .int x1), (2, .int x2)]) (st' := [.int x2, .int v8, .int v4]) (by decide +kernel) rfl ?_
  obtain ⟨v9, s10, e11, h⟩ := bndI h
  refine v_cS (idx := 64) hC ⟨tt_at 1181 (by decide +kernel) rfl, tsX12_risk, tnX12_risk, tcX12_risk, tmX12_risk⟩ (c_X12_risk e11) (by decide) (by decide) (by decide +kernel) (rest := []) rfl rfl (Nat.le_of_ble_eq_true rfl) rfl ?_
  exact v_iret hC h (by decide +kernel)

def p_X12_reachOf (x0 : Nat) (x1 : Int32) (σ : Mem) : Option (Int32 × Mem) := (bnd (p_X12_of x1 (0 : Int32) σ) fun v1 s2 => (if v1 < 0 ∨ 100 ≤ (v1).toNatClampNeg then none else lt (s2 x0 (v1).toNatClampNeg) fun v4 => (bnd (p_X12_of x1 (1 : Int32) s2) fun v5 s6 => (if v5 < 0 ∨ 100 ≤ (v5).toNatClampNeg then none else lt (s6 x0 (v5).toNatClampNeg) fun v8 => (bnd (p_X12_reach v4 v8 s6) fun v9 s10 => some (v9, s10))))))
set_option maxHeartbeats 4000000 in
set_option maxRecDepth 100000 in
theorem c_X12_reachOf {G : Gl} {x0 : Nat} {x1 : Int32} {σ : Mem} {res : Int32 × Mem} (hx0 : isRow x0) (h : p_X12_reachOf x0 x1 σ = some res) : MetX G yX12_reachOf cX12_reachOf 2 (some .int) 2 [.ref (ga G x0), .int x1] σ (some (.int res.1)) res.2 := by
  refine met_V (by decide +kernel) (Nat.le_of_ble_eq_true rfl) (fun X hC => ?_)
  have hC : Ok G 2 2 X cX12_reachOf RX12 (some .int) := hC
  unfold p_X12_reachOf at h
  show V G 2 2 X ((some (.int res.1)), res.2) σ [(0, .ref (ga G x0)), (1, .int x1)] [] 0
  refine v_blk hC (is := [(.aload_n 0, 0), (.iload_n 1, 0), (.iconst 0, (0 : Int32))]) (pc' := 3) (ls' := [(0, .ref (ga G x0)), (1, .int x1)]) (st' := [.int (0 : Int32), .int x1, .ref (ga G x0)]) (by decide +kernel) rfl ?_
  obtain ⟨v1, s2, e3, h⟩ := bndI h
  refine v_cS (idx := 57) hC ⟨tt_at 1143 (by decide +kernel) rfl, tsX12_of, tnX12_of, tcX12_of, tmX12_of⟩ (c_X12_of e3) (by decide) (by decide) (by decide +kernel) (rest := [.ref (ga G x0)]) rfl rfl (Nat.le_of_ble_eq_true rfl) rfl ?_
  refine v_iald hC (isA_row hx0) (al_row hx0) (by decide +kernel) h (fun v4 h => ?_)
  refine v_blk hC (is := [(.aload_n 0, 0), (.iload_n 1, 0), (.iconst 1, (1 : Int32))]) (pc' := 10) (ls' := [(0, .ref (ga G x0)), (1, .int x1)]) (st' := [.int (1 : Int32), .int x1, .ref (ga G x0), .int v4]) (by decide +kernel) rfl ?_
  obtain ⟨v5, s6, e7, h⟩ := bndI h
  refine v_cS (idx := 57) hC ⟨tt_at 1143 (by decide +kernel) rfl, tsX12_of, tnX12_of, tcX12_of, tmX12_of⟩ (c_X12_of e7) (by decide) (by decide) (by decide +kernel) (rest := [.ref (ga G x0), .int v4]) rfl rfl (Nat.le_of_ble_eq_true rfl) rfl ?_
  refine v_iald hC (isA_row hx0) (al_row hx0) (by decide +kernel) h (fun v8 h => ?_)
  obtain ⟨v9, s10, e11, h⟩ := bndI h
  refine v_cS (idx := 68) hC ⟨tt_at 1190 (by decide +kernel) rfl, tsX12_reach, tnX12_reach, tcX12_reach, tmX12_reach⟩ (c_X12_reach e11) (by decide) (by decide) (by decide +kernel) (rest := []) rfl rfl (Nat.le_of_ble_eq_true rfl) rfl ?_
  exact v_iret hC h (by decide +kernel)

def p_X12_isGhost_B23  (x0 : Nat) (x1 : Int32)  (σ : Mem) : Option (Int32 × Mem) := some ((1 : Int32), σ)
def p_X12_isGhost (x0 : Nat) (x1 : Int32) (σ : Mem) : Option (Int32 × Mem) := (bnd (p_X12_of x1 (0 : Int32) σ) fun v1 s2 => (if v1 < 0 ∨ 100 ≤ (v1).toNatClampNeg then none else lt (s2 x0 (v1).toNatClampNeg) fun v4 => (if v4 = (3 : Int32) then (p_X12_isGhost_B23 x0 x1) s2 else (bnd (p_X12_of x1 (0 : Int32) s2) fun v5 s6 => (if v5 < 0 ∨ 100 ≤ (v5).toNatClampNeg then none else lt (s6 x0 (v5).toNatClampNeg) fun v8 => (if v8 = (7 : Int32) then (p_X12_isGhost_B23 x0 x1) s6 else some ((0 : Int32), s6)))))))
set_option maxHeartbeats 4000000 in
set_option maxRecDepth 100000 in
theorem c_X12_isGhost {G : Gl} {x0 : Nat} {x1 : Int32} {σ : Mem} {res : Int32 × Mem} (hx0 : isRow x0) (h : p_X12_isGhost x0 x1 σ = some res) : MetX G yX12_isGhost cX12_isGhost 2 (some .boolean) 2 [.ref (ga G x0), .int x1] σ (some (.int res.1)) res.2 := by
  refine met_V (by decide +kernel) (Nat.le_of_ble_eq_true rfl) (fun X hC => ?_)
  have hC : Ok G 2 2 X cX12_isGhost RX12 (some .boolean) := hC
  have hB23 : ∀ σ : Mem, p_X12_isGhost_B23 x0 x1 σ = some res → V G 2 2 X ((some (.int res.1)), res.2) σ [] [] 23 := by
    intro  σ h
    unfold p_X12_isGhost_B23 at h
    refine v_blk hC (is := [(.iconst 1, (1 : Int32))]) (pc' := 24) (ls' := []) (st' := [.int (1 : Int32)]) (by decide +kernel) rfl ?_
    refine v_goto hC (off := 4) (tgt := 28) (by decide +kernel) (by decide) ?_
    exact v_zret hC rfl h (by decide +kernel)
  unfold p_X12_isGhost at h
  show V G 2 2 X ((some (.int res.1)), res.2) σ [(0, .ref (ga G x0)), (1, .int x1)] [] 0
  refine v_blk hC (is := [(.aload_n 0, 0), (.iload_n 1, 0), (.iconst 0, (0 : Int32))]) (pc' := 3) (ls' := [(0, .ref (ga G x0)), (1, .int x1)]) (st' := [.int (0 : Int32), .int x1, .ref (ga G x0)]) (by decide +kernel) rfl ?_
  obtain ⟨v1, s2, e3, h⟩ := bndI h
  refine v_cS (idx := 57) hC ⟨tt_at 1143 (by decide +kernel) rfl, tsX12_of, tnX12_of, tcX12_of, tmX12_of⟩ (c_X12_of e3) (by decide) (by decide) (by decide +kernel) (rest := [.ref (ga G x0)]) rfl rfl (Nat.le_of_ble_eq_true rfl) rfl ?_
  refine v_iald hC (isA_row hx0) (al_row hx0) (by decide +kernel) h (fun v4 h => ?_)
  refine v_blk hC (is := [(.iconst 3, (3 : Int32))]) (pc' := 8) (ls' := [(0, .ref (ga G x0)), (1, .int x1)]) (st' := [.int (3 : Int32), .int v4]) (by decide +kernel) rfl ?_
  refine v_icmp_eq hC (off := 15) (tgt := 23) (by decide +kernel) (by decide) h (fun hq h => ?_) (fun hq h => ?_)
  · refine v_sub [] (ls' := []) rfl ?_
    exact (hB23 ) _ h
  · refine v_blk hC (is := [(.aload_n 0, 0), (.iload_n 1, 0), (.iconst 0, (0 : Int32))]) (pc' := 14) (ls' := [(0, .ref (ga G x0)), (1, .int x1)]) (st' := [.int (0 : Int32), .int x1, .ref (ga G x0)]) (by decide +kernel) rfl ?_
    obtain ⟨v5, s6, e7, h⟩ := bndI h
    refine v_cS (idx := 57) hC ⟨tt_at 1143 (by decide +kernel) rfl, tsX12_of, tnX12_of, tcX12_of, tmX12_of⟩ (c_X12_of e7) (by decide) (by decide) (by decide +kernel) (rest := [.ref (ga G x0)]) rfl rfl (Nat.le_of_ble_eq_true rfl) rfl ?_
    refine v_iald hC (isA_row hx0) (al_row hx0) (by decide +kernel) h (fun v8 h => ?_)
    refine v_blk hC (is := [(.bipush 7, (7 : Int32))]) (pc' := 20) (ls' := [(0, .ref (ga G x0)), (1, .int x1)]) (st' := [.int (7 : Int32), .int v8]) (by decide +kernel) rfl ?_
    refine v_icmp_ne hC (off := 7) (tgt := 27) (by decide +kernel) (by decide) h (fun hq h => ?_) (fun hq h => ?_)
    · refine v_blk hC (is := [(.iconst 0, (0 : Int32))]) (pc' := 28) (ls' := [(0, .ref (ga G x0)), (1, .int x1)]) (st' := [.int (0 : Int32)]) (by decide +kernel) rfl ?_
      exact v_zret hC rfl h (by decide +kernel)
    · refine v_sub [] (ls' := []) rfl ?_
      exact (hB23 ) _ h

def p_X12_hasSaved_B16  (x0 : Nat) (x1 : Int32) (x2 : Int32) (x3 : Int32) (t0 : Int32) (t1 : Int32) (σ : Mem) : Option (Int32 × Mem) := (if t0 < t1 then some ((0 : Int32), σ) else some ((1 : Int32), σ))
def p_X12_hasSaved (x0 : Nat) (x1 : Int32) (x2 : Int32) (x3 : Int32) (σ : Mem) : Option (Int32 × Mem) := (bnd (p_X12_by x1 x2 σ) fun v1 s2 => (if v1 < 0 ∨ 100 ≤ (v1).toNatClampNeg then none else lt (s2 x0 (v1).toNatClampNeg) fun v4 => (if x3 = 0 then (p_X12_hasSaved_B16 x0 x1 x2 x3) v4 (1 : Int32) s2 else (p_X12_hasSaved_B16 x0 x1 x2 x3) v4 x3 s2)))
set_option maxHeartbeats 4000000 in
set_option maxRecDepth 100000 in
theorem c_X12_hasSaved {G : Gl} {x0 : Nat} {x1 : Int32} {x2 : Int32} {x3 : Int32} {σ : Mem} {res : Int32 × Mem} (hx0 : isRow x0) (h : p_X12_hasSaved x0 x1 x2 x3 σ = some res) : MetX G yX12_hasSaved cX12_hasSaved 4 (some .boolean) 2 [.ref (ga G x0), .int x1, .int x2, .int x3] σ (some (.int res.1)) res.2 := by
  refine met_V (by decide +kernel) (Nat.le_of_ble_eq_true rfl) (fun X hC => ?_)
  have hC : Ok G 2 4 X cX12_hasSaved RX12 (some .boolean) := hC
  have hB16 : ∀ (t0 : Int32), ∀ (t1 : Int32), ∀ σ : Mem, p_X12_hasSaved_B16 x0 x1 x2 x3 t0 t1 σ = some res → V G 2 4 X ((some (.int res.1)), res.2) σ [] [.int t1, .int t0] 16 := by
    intro t0 t1 σ h
    unfold p_X12_hasSaved_B16 at h
    refine v_icmp_lt hC (off := 7) (tgt := 23) (by decide +kernel) (by decide) h (fun hq h => ?_) (fun hq h => ?_)
    · refine v_blk hC (is := [(.iconst 0, (0 : Int32))]) (pc' := 24) (ls' := []) (st' := [.int (0 : Int32)]) (by decide +kernel) rfl ?_
      exact v_zret hC rfl h (by decide +kernel)
    · refine v_blk hC (is := [(.iconst 1, (1 : Int32))]) (pc' := 20) (ls' := []) (st' := [.int (1 : Int32)]) (by decide +kernel) rfl ?_
      refine v_goto hC (off := 4) (tgt := 24) (by decide +kernel) (by decide) ?_
      exact v_zret hC rfl h (by decide +kernel)
  unfold p_X12_hasSaved at h
  show V G 2 4 X ((some (.int res.1)), res.2) σ [(0, .ref (ga G x0)), (1, .int x1), (2, .int x2), (3, .int x3)] [] 0
  refine v_blk hC (is := [(.aload_n 0, 0), (.iload_n 1, 0), (.iload_n 2, 0)]) (pc' := 3) (ls' := [(0, .ref (ga G x0)), (1, .int x1), (2, .int x2), (3, .int x3)]) (st' := [.int x2, .int x1, .ref (ga G x0)]) (by decide +kernel) rfl ?_
  obtain ⟨v1, s2, e3, h⟩ := bndI h
  refine v_cS (idx := 71) hC ⟨tt_at 1154 (by decide +kernel) rfl, tsX12_by, tnX12_by, tcX12_by, tmX12_by⟩ (c_X12_by e3) (by decide) (by decide) (by decide +kernel) (rest := [.ref (ga G x0)]) rfl rfl (Nat.le_of_ble_eq_true rfl) rfl ?_
  refine v_iald hC (isA_row hx0) (al_row hx0) (by decide +kernel) h (fun v4 h => ?_)
  refine v_blk hC (is := [(.iload_n 3, 0)]) (pc' := 8) (ls' := [(0, .ref (ga G x0)), (1, .int x1), (2, .int x2), (3, .int x3)]) (st' := [.int x3, .int v4]) (by decide +kernel) rfl ?_
  refine v_if_ne hC (off := 7) (tgt := 15) (by decide +kernel) (by decide) h (fun hq h => ?_) (fun hq h => ?_)
  · refine v_blk hC (is := [(.iload_n 3, 0)]) (pc' := 16) (ls' := [(0, .ref (ga G x0)), (1, .int x1), (2, .int x2), (3, .int x3)]) (st' := [.int x3, .int v4]) (by decide +kernel) rfl ?_
    refine v_sub [] (ls' := []) rfl ?_
    exact (hB16 ) _ _ _ h
  · refine v_blk hC (is := [(.iconst 1, (1 : Int32))]) (pc' := 12) (ls' := [(0, .ref (ga G x0)), (1, .int x1), (2, .int x2), (3, .int x3)]) (st' := [.int (1 : Int32), .int v4]) (by decide +kernel) rfl ?_
    refine v_goto hC (off := 4) (tgt := 16) (by decide +kernel) (by decide) ?_
    refine v_sub [] (ls' := []) rfl ?_
    exact (hB16 ) _ _ _ h

def p_X12_mayBy_B36  (x0 : Nat) (x1 : Int32) (x2 : Int32) (x3 : Int32)  (σ : Mem) : Option (Int32 × Mem) := some ((1 : Int32), σ)
def p_X12_mayBy (x0 : Nat) (x1 : Int32) (x2 : Int32) (x3 : Int32) (σ : Mem) : Option (Int32 × Mem) := (bnd (p_X12_isGhost x0 x1 σ) fun v1 s2 => (if v1 = 0 then (bnd (p_X12_isGhost x0 x2 s2) fun v4 s5 => (if v4 = 0 then (bnd (p_X12_hasSaved x0 x1 x2 x3 s5) fun v7 s8 => (if v7 = 0 then (bnd (p_X12_hasSaved x0 x2 x1 x3 s8) fun v10 s11 => (if v10 = 0 then (p_X12_mayBy_B36 x0 x1 x2 x3) s11 else some ((0 : Int32), s11))) else some ((0 : Int32), s8))) else (p_X12_mayBy_B36 x0 x1 x2 x3) s5)) else (p_X12_mayBy_B36 x0 x1 x2 x3) s2))
set_option maxHeartbeats 4000000 in
set_option maxRecDepth 100000 in
theorem c_X12_mayBy {G : Gl} {x0 : Nat} {x1 : Int32} {x2 : Int32} {x3 : Int32} {σ : Mem} {res : Int32 × Mem} (hx0 : isRow x0) (h : p_X12_mayBy x0 x1 x2 x3 σ = some res) : MetX G yX12_mayBy cX12_mayBy 4 (some .boolean) 3 [.ref (ga G x0), .int x1, .int x2, .int x3] σ (some (.int res.1)) res.2 := by
  refine met_V (by decide +kernel) (Nat.le_of_ble_eq_true rfl) (fun X hC => ?_)
  have hC : Ok G 3 4 X cX12_mayBy RX12 (some .boolean) := hC
  have hB36 : ∀ σ : Mem, p_X12_mayBy_B36 x0 x1 x2 x3 σ = some res → V G 3 4 X ((some (.int res.1)), res.2) σ [] [] 36 := by
    intro  σ h
    unfold p_X12_mayBy_B36 at h
    refine v_blk hC (is := [(.iconst 1, (1 : Int32))]) (pc' := 37) (ls' := []) (st' := [.int (1 : Int32)]) (by decide +kernel) rfl ?_
    refine v_goto hC (off := 4) (tgt := 41) (by decide +kernel) (by decide) ?_
    exact v_zret hC rfl h (by decide +kernel)
  unfold p_X12_mayBy at h
  show V G 3 4 X ((some (.int res.1)), res.2) σ [(0, .ref (ga G x0)), (1, .int x1), (2, .int x2), (3, .int x3)] [] 0
  refine v_blk hC (is := [(.aload_n 0, 0), (.iload_n 1, 0)]) (pc' := 2) (ls' := [(0, .ref (ga G x0)), (1, .int x1), (2, .int x2), (3, .int x3)]) (st' := [.int x1, .ref (ga G x0)]) (by decide +kernel) rfl ?_
  obtain ⟨v1, s2, e3, h⟩ := bndI h
  refine v_cS (idx := 74) hC ⟨tt_at 1199 (by decide +kernel) rfl, tsX12_isGhost, tnX12_isGhost, tcX12_isGhost, tmX12_isGhost⟩ (c_X12_isGhost hx0 e3) (by decide) (by decide) (by decide +kernel) (rest := []) rfl rfl (Nat.le_of_ble_eq_true rfl) rfl ?_
  refine v_if_ne hC (off := 31) (tgt := 36) (by decide +kernel) (by decide) h (fun hq h => ?_) (fun hq h => ?_)
  · refine v_sub [] (ls' := []) rfl ?_
    exact (hB36 ) _ h
  · refine v_blk hC (is := [(.aload_n 0, 0), (.iload_n 2, 0)]) (pc' := 10) (ls' := [(0, .ref (ga G x0)), (1, .int x1), (2, .int x2), (3, .int x3)]) (st' := [.int x2, .ref (ga G x0)]) (by decide +kernel) rfl ?_
    obtain ⟨v4, s5, e6, h⟩ := bndI h
    refine v_cS (idx := 74) hC ⟨tt_at 1199 (by decide +kernel) rfl, tsX12_isGhost, tnX12_isGhost, tcX12_isGhost, tmX12_isGhost⟩ (c_X12_isGhost hx0 e6) (by decide) (by decide) (by decide +kernel) (rest := []) rfl rfl (Nat.le_of_ble_eq_true rfl) rfl ?_
    refine v_if_ne hC (off := 23) (tgt := 36) (by decide +kernel) (by decide) h (fun hq h => ?_) (fun hq h => ?_)
    · refine v_sub [] (ls' := []) rfl ?_
      exact (hB36 ) _ h
    · refine v_blk hC (is := [(.aload_n 0, 0), (.iload_n 1, 0), (.iload_n 2, 0), (.iload_n 3, 0)]) (pc' := 20) (ls' := [(0, .ref (ga G x0)), (1, .int x1), (2, .int x2), (3, .int x3)]) (st' := [.int x3, .int x2, .int x1, .ref (ga G x0)]) (by decide +kernel) rfl ?_
      obtain ⟨v7, s8, e9, h⟩ := bndI h
      refine v_cS (idx := 78) hC ⟨tt_at 1202 (by decide +kernel) rfl, tsX12_hasSaved, tnX12_hasSaved, tcX12_hasSaved, tmX12_hasSaved⟩ (c_X12_hasSaved hx0 e9) (by decide) (by decide) (by decide +kernel) (rest := []) rfl rfl (Nat.le_of_ble_eq_true rfl) rfl ?_
      refine v_if_ne hC (off := 17) (tgt := 40) (by decide +kernel) (by decide) h (fun hq h => ?_) (fun hq h => ?_)
      · refine v_blk hC (is := [(.iconst 0, (0 : Int32))]) (pc' := 41) (ls' := [(0, .ref (ga G x0)), (1, .int x1), (2, .int x2), (3, .int x3)]) (st' := [.int (0 : Int32)]) (by decide +kernel) rfl ?_
        exact v_zret hC rfl h (by decide +kernel)
      · refine v_blk hC (is := [(.aload_n 0, 0), (.iload_n 2, 0), (.iload_n 1, 0), (.iload_n 3, 0)]) (pc' := 30) (ls' := [(0, .ref (ga G x0)), (1, .int x1), (2, .int x2), (3, .int x3)]) (st' := [.int x3, .int x1, .int x2, .ref (ga G x0)]) (by decide +kernel) rfl ?_
        obtain ⟨v10, s11, e12, h⟩ := bndI h
        refine v_cS (idx := 78) hC ⟨tt_at 1202 (by decide +kernel) rfl, tsX12_hasSaved, tnX12_hasSaved, tcX12_hasSaved, tmX12_hasSaved⟩ (c_X12_hasSaved hx0 e12) (by decide) (by decide) (by decide +kernel) (rest := []) rfl rfl (Nat.le_of_ble_eq_true rfl) rfl ?_
        refine v_if_ne hC (off := 7) (tgt := 40) (by decide +kernel) (by decide) h (fun hq h => ?_) (fun hq h => ?_)
        · refine v_blk hC (is := [(.iconst 0, (0 : Int32))]) (pc' := 41) (ls' := [(0, .ref (ga G x0)), (1, .int x1), (2, .int x2), (3, .int x3)]) (st' := [.int (0 : Int32)]) (by decide +kernel) rfl ?_
          exact v_zret hC rfl h (by decide +kernel)
        · refine v_sub [] (ls' := []) rfl ?_
          exact (hB36 ) _ h

def p_X12_mayIn (x0 : Nat) (x1 : Int32) (x2 : Int32) (σ : Mem) : Option (Int32 × Mem) := (if (1 : Int32) < 0 ∨ 100 ≤ ((1 : Int32)).toNatClampNeg then none else lt (σ x0 ((1 : Int32)).toNatClampNeg) fun v1 => (bnd (p_X12_mayBy x0 x1 x2 v1 σ) fun v2 s3 => rz v2 s3))
set_option maxHeartbeats 4000000 in
set_option maxRecDepth 100000 in
theorem c_X12_mayIn {G : Gl} {x0 : Nat} {x1 : Int32} {x2 : Int32} {σ : Mem} {res : Int32 × Mem} (hx0 : isRow x0) (h : p_X12_mayIn x0 x1 x2 σ = some res) : MetX G yX12_mayIn cX12_mayIn 3 (some .boolean) 4 [.ref (ga G x0), .int x1, .int x2] σ (some (.int res.1)) res.2 := by
  refine met_V (by decide +kernel) (Nat.le_of_ble_eq_true rfl) (fun X hC => ?_)
  have hC : Ok G 4 3 X cX12_mayIn RX12 (some .boolean) := hC
  unfold p_X12_mayIn at h
  show V G 4 3 X ((some (.int res.1)), res.2) σ [(0, .ref (ga G x0)), (1, .int x1), (2, .int x2)] [] 0
  refine v_blk hC (is := [(.aload_n 0, 0), (.iload_n 1, 0), (.iload_n 2, 0), (.aload_n 0, 0), (.iconst 1, (1 : Int32))]) (pc' := 5) (ls' := [(0, .ref (ga G x0)), (1, .int x1), (2, .int x2)]) (st' := [.int (1 : Int32), .ref (ga G x0), .int x2, .int x1, .ref (ga G x0)]) (by decide +kernel) rfl ?_
  refine v_iald hC (isA_row hx0) (al_row hx0) (by decide +kernel) h (fun v1 h => ?_)
  obtain ⟨v2, s3, e4, h⟩ := bndI h
  refine v_cS (idx := 82) hC ⟨tt_at 1196 (by decide +kernel) rfl, tsX12_mayBy, tnX12_mayBy, tcX12_mayBy, tmX12_mayBy⟩ (c_X12_mayBy hx0 e4) (by decide) (by decide) (by decide +kernel) (rest := []) rfl rfl (Nat.le_of_ble_eq_true rfl) rfl ?_
  exact v_zretC hC h (by decide +kernel)

def p_X12_areLawful_B52 (k14 : Int32 → Int32 → Mem → Option (Int32 × Mem)) (x0 : Nat) (x1 : Int32) (x2 : Int32) (x3 : Int32) (x4 : Int32) (σ : Mem) : Option (Int32 × Mem) := k14 x3 (x4 + (1 : Int32)) σ
def p_X12_areLawful_B14 (k14 : Int32 → Int32 → Mem → Option (Int32 × Mem)) (k58 : Int32 → Mem → Option (Int32 × Mem)) (x0 : Nat) (x1 : Int32) (x2 : Int32) (x3 : Int32) (x4 : Int32) (σ : Mem) : Option (Int32 × Mem) := (if (0 : Int32) < 0 ∨ 100 ≤ ((0 : Int32)).toNatClampNeg then none else lt (σ x0 ((0 : Int32)).toNatClampNeg) fun v1 => (if v1 ≤ x4 then k58 x3 σ else (bnd (p_X12_has x1 x3 σ) fun v2 s3 => (if v2 = 0 then (p_X12_areLawful_B52 k14 x0 x1 x2) x3 x4 s3 else (bnd (p_X12_has x1 x4 s3) fun v5 s6 => (if v5 = 0 then (p_X12_areLawful_B52 k14 x0 x1 x2) x3 x4 s6 else (bnd (p_X12_mayBy x0 x3 x4 x2 s6) fun v8 s9 => (if v8 = 0 then some ((0 : Int32), s9) else (p_X12_areLawful_B52 k14 x0 x1 x2) x3 x4 s9))))))))
def p_X12_areLawful_L14 (k58 : Int32 → Mem → Option (Int32 × Mem)) (x0 : Nat) (x1 : Int32) (x2 : Int32) : Nat → Int32 → Int32 → Mem → Option (Int32 × Mem)
  | 0 => fun _ _ _ => none
  | f + 1 => p_X12_areLawful_B14 (p_X12_areLawful_L14 k58 x0 x1 x2 f) k58 x0 x1 x2
def p_X12_areLawful_B2 (k2 : Int32 → Mem → Option (Int32 × Mem)) (x0 : Nat) (x1 : Int32) (x2 : Int32) (x3 : Int32) (σ : Mem) : Option (Int32 × Mem) := (if (0 : Int32) < 0 ∨ 100 ≤ ((0 : Int32)).toNatClampNeg then none else lt (σ x0 ((0 : Int32)).toNatClampNeg) fun v11 => (if v11 ≤ x3 then some ((1 : Int32), σ) else (p_X12_areLawful_L14 (fun (x3 : Int32) (m12 : Mem) => k2 (x3 + (1 : Int32)) m12) x0 x1 x2 1000) x3 (x3 + (1 : Int32)) σ))
def p_X12_areLawful_L2  (x0 : Nat) (x1 : Int32) (x2 : Int32) : Nat → Int32 → Mem → Option (Int32 × Mem)
  | 0 => fun _ _ => none
  | f + 1 => p_X12_areLawful_B2 (p_X12_areLawful_L2 x0 x1 x2 f) x0 x1 x2
def p_X12_areLawful (x0 : Nat) (x1 : Int32) (x2 : Int32) (σ : Mem) : Option (Int32 × Mem) := (p_X12_areLawful_L2 x0 x1 x2 1000) (0 : Int32) σ
set_option maxHeartbeats 4000000 in
set_option maxRecDepth 100000 in
theorem c_X12_areLawful {G : Gl} {x0 : Nat} {x1 : Int32} {x2 : Int32} {σ : Mem} {res : Int32 × Mem} (hx0 : isRow x0) (h : p_X12_areLawful x0 x1 x2 σ = some res) : MetX G yX12_areLawful cX12_areLawful 5 (some .boolean) 4 [.ref (ga G x0), .int x1, .int x2] σ (some (.int res.1)) res.2 := by
  refine met_V (by decide +kernel) (Nat.le_of_ble_eq_true rfl) (fun X hC => ?_)
  have hC : Ok G 4 5 X cX12_areLawful RX12 (some .boolean) := hC
  have hB52 : ∀ (k14 : Int32 → Int32 → Mem → Option (Int32 × Mem)), (∀ (x3 : Int32), ∀ (x4 : Int32), ∀ σ : Mem, k14 x3 x4 σ = some res → V G 4 5 X ((some (.int res.1)), res.2) σ [(0, .ref (ga G x0)), (1, .int x1), (2, .int x2), (3, .int x3), (4, .int x4)] [] 14) → ∀ (x3 : Int32), ∀ (x4 : Int32), ∀ σ : Mem, p_X12_areLawful_B52 k14 x0 x1 x2 x3 x4 σ = some res → V G 4 5 X ((some (.int res.1)), res.2) σ [(0, .ref (ga G x0)), (1, .int x1), (2, .int x2), (3, .int x3), (4, .int x4)] [] 52 := by
    intro k14 hk14 x3 x4 σ h
    unfold p_X12_areLawful_B52 at h
    refine v_blk hC (is := [(.iinc 4 1, (1 : Int32))]) (pc' := 55) (ls' := [(4, .int (x4 + (1 : Int32))), (0, .ref (ga G x0)), (1, .int x1), (2, .int x2), (3, .int x3)]) (st' := []) (by decide +kernel) rfl ?_
    refine v_goto hC (off := (-41)) (tgt := 14) (by decide +kernel) (by decide) ?_
    refine v_sub [1, 2, 3, 4, 0] (ls' := [(0, .ref (ga G x0)), (1, .int x1), (2, .int x2), (3, .int x3), (4, .int (x4 + (1 : Int32)))]) rfl ?_
    exact hk14 _ _ _ h
  have hB14 : ∀ (k14 : Int32 → Int32 → Mem → Option (Int32 × Mem)), ∀ (k58 : Int32 → Mem → Option (Int32 × Mem)), (∀ (x3 : Int32), ∀ (x4 : Int32), ∀ σ : Mem, k14 x3 x4 σ = some res → V G 4 5 X ((some (.int res.1)), res.2) σ [(0, .ref (ga G x0)), (1, .int x1), (2, .int x2), (3, .int x3), (4, .int x4)] [] 14) → (∀ (x3 : Int32), ∀ σ : Mem, k58 x3 σ = some res → V G 4 5 X ((some (.int res.1)), res.2) σ [(0, .ref (ga G x0)), (1, .int x1), (2, .int x2), (3, .int x3)] [] 58) → ∀ (x3 : Int32), ∀ (x4 : Int32), ∀ σ : Mem, p_X12_areLawful_B14 k14 k58 x0 x1 x2 x3 x4 σ = some res → V G 4 5 X ((some (.int res.1)), res.2) σ [(0, .ref (ga G x0)), (1, .int x1), (2, .int x2), (3, .int x3), (4, .int x4)] [] 14 := by
    intro k14 k58 hk14 hk58 x3 x4 σ h
    unfold p_X12_areLawful_B14 at h
    refine v_blk hC (is := [(.iload 4, 0), (.aload_n 0, 0), (.iconst 0, (0 : Int32))]) (pc' := 18) (ls' := [(0, .ref (ga G x0)), (1, .int x1), (2, .int x2), (3, .int x3), (4, .int x4)]) (st' := [.int (0 : Int32), .ref (ga G x0), .int x4]) (by decide +kernel) rfl ?_
    refine v_iald hC (isA_row hx0) (al_row hx0) (by decide +kernel) h (fun v1 h => ?_)
    refine v_icmp_ge hC (off := 39) (tgt := 58) (by decide +kernel) (by decide) h (fun hq h => ?_) (fun hq h => ?_)
    · refine v_sub [0, 1, 2, 3] (ls' := [(0, .ref (ga G x0)), (1, .int x1), (2, .int x2), (3, .int x3)]) rfl ?_
      exact hk58 _ _ h
    · refine v_blk hC (is := [(.iload_n 1, 0), (.iload_n 3, 0)]) (pc' := 24) (ls' := [(0, .ref (ga G x0)), (1, .int x1), (2, .int x2), (3, .int x3), (4, .int x4)]) (st' := [.int x3, .int x1]) (by decide +kernel) rfl ?_
      obtain ⟨v2, s3, e4, h⟩ := bndI h
      refine v_cS (idx := 85) hC ⟨tt_at 1175 (by decide +kernel) rfl, tsX12_has, tnX12_has, tcX12_has, tmX12_has⟩ (c_X12_has e4) (by decide) (by decide) (by decide +kernel) (rest := []) rfl rfl (Nat.le_of_ble_eq_true rfl) rfl ?_
      refine v_if_eq hC (off := 25) (tgt := 52) (by decide +kernel) (by decide) h (fun hq h => ?_) (fun hq h => ?_)
      · exact (hB52 _ hk14) _ _ _ h
      · refine v_blk hC (is := [(.iload_n 1, 0), (.iload 4, 0)]) (pc' := 33) (ls' := [(0, .ref (ga G x0)), (1, .int x1), (2, .int x2), (3, .int x3), (4, .int x4)]) (st' := [.int x4, .int x1]) (by decide +kernel) rfl ?_
        obtain ⟨v5, s6, e7, h⟩ := bndI h
        refine v_cS (idx := 85) hC ⟨tt_at 1175 (by decide +kernel) rfl, tsX12_has, tnX12_has, tcX12_has, tmX12_has⟩ (c_X12_has e7) (by decide) (by decide) (by decide +kernel) (rest := []) rfl rfl (Nat.le_of_ble_eq_true rfl) rfl ?_
        refine v_if_eq hC (off := 16) (tgt := 52) (by decide +kernel) (by decide) h (fun hq h => ?_) (fun hq h => ?_)
        · exact (hB52 _ hk14) _ _ _ h
        · refine v_blk hC (is := [(.aload_n 0, 0), (.iload_n 3, 0), (.iload 4, 0), (.iload_n 2, 0)]) (pc' := 44) (ls' := [(0, .ref (ga G x0)), (1, .int x1), (2, .int x2), (3, .int x3), (4, .int x4)]) (st' := [.int x2, .int x4, .int x3, .ref (ga G x0)]) (by decide +kernel) rfl ?_
          obtain ⟨v8, s9, e10, h⟩ := bndI h
          refine v_cS (idx := 82) hC ⟨tt_at 1196 (by decide +kernel) rfl, tsX12_mayBy, tnX12_mayBy, tcX12_mayBy, tmX12_mayBy⟩ (c_X12_mayBy hx0 e10) (by decide) (by decide) (by decide +kernel) (rest := []) rfl rfl (Nat.le_of_ble_eq_true rfl) rfl ?_
          refine v_if_ne hC (off := 5) (tgt := 52) (by decide +kernel) (by decide) h (fun hq h => ?_) (fun hq h => ?_)
          · exact (hB52 _ hk14) _ _ _ h
          · refine v_blk hC (is := [(.iconst 0, (0 : Int32))]) (pc' := 51) (ls' := [(0, .ref (ga G x0)), (1, .int x1), (2, .int x2), (3, .int x3), (4, .int x4)]) (st' := [.int (0 : Int32)]) (by decide +kernel) rfl ?_
            exact v_zret hC rfl h (by decide +kernel)
  have hL14 : ∀ (k58 : Int32 → Mem → Option (Int32 × Mem)), (∀ (x3 : Int32), ∀ σ : Mem, k58 x3 σ = some res → V G 4 5 X ((some (.int res.1)), res.2) σ [(0, .ref (ga G x0)), (1, .int x1), (2, .int x2), (3, .int x3)] [] 58) → ∀ f : Nat, ∀ (x3 : Int32), ∀ (x4 : Int32), ∀ σ : Mem, p_X12_areLawful_L14 k58 x0 x1 x2 f x3 x4 σ = some res → V G 4 5 X ((some (.int res.1)), res.2) σ [(0, .ref (ga G x0)), (1, .int x1), (2, .int x2), (3, .int x3), (4, .int x4)] [] 14 := by
    intro k58 hk58 f
    induction f with
    | zero => intro x3 x4 σ h; exact none_some h
    | succ f ih => intro x3 x4 σ h; exact hB14 (p_X12_areLawful_L14 k58 x0 x1 x2 f) k58 ih hk58 x3 x4 σ h
  have hB2 : ∀ (k2 : Int32 → Mem → Option (Int32 × Mem)), (∀ (x3 : Int32), ∀ σ : Mem, k2 x3 σ = some res → V G 4 5 X ((some (.int res.1)), res.2) σ [(0, .ref (ga G x0)), (1, .int x1), (2, .int x2), (3, .int x3)] [] 2) → ∀ (x3 : Int32), ∀ σ : Mem, p_X12_areLawful_B2 k2 x0 x1 x2 x3 σ = some res → V G 4 5 X ((some (.int res.1)), res.2) σ [(0, .ref (ga G x0)), (1, .int x1), (2, .int x2), (3, .int x3)] [] 2 := by
    intro k2 hk2 x3 σ h
    unfold p_X12_areLawful_B2 at h
    refine v_blk hC (is := [(.iload_n 3, 0), (.aload_n 0, 0), (.iconst 0, (0 : Int32))]) (pc' := 5) (ls' := [(0, .ref (ga G x0)), (1, .int x1), (2, .int x2), (3, .int x3)]) (st' := [.int (0 : Int32), .ref (ga G x0), .int x3]) (by decide +kernel) rfl ?_
    refine v_iald hC (isA_row hx0) (al_row hx0) (by decide +kernel) h (fun v11 h => ?_)
    refine v_icmp_ge hC (off := 58) (tgt := 64) (by decide +kernel) (by decide) h (fun hq h => ?_) (fun hq h => ?_)
    · refine v_blk hC (is := [(.iconst 1, (1 : Int32))]) (pc' := 65) (ls' := [(0, .ref (ga G x0)), (1, .int x1), (2, .int x2), (3, .int x3)]) (st' := [.int (1 : Int32)]) (by decide +kernel) rfl ?_
      exact v_zret hC rfl h (by decide +kernel)
    · refine v_blk hC (is := [(.iload_n 3, 0), (.iconst 1, (1 : Int32)), (.iadd, 0), (.istore 4, 0)]) (pc' := 14) (ls' := [(4, .int (x3 + (1 : Int32))), (0, .ref (ga G x0)), (1, .int x1), (2, .int x2), (3, .int x3)]) (st' := []) (by decide +kernel) rfl ?_
      refine v_sub [1, 2, 3, 4, 0] (ls' := [(0, .ref (ga G x0)), (1, .int x1), (2, .int x2), (3, .int x3), (4, .int (x3 + (1 : Int32)))]) rfl ?_
      exact (hL14 _ (fun x3  m12 h => by
            refine v_blk hC (is := [(.iinc 3 1, (1 : Int32))]) (pc' := 61) (ls' := [(3, .int (x3 + (1 : Int32))), (0, .ref (ga G x0)), (1, .int x1), (2, .int x2)]) (st' := []) (by decide +kernel) rfl ?_
            refine v_goto hC (off := (-59)) (tgt := 2) (by decide +kernel) (by decide) ?_
            refine v_sub [1, 2, 3, 0] (ls' := [(0, .ref (ga G x0)), (1, .int x1), (2, .int x2), (3, .int (x3 + (1 : Int32)))]) rfl ?_
            exact hk2 _ _ h) 1000) _ _ _ h
  have hL2 : ∀ f : Nat, ∀ (x3 : Int32), ∀ σ : Mem, p_X12_areLawful_L2 x0 x1 x2 f x3 σ = some res → V G 4 5 X ((some (.int res.1)), res.2) σ [(0, .ref (ga G x0)), (1, .int x1), (2, .int x2), (3, .int x3)] [] 2 := by
    intro  f
    induction f with
    | zero => intro x3 σ h; exact none_some h
    | succ f ih => intro x3 σ h; exact hB2 (p_X12_areLawful_L2 x0 x1 x2 f)  ih  x3 σ h
  unfold p_X12_areLawful at h
  show V G 4 5 X ((some (.int res.1)), res.2) σ [(0, .ref (ga G x0)), (1, .int x1), (2, .int x2)] [] 0
  refine v_blk hC (is := [(.iconst 0, (0 : Int32)), (.istore_n 3, 0)]) (pc' := 2) (ls' := [(3, .int (0 : Int32)), (0, .ref (ga G x0)), (1, .int x1), (2, .int x2)]) (st' := []) (by decide +kernel) rfl ?_
  refine v_sub [1, 2, 3, 0] (ls' := [(0, .ref (ga G x0)), (1, .int x1), (2, .int x2), (3, .int (0 : Int32))]) rfl ?_
  exact (hL2 1000) _ _ h

def p_X12_crew_B30 (k4 : Int32 → Int32 → Mem → Option (Int32 × Mem)) (x0 : Nat) (x1 : Int32) (x3 : Int32) (t0 : Int32) (t1 : Int32) (σ : Mem) : Option (Int32 × Mem) := k4 (t0 ||| t1) (x3 + (1 : Int32)) σ
def p_X12_crew_B4 (k4 : Int32 → Int32 → Mem → Option (Int32 × Mem)) (x0 : Nat) (x1 : Int32) (x2 : Int32) (x3 : Int32) (σ : Mem) : Option (Int32 × Mem) := (if (0 : Int32) < 0 ∨ 100 ≤ ((0 : Int32)).toNatClampNeg then none else lt (σ x0 ((0 : Int32)).toNatClampNeg) fun v1 => (if v1 ≤ x3 then some (x2, σ) else (bnd (p_X12_of x3 (2 : Int32) σ) fun v2 s3 => (if v2 < 0 ∨ 100 ≤ (v2).toNatClampNeg then none else lt (s3 x0 (v2).toNatClampNeg) fun v5 => (if v5 = x1 then (p_X12_crew_B30 k4 x0 x1) x3 x2 ((1 : Int32) <<< (x3 &&& 31)) s3 else (p_X12_crew_B30 k4 x0 x1) x3 x2 (0 : Int32) s3)))))
def p_X12_crew_L4  (x0 : Nat) (x1 : Int32) : Nat → Int32 → Int32 → Mem → Option (Int32 × Mem)
  | 0 => fun _ _ _ => none
  | f + 1 => p_X12_crew_B4 (p_X12_crew_L4 x0 x1 f) x0 x1
def p_X12_crew (x0 : Nat) (x1 : Int32) (σ : Mem) : Option (Int32 × Mem) := (p_X12_crew_L4 x0 x1 1000) (0 : Int32) (0 : Int32) σ
set_option maxHeartbeats 4000000 in
set_option maxRecDepth 100000 in
theorem c_X12_crew {G : Gl} {x0 : Nat} {x1 : Int32} {σ : Mem} {res : Int32 × Mem} (hx0 : isRow x0) (h : p_X12_crew x0 x1 σ = some res) : MetX G yX12_crew cX12_crew 4 (some .int) 2 [.ref (ga G x0), .int x1] σ (some (.int res.1)) res.2 := by
  refine met_V (by decide +kernel) (Nat.le_of_ble_eq_true rfl) (fun X hC => ?_)
  have hC : Ok G 2 4 X cX12_crew RX12 (some .int) := hC
  have hB30 : ∀ (k4 : Int32 → Int32 → Mem → Option (Int32 × Mem)), (∀ (x2 : Int32), ∀ (x3 : Int32), ∀ σ : Mem, k4 x2 x3 σ = some res → V G 2 4 X ((some (.int res.1)), res.2) σ [(0, .ref (ga G x0)), (1, .int x1), (2, .int x2), (3, .int x3)] [] 4) → ∀ (x3 : Int32), ∀ (t0 : Int32), ∀ (t1 : Int32), ∀ σ : Mem, p_X12_crew_B30 k4 x0 x1 x3 t0 t1 σ = some res → V G 2 4 X ((some (.int res.1)), res.2) σ [(0, .ref (ga G x0)), (1, .int x1), (3, .int x3)] [.int t1, .int t0] 30 := by
    intro k4 hk4 x3 t0 t1 σ h
    unfold p_X12_crew_B30 at h
    refine v_blk hC (is := [(.ior, 0), (.istore_n 2, 0), (.iinc 3 1, (1 : Int32))]) (pc' := 35) (ls' := [(3, .int (x3 + (1 : Int32))), (2, .int (t0 ||| t1)), (0, .ref (ga G x0)), (1, .int x1)]) (st' := []) (by decide +kernel) rfl ?_
    refine v_goto hC (off := (-31)) (tgt := 4) (by decide +kernel) (by decide) ?_
    refine v_sub [2, 3, 1, 0] (ls' := [(0, .ref (ga G x0)), (1, .int x1), (2, .int (t0 ||| t1)), (3, .int (x3 + (1 : Int32)))]) rfl ?_
    exact hk4 _ _ _ h
  have hB4 : ∀ (k4 : Int32 → Int32 → Mem → Option (Int32 × Mem)), (∀ (x2 : Int32), ∀ (x3 : Int32), ∀ σ : Mem, k4 x2 x3 σ = some res → V G 2 4 X ((some (.int res.1)), res.2) σ [(0, .ref (ga G x0)), (1, .int x1), (2, .int x2), (3, .int x3)] [] 4) → ∀ (x2 : Int32), ∀ (x3 : Int32), ∀ σ : Mem, p_X12_crew_B4 k4 x0 x1 x2 x3 σ = some res → V G 2 4 X ((some (.int res.1)), res.2) σ [(0, .ref (ga G x0)), (1, .int x1), (2, .int x2), (3, .int x3)] [] 4 := by
    intro k4 hk4 x2 x3 σ h
    unfold p_X12_crew_B4 at h
    refine v_blk hC (is := [(.iload_n 3, 0), (.aload_n 0, 0), (.iconst 0, (0 : Int32))]) (pc' := 7) (ls' := [(0, .ref (ga G x0)), (1, .int x1), (2, .int x2), (3, .int x3)]) (st' := [.int (0 : Int32), .ref (ga G x0), .int x3]) (by decide +kernel) rfl ?_
    refine v_iald hC (isA_row hx0) (al_row hx0) (by decide +kernel) h (fun v1 h => ?_)
    refine v_icmp_ge hC (off := 30) (tgt := 38) (by decide +kernel) (by decide) h (fun hq h => ?_) (fun hq h => ?_)
    · refine v_blk hC (is := [(.iload_n 2, 0)]) (pc' := 39) (ls' := [(0, .ref (ga G x0)), (1, .int x1), (2, .int x2), (3, .int x3)]) (st' := [.int x2]) (by decide +kernel) rfl ?_
      exact v_iret hC h (by decide +kernel)
    · refine v_blk hC (is := [(.iload_n 2, 0), (.aload_n 0, 0), (.iload_n 3, 0), (.iconst 2, (2 : Int32))]) (pc' := 15) (ls' := [(0, .ref (ga G x0)), (1, .int x1), (2, .int x2), (3, .int x3)]) (st' := [.int (2 : Int32), .int x3, .ref (ga G x0), .int x2]) (by decide +kernel) rfl ?_
      obtain ⟨v2, s3, e4, h⟩ := bndI h
      refine v_cS (idx := 57) hC ⟨tt_at 1143 (by decide +kernel) rfl, tsX12_of, tnX12_of, tcX12_of, tmX12_of⟩ (c_X12_of e4) (by decide) (by decide) (by decide +kernel) (rest := [.ref (ga G x0), .int x2]) rfl rfl (Nat.le_of_ble_eq_true rfl) rfl ?_
      refine v_iald hC (isA_row hx0) (al_row hx0) (by decide +kernel) h (fun v5 h => ?_)
      refine v_blk hC (is := [(.iload_n 1, 0)]) (pc' := 20) (ls' := [(0, .ref (ga G x0)), (1, .int x1), (2, .int x2), (3, .int x3)]) (st' := [.int x1, .int v5, .int x2]) (by decide +kernel) rfl ?_
      refine v_icmp_ne hC (off := 9) (tgt := 29) (by decide +kernel) (by decide) h (fun hq h => ?_) (fun hq h => ?_)
      · refine v_blk hC (is := [(.iconst 0, (0 : Int32))]) (pc' := 30) (ls' := [(0, .ref (ga G x0)), (1, .int x1), (2, .int x2), (3, .int x3)]) (st' := [.int (0 : Int32), .int x2]) (by decide +kernel) rfl ?_
        refine v_sub [0, 1, 3] (ls' := [(0, .ref (ga G x0)), (1, .int x1), (3, .int x3)]) rfl ?_
        exact (hB30 _ hk4) _ _ _ _ h
      · refine v_blk hC (is := [(.iconst 1, (1 : Int32)), (.iload_n 3, 0), (.ishl, 0)]) (pc' := 26) (ls' := [(0, .ref (ga G x0)), (1, .int x1), (2, .int x2), (3, .int x3)]) (st' := [.int ((1 : Int32) <<< (x3 &&& 31)), .int x2]) (by decide +kernel) rfl ?_
        refine v_goto hC (off := 4) (tgt := 30) (by decide +kernel) (by decide) ?_
        refine v_sub [0, 1, 3] (ls' := [(0, .ref (ga G x0)), (1, .int x1), (3, .int x3)]) rfl ?_
        exact (hB30 _ hk4) _ _ _ _ h
  have hL4 : ∀ f : Nat, ∀ (x2 : Int32), ∀ (x3 : Int32), ∀ σ : Mem, p_X12_crew_L4 x0 x1 f x2 x3 σ = some res → V G 2 4 X ((some (.int res.1)), res.2) σ [(0, .ref (ga G x0)), (1, .int x1), (2, .int x2), (3, .int x3)] [] 4 := by
    intro  f
    induction f with
    | zero => intro x2 x3 σ h; exact none_some h
    | succ f ih => intro x2 x3 σ h; exact hB4 (p_X12_crew_L4 x0 x1 f)  ih  x2 x3 σ h
  unfold p_X12_crew at h
  show V G 2 4 X ((some (.int res.1)), res.2) σ [(0, .ref (ga G x0)), (1, .int x1)] [] 0
  refine v_blk hC (is := [(.iconst 0, (0 : Int32)), (.istore_n 2, 0), (.iconst 0, (0 : Int32)), (.istore_n 3, 0)]) (pc' := 4) (ls' := [(3, .int (0 : Int32)), (2, .int (0 : Int32)), (0, .ref (ga G x0)), (1, .int x1)]) (st' := []) (by decide +kernel) rfl ?_
  refine v_sub [2, 3, 1, 0] (ls' := [(0, .ref (ga G x0)), (1, .int x1), (2, .int (0 : Int32)), (3, .int (0 : Int32))]) rfl ?_
  exact (hL4 1000) _ _ _ h

def p_X12_lostSet_B4 (k4 : Int32 → Int32 → Mem → Option (Int32 × Mem)) (x0 : Nat) (x1 : Int32) (x2 : Int32) (σ : Mem) : Option (Int32 × Mem) := (if (0 : Int32) < 0 ∨ 100 ≤ ((0 : Int32)).toNatClampNeg then none else lt (σ x0 ((0 : Int32)).toNatClampNeg) fun v1 => (if v1 ≤ x2 then some (x1, σ) else (bnd (p_X12_of x2 (3 : Int32) σ) fun v2 s3 => (if v2 < 0 ∨ 100 ≤ (v2).toNatClampNeg then none else lt (s3 x0 (v2).toNatClampNeg) fun v5 => k4 (x1 ||| (v5 <<< (x2 &&& 31))) (x2 + (1 : Int32)) s3))))
def p_X12_lostSet_L4  (x0 : Nat) : Nat → Int32 → Int32 → Mem → Option (Int32 × Mem)
  | 0 => fun _ _ _ => none
  | f + 1 => p_X12_lostSet_B4 (p_X12_lostSet_L4 x0 f) x0
def p_X12_lostSet (x0 : Nat) (σ : Mem) : Option (Int32 × Mem) := (p_X12_lostSet_L4 x0 1000) (0 : Int32) (0 : Int32) σ
set_option maxHeartbeats 4000000 in
set_option maxRecDepth 100000 in
theorem c_X12_lostSet {G : Gl} {x0 : Nat} {σ : Mem} {res : Int32 × Mem} (hx0 : isRow x0) (h : p_X12_lostSet x0 σ = some res) : MetX G yX12_lostSet cX12_lostSet 3 (some .int) 2 [.ref (ga G x0)] σ (some (.int res.1)) res.2 := by
  refine met_V (by decide +kernel) (Nat.le_of_ble_eq_true rfl) (fun X hC => ?_)
  have hC : Ok G 2 3 X cX12_lostSet RX12 (some .int) := hC
  have hB4 : ∀ (k4 : Int32 → Int32 → Mem → Option (Int32 × Mem)), (∀ (x1 : Int32), ∀ (x2 : Int32), ∀ σ : Mem, k4 x1 x2 σ = some res → V G 2 3 X ((some (.int res.1)), res.2) σ [(0, .ref (ga G x0)), (1, .int x1), (2, .int x2)] [] 4) → ∀ (x1 : Int32), ∀ (x2 : Int32), ∀ σ : Mem, p_X12_lostSet_B4 k4 x0 x1 x2 σ = some res → V G 2 3 X ((some (.int res.1)), res.2) σ [(0, .ref (ga G x0)), (1, .int x1), (2, .int x2)] [] 4 := by
    intro k4 hk4 x1 x2 σ h
    unfold p_X12_lostSet_B4 at h
    refine v_blk hC (is := [(.iload_n 2, 0), (.aload_n 0, 0), (.iconst 0, (0 : Int32))]) (pc' := 7) (ls' := [(0, .ref (ga G x0)), (1, .int x1), (2, .int x2)]) (st' := [.int (0 : Int32), .ref (ga G x0), .int x2]) (by decide +kernel) rfl ?_
    refine v_iald hC (isA_row hx0) (al_row hx0) (by decide +kernel) h (fun v1 h => ?_)
    refine v_icmp_ge hC (off := 21) (tgt := 29) (by decide +kernel) (by decide) h (fun hq h => ?_) (fun hq h => ?_)
    · refine v_blk hC (is := [(.iload_n 1, 0)]) (pc' := 30) (ls' := [(0, .ref (ga G x0)), (1, .int x1), (2, .int x2)]) (st' := [.int x1]) (by decide +kernel) rfl ?_
      exact v_iret hC h (by decide +kernel)
    · refine v_blk hC (is := [(.iload_n 1, 0), (.aload_n 0, 0), (.iload_n 2, 0), (.iconst 3, (3 : Int32))]) (pc' := 15) (ls' := [(0, .ref (ga G x0)), (1, .int x1), (2, .int x2)]) (st' := [.int (3 : Int32), .int x2, .ref (ga G x0), .int x1]) (by decide +kernel) rfl ?_
      obtain ⟨v2, s3, e4, h⟩ := bndI h
      refine v_cS (idx := 57) hC ⟨tt_at 1143 (by decide +kernel) rfl, tsX12_of, tnX12_of, tcX12_of, tmX12_of⟩ (c_X12_of e4) (by decide) (by decide) (by decide +kernel) (rest := [.ref (ga G x0), .int x1]) rfl rfl (Nat.le_of_ble_eq_true rfl) rfl ?_
      refine v_iald hC (isA_row hx0) (al_row hx0) (by decide +kernel) h (fun v5 h => ?_)
      refine v_blk hC (is := [(.iload_n 2, 0), (.ishl, 0), (.ior, 0), (.istore_n 1, 0), (.iinc 2 1, (1 : Int32))]) (pc' := 26) (ls' := [(2, .int (x2 + (1 : Int32))), (1, .int (x1 ||| (v5 <<< (x2 &&& 31)))), (0, .ref (ga G x0))]) (st' := []) (by decide +kernel) rfl ?_
      refine v_goto hC (off := (-22)) (tgt := 4) (by decide +kernel) (by decide) ?_
      refine v_sub [2, 1, 0] (ls' := [(0, .ref (ga G x0)), (1, .int (x1 ||| (v5 <<< (x2 &&& 31)))), (2, .int (x2 + (1 : Int32)))]) rfl ?_
      exact hk4 _ _ _ h
  have hL4 : ∀ f : Nat, ∀ (x1 : Int32), ∀ (x2 : Int32), ∀ σ : Mem, p_X12_lostSet_L4 x0 f x1 x2 σ = some res → V G 2 3 X ((some (.int res.1)), res.2) σ [(0, .ref (ga G x0)), (1, .int x1), (2, .int x2)] [] 4 := by
    intro  f
    induction f with
    | zero => intro x1 x2 σ h; exact none_some h
    | succ f ih => intro x1 x2 σ h; exact hB4 (p_X12_lostSet_L4 x0 f)  ih  x1 x2 σ h
  unfold p_X12_lostSet at h
  show V G 2 3 X ((some (.int res.1)), res.2) σ [(0, .ref (ga G x0))] [] 0
  refine v_blk hC (is := [(.iconst 0, (0 : Int32)), (.istore_n 1, 0), (.iconst 0, (0 : Int32)), (.istore_n 2, 0)]) (pc' := 4) (ls' := [(2, .int (0 : Int32)), (1, .int (0 : Int32)), (0, .ref (ga G x0))]) (st' := []) (by decide +kernel) rfl ?_
  refine v_sub [2, 1, 0] (ls' := [(0, .ref (ga G x0)), (1, .int (0 : Int32)), (2, .int (0 : Int32))]) rfl ?_
  exact (hL4 1000) _ _ _ h

def p_X12_aliveSet (x0 : Nat) (σ : Mem) : Option (Int32 × Mem) := (if (0 : Int32) < 0 ∨ 100 ≤ ((0 : Int32)).toNatClampNeg then none else lt (σ x0 ((0 : Int32)).toNatClampNeg) fun v1 => (bnd (p_X12_lostSet x0 σ) fun v2 s3 => some (((((1 : Int32) <<< (v1 &&& 31)) - (1 : Int32)) &&& (v2 ^^^ (-1 : Int32))), s3)))
set_option maxHeartbeats 4000000 in
set_option maxRecDepth 100000 in
theorem c_X12_aliveSet {G : Gl} {x0 : Nat} {σ : Mem} {res : Int32 × Mem} (hx0 : isRow x0) (h : p_X12_aliveSet x0 σ = some res) : MetX G yX12_aliveSet cX12_aliveSet 1 (some .int) 3 [.ref (ga G x0)] σ (some (.int res.1)) res.2 := by
  refine met_V (by decide +kernel) (Nat.le_of_ble_eq_true rfl) (fun X hC => ?_)
  have hC : Ok G 3 1 X cX12_aliveSet RX12 (some .int) := hC
  unfold p_X12_aliveSet at h
  show V G 3 1 X ((some (.int res.1)), res.2) σ [(0, .ref (ga G x0))] [] 0
  refine v_blk hC (is := [(.iconst 1, (1 : Int32)), (.aload_n 0, 0), (.iconst 0, (0 : Int32))]) (pc' := 3) (ls' := [(0, .ref (ga G x0))]) (st' := [.int (0 : Int32), .ref (ga G x0), .int (1 : Int32)]) (by decide +kernel) rfl ?_
  refine v_iald hC (isA_row hx0) (al_row hx0) (by decide +kernel) h (fun v1 h => ?_)
  refine v_blk hC (is := [(.ishl, 0), (.iconst 1, (1 : Int32)), (.isub, 0), (.aload_n 0, 0)]) (pc' := 8) (ls' := [(0, .ref (ga G x0))]) (st' := [.ref (ga G x0), .int (((1 : Int32) <<< (v1 &&& 31)) - (1 : Int32))]) (by decide +kernel) rfl ?_
  obtain ⟨v2, s3, e4, h⟩ := bndI h
  refine v_cS (idx := 89) hC ⟨tt_at 1246 (by decide +kernel) rfl, tsX12_lostSet, tnX12_lostSet, tcX12_lostSet, tmX12_lostSet⟩ (c_X12_lostSet hx0 e4) (by decide) (by decide) (by decide +kernel) (rest := [.int (((1 : Int32) <<< (v1 &&& 31)) - (1 : Int32))]) rfl rfl (Nat.le_of_ble_eq_true rfl) rfl ?_
  refine v_blk hC (is := [(.iconst (-1), (-1 : Int32)), (.ixor, 0), (.iand, 0)]) (pc' := 14) (ls' := [(0, .ref (ga G x0))]) (st' := [.int ((((1 : Int32) <<< (v1 &&& 31)) - (1 : Int32)) &&& (v2 ^^^ (-1 : Int32)))]) (by decide +kernel) rfl ?_
  exact v_iret hC h (by decide +kernel)

def p_X12_fallsIn_B56 (k13 : Int32 → Int32 → Int32 → Mem → Option (Int32 × Mem)) (x0 : Nat) (x1 : Int32) (x2 : Int32) (x3 : Int32) (x4 : Int32) (x5 : Int32) (σ : Mem) : Option (Int32 × Mem) := k13 x3 x4 (x5 + (1 : Int32)) σ
def p_X12_fallsIn_B52 (k13 : Int32 → Int32 → Int32 → Mem → Option (Int32 × Mem)) (x0 : Nat) (x1 : Int32) (x2 : Int32) (x3 : Int32) (x5 : Int32) (σ : Mem) : Option (Int32 × Mem) := (p_X12_fallsIn_B56 k13 x0 x1 x2) x3 x5 x5 σ
def p_X12_fallsIn_B13 (k13 : Int32 → Int32 → Int32 → Mem → Option (Int32 × Mem)) (k62 : Int32 → Mem → Option (Int32 × Mem)) (x0 : Nat) (x1 : Int32) (x2 : Int32) (x3 : Int32) (x4 : Int32) (x5 : Int32) (σ : Mem) : Option (Int32 × Mem) := (if (0 : Int32) < 0 ∨ 100 ≤ ((0 : Int32)).toNatClampNeg then none else lt (σ x0 ((0 : Int32)).toNatClampNeg) fun v1 => (if v1 ≤ x5 then k62 x4 σ else (bnd (p_X12_has x3 x5 σ) fun v2 s3 => (if v2 = 0 then (p_X12_fallsIn_B56 k13 x0 x1 x2) x3 x4 x5 s3 else (if x4 < 0 then (p_X12_fallsIn_B52 k13 x0 x1 x2) x3 x5 s3 else (bnd (p_X12_riskOf x0 x5 x2 s3) fun v5 s6 => (bnd (p_X12_riskOf x0 x4 x2 s6) fun v8 s9 => (if v5 ≤ v8 then (p_X12_fallsIn_B56 k13 x0 x1 x2) x3 x4 x5 s9 else (p_X12_fallsIn_B52 k13 x0 x1 x2) x3 x5 s9))))))))
def p_X12_fallsIn_L13 (k62 : Int32 → Mem → Option (Int32 × Mem)) (x0 : Nat) (x1 : Int32) (x2 : Int32) : Nat → Int32 → Int32 → Int32 → Mem → Option (Int32 × Mem)
  | 0 => fun _ _ _ _ => none
  | f + 1 => p_X12_fallsIn_B13 (p_X12_fallsIn_L13 k62 x0 x1 x2 f) k62 x0 x1 x2
def p_X12_fallsIn (x0 : Nat) (x1 : Int32) (x2 : Int32) (σ : Mem) : Option (Int32 × Mem) := (bnd (p_X12_crew x0 x1 σ) fun v11 s12 => (p_X12_fallsIn_L13 (fun (x4 : Int32) (m14 : Mem) => (if 0 ≤ x4 then (bnd (p_X12_riskOf x0 x4 x2 m14) fun v15 s16 => (if v15 ≤ 0 then some ((-4 : Int32), s16) else (if (2 : Int32) < 0 ∨ 100 ≤ ((2 : Int32)).toNatClampNeg then none else lt (s16 x0 ((2 : Int32)).toNatClampNeg) fun v18 => (if v15 < v18 then some ((-4 : Int32), s16) else some (x4, s16))))) else some ((-4 : Int32), m14))) x0 x1 x2 1000) v11 (-4 : Int32) (0 : Int32) s12)
set_option maxHeartbeats 4000000 in
set_option maxRecDepth 100000 in
theorem c_X12_fallsIn {G : Gl} {x0 : Nat} {x1 : Int32} {x2 : Int32} {σ : Mem} {res : Int32 × Mem} (hx0 : isRow x0) (h : p_X12_fallsIn x0 x1 x2 σ = some res) : MetX G yX12_fallsIn cX12_fallsIn 6 (some .int) 3 [.ref (ga G x0), .int x1, .int x2] σ (some (.int res.1)) res.2 := by
  refine met_V (by decide +kernel) (Nat.le_of_ble_eq_true rfl) (fun X hC => ?_)
  have hC : Ok G 3 6 X cX12_fallsIn RX12 (some .int) := hC
  have hB56 : ∀ (k13 : Int32 → Int32 → Int32 → Mem → Option (Int32 × Mem)), (∀ (x3 : Int32), ∀ (x4 : Int32), ∀ (x5 : Int32), ∀ σ : Mem, k13 x3 x4 x5 σ = some res → V G 3 6 X ((some (.int res.1)), res.2) σ [(0, .ref (ga G x0)), (2, .int x2), (3, .int x3), (4, .int x4), (5, .int x5)] [] 13) → ∀ (x3 : Int32), ∀ (x4 : Int32), ∀ (x5 : Int32), ∀ σ : Mem, p_X12_fallsIn_B56 k13 x0 x1 x2 x3 x4 x5 σ = some res → V G 3 6 X ((some (.int res.1)), res.2) σ [(0, .ref (ga G x0)), (2, .int x2), (3, .int x3), (4, .int x4), (5, .int x5)] [] 56 := by
    intro k13 hk13 x3 x4 x5 σ h
    unfold p_X12_fallsIn_B56 at h
    refine v_blk hC (is := [(.iinc 5 1, (1 : Int32))]) (pc' := 59) (ls' := [(5, .int (x5 + (1 : Int32))), (0, .ref (ga G x0)), (2, .int x2), (3, .int x3), (4, .int x4)]) (st' := []) (by decide +kernel) rfl ?_
    refine v_goto hC (off := (-46)) (tgt := 13) (by decide +kernel) (by decide) ?_
    refine v_sub [1, 2, 3, 4, 0] (ls' := [(0, .ref (ga G x0)), (2, .int x2), (3, .int x3), (4, .int x4), (5, .int (x5 + (1 : Int32)))]) rfl ?_
    exact hk13 _ _ _ _ h
  have hB52 : ∀ (k13 : Int32 → Int32 → Int32 → Mem → Option (Int32 × Mem)), (∀ (x3 : Int32), ∀ (x4 : Int32), ∀ (x5 : Int32), ∀ σ : Mem, k13 x3 x4 x5 σ = some res → V G 3 6 X ((some (.int res.1)), res.2) σ [(0, .ref (ga G x0)), (2, .int x2), (3, .int x3), (4, .int x4), (5, .int x5)] [] 13) → ∀ (x3 : Int32), ∀ (x5 : Int32), ∀ σ : Mem, p_X12_fallsIn_B52 k13 x0 x1 x2 x3 x5 σ = some res → V G 3 6 X ((some (.int res.1)), res.2) σ [(0, .ref (ga G x0)), (2, .int x2), (3, .int x3), (5, .int x5)] [] 52 := by
    intro k13 hk13 x3 x5 σ h
    unfold p_X12_fallsIn_B52 at h
    refine v_blk hC (is := [(.iload 5, 0), (.istore 4, 0)]) (pc' := 56) (ls' := [(4, .int x5), (0, .ref (ga G x0)), (2, .int x2), (3, .int x3), (5, .int x5)]) (st' := []) (by decide +kernel) rfl ?_
    refine v_sub [1, 2, 3, 0, 4] (ls' := [(0, .ref (ga G x0)), (2, .int x2), (3, .int x3), (4, .int x5), (5, .int x5)]) rfl ?_
    exact (hB56 _ hk13) _ _ _ _ h
  have hB13 : ∀ (k13 : Int32 → Int32 → Int32 → Mem → Option (Int32 × Mem)), ∀ (k62 : Int32 → Mem → Option (Int32 × Mem)), (∀ (x3 : Int32), ∀ (x4 : Int32), ∀ (x5 : Int32), ∀ σ : Mem, k13 x3 x4 x5 σ = some res → V G 3 6 X ((some (.int res.1)), res.2) σ [(0, .ref (ga G x0)), (2, .int x2), (3, .int x3), (4, .int x4), (5, .int x5)] [] 13) → (∀ (x4 : Int32), ∀ σ : Mem, k62 x4 σ = some res → V G 3 6 X ((some (.int res.1)), res.2) σ [(0, .ref (ga G x0)), (2, .int x2), (4, .int x4)] [] 62) → ∀ (x3 : Int32), ∀ (x4 : Int32), ∀ (x5 : Int32), ∀ σ : Mem, p_X12_fallsIn_B13 k13 k62 x0 x1 x2 x3 x4 x5 σ = some res → V G 3 6 X ((some (.int res.1)), res.2) σ [(0, .ref (ga G x0)), (2, .int x2), (3, .int x3), (4, .int x4), (5, .int x5)] [] 13 := by
    intro k13 k62 hk13 hk62 x3 x4 x5 σ h
    unfold p_X12_fallsIn_B13 at h
    refine v_blk hC (is := [(.iload 5, 0), (.aload_n 0, 0), (.iconst 0, (0 : Int32))]) (pc' := 17) (ls' := [(0, .ref (ga G x0)), (2, .int x2), (3, .int x3), (4, .int x4), (5, .int x5)]) (st' := [.int (0 : Int32), .ref (ga G x0), .int x5]) (by decide +kernel) rfl ?_
    refine v_iald hC (isA_row hx0) (al_row hx0) (by decide +kernel) h (fun v1 h => ?_)
    refine v_icmp_ge hC (off := 44) (tgt := 62) (by decide +kernel) (by decide) h (fun hq h => ?_) (fun hq h => ?_)
    · refine v_sub [0, 1, 3] (ls' := [(0, .ref (ga G x0)), (2, .int x2), (4, .int x4)]) rfl ?_
      exact hk62 _ _ h
    · refine v_blk hC (is := [(.iload_n 3, 0), (.iload 5, 0)]) (pc' := 24) (ls' := [(0, .ref (ga G x0)), (2, .int x2), (3, .int x3), (4, .int x4), (5, .int x5)]) (st' := [.int x5, .int x3]) (by decide +kernel) rfl ?_
      obtain ⟨v2, s3, e4, h⟩ := bndI h
      refine v_cS (idx := 85) hC ⟨tt_at 1175 (by decide +kernel) rfl, tsX12_has, tnX12_has, tcX12_has, tmX12_has⟩ (c_X12_has e4) (by decide) (by decide) (by decide +kernel) (rest := []) rfl rfl (Nat.le_of_ble_eq_true rfl) rfl ?_
      refine v_if_eq hC (off := 29) (tgt := 56) (by decide +kernel) (by decide) h (fun hq h => ?_) (fun hq h => ?_)
      · exact (hB56 _ hk13) _ _ _ _ h
      · refine v_blk hC (is := [(.iload 4, 0)]) (pc' := 32) (ls' := [(0, .ref (ga G x0)), (2, .int x2), (3, .int x3), (4, .int x4), (5, .int x5)]) (st' := [.int x4]) (by decide +kernel) rfl ?_
        refine v_if_lt hC (off := 20) (tgt := 52) (by decide +kernel) (by decide) h (fun hq h => ?_) (fun hq h => ?_)
        · refine v_sub [0, 1, 2, 4] (ls' := [(0, .ref (ga G x0)), (2, .int x2), (3, .int x3), (5, .int x5)]) rfl ?_
          exact (hB52 _ hk13) _ _ _ h
        · refine v_blk hC (is := [(.aload_n 0, 0), (.iload 5, 0), (.iload_n 2, 0)]) (pc' := 39) (ls' := [(0, .ref (ga G x0)), (2, .int x2), (3, .int x3), (4, .int x4), (5, .int x5)]) (st' := [.int x2, .int x5, .ref (ga G x0)]) (by decide +kernel) rfl ?_
          obtain ⟨v5, s6, e7, h⟩ := bndI h
          refine v_cS (idx := 97) hC ⟨tt_at 1178 (by decide +kernel) rfl, tsX12_riskOf, tnX12_riskOf, tcX12_riskOf, tmX12_riskOf⟩ (c_X12_riskOf hx0 e7) (by decide) (by decide) (by decide +kernel) (rest := []) rfl rfl (Nat.le_of_ble_eq_true rfl) rfl ?_
          refine v_blk hC (is := [(.aload_n 0, 0), (.iload 4, 0), (.iload_n 2, 0)]) (pc' := 46) (ls' := [(0, .ref (ga G x0)), (2, .int x2), (3, .int x3), (4, .int x4), (5, .int x5)]) (st' := [.int x2, .int x4, .ref (ga G x0), .int v5]) (by decide +kernel) rfl ?_
          obtain ⟨v8, s9, e10, h⟩ := bndI h
          refine v_cS (idx := 97) hC ⟨tt_at 1178 (by decide +kernel) rfl, tsX12_riskOf, tnX12_riskOf, tcX12_riskOf, tmX12_riskOf⟩ (c_X12_riskOf hx0 e10) (by decide) (by decide) (by decide +kernel) (rest := [.int v5]) rfl rfl (Nat.le_of_ble_eq_true rfl) rfl ?_
          refine v_icmp_le hC (off := 7) (tgt := 56) (by decide +kernel) (by decide) h (fun hq h => ?_) (fun hq h => ?_)
          · exact (hB56 _ hk13) _ _ _ _ h
          · refine v_sub [0, 1, 2, 4] (ls' := [(0, .ref (ga G x0)), (2, .int x2), (3, .int x3), (5, .int x5)]) rfl ?_
            exact (hB52 _ hk13) _ _ _ h
  have hL13 : ∀ (k62 : Int32 → Mem → Option (Int32 × Mem)), (∀ (x4 : Int32), ∀ σ : Mem, k62 x4 σ = some res → V G 3 6 X ((some (.int res.1)), res.2) σ [(0, .ref (ga G x0)), (2, .int x2), (4, .int x4)] [] 62) → ∀ f : Nat, ∀ (x3 : Int32), ∀ (x4 : Int32), ∀ (x5 : Int32), ∀ σ : Mem, p_X12_fallsIn_L13 k62 x0 x1 x2 f x3 x4 x5 σ = some res → V G 3 6 X ((some (.int res.1)), res.2) σ [(0, .ref (ga G x0)), (2, .int x2), (3, .int x3), (4, .int x4), (5, .int x5)] [] 13 := by
    intro k62 hk62 f
    induction f with
    | zero => intro x3 x4 x5 σ h; exact none_some h
    | succ f ih => intro x3 x4 x5 σ h; exact hB13 (p_X12_fallsIn_L13 k62 x0 x1 x2 f) k62 ih hk62 x3 x4 x5 σ h
  unfold p_X12_fallsIn at h
  show V G 3 6 X ((some (.int res.1)), res.2) σ [(0, .ref (ga G x0)), (1, .int x1), (2, .int x2)] [] 0
  refine v_blk hC (is := [(.aload_n 0, 0), (.iload_n 1, 0)]) (pc' := 2) (ls' := [(0, .ref (ga G x0)), (1, .int x1), (2, .int x2)]) (st' := [.int x1, .ref (ga G x0)]) (by decide +kernel) rfl ?_
  obtain ⟨v11, s12, e13, h⟩ := bndI h
  refine v_cS (idx := 93) hC ⟨tt_at 1172 (by decide +kernel) rfl, tsX12_crew, tnX12_crew, tcX12_crew, tmX12_crew⟩ (c_X12_crew hx0 e13) (by decide) (by decide) (by decide +kernel) (rest := []) rfl rfl (Nat.le_of_ble_eq_true rfl) rfl ?_
  refine v_blk hC (is := [(.istore_n 3, 0), (.bipush (-4), (-4 : Int32)), (.istore 4, 0), (.iconst 0, (0 : Int32)), (.istore 5, 0)]) (pc' := 13) (ls' := [(5, .int (0 : Int32)), (4, .int (-4 : Int32)), (3, .int v11), (0, .ref (ga G x0)), (1, .int x1), (2, .int x2)]) (st' := []) (by decide +kernel) rfl ?_
  refine v_sub [3, 5, 2, 1, 0] (ls' := [(0, .ref (ga G x0)), (2, .int x2), (3, .int v11), (4, .int (-4 : Int32)), (5, .int (0 : Int32))]) rfl ?_
  exact (hL13 _ (fun x4  m14 h => by
      refine v_blk hC (is := [(.iload 4, 0)]) (pc' := 64) (ls' := [(0, .ref (ga G x0)), (2, .int x2), (4, .int x4)]) (st' := [.int x4]) (by decide +kernel) rfl ?_
      refine v_if_ge hC (off := 6) (tgt := 70) (by decide +kernel) (by decide) h (fun hq h => ?_) (fun hq h => ?_)
      · refine v_blk hC (is := [(.aload_n 0, 0), (.iload 4, 0), (.iload_n 2, 0)]) (pc' := 74) (ls' := [(0, .ref (ga G x0)), (2, .int x2), (4, .int x4)]) (st' := [.int x2, .int x4, .ref (ga G x0)]) (by decide +kernel) rfl ?_
        obtain ⟨v15, s16, e17, h⟩ := bndI h
        refine v_cS (idx := 97) hC ⟨tt_at 1178 (by decide +kernel) rfl, tsX12_riskOf, tnX12_riskOf, tcX12_riskOf, tmX12_riskOf⟩ (c_X12_riskOf hx0 e17) (by decide) (by decide) (by decide +kernel) (rest := []) rfl rfl (Nat.le_of_ble_eq_true rfl) rfl ?_
        refine v_blk hC (is := [(.istore 5, 0), (.iload 5, 0)]) (pc' := 81) (ls' := [(5, .int v15), (0, .ref (ga G x0)), (2, .int x2), (4, .int x4)]) (st' := [.int v15]) (by decide +kernel) rfl ?_
        refine v_if_le hC (off := 16) (tgt := 97) (by decide +kernel) (by decide) h (fun hq h => ?_) (fun hq h => ?_)
        · refine v_blk hC (is := [(.bipush (-4), (-4 : Int32))]) (pc' := 99) (ls' := [(5, .int v15), (0, .ref (ga G x0)), (2, .int x2), (4, .int x4)]) (st' := [.int (-4 : Int32)]) (by decide +kernel) rfl ?_
          exact v_iret hC h (by decide +kernel)
        · refine v_blk hC (is := [(.iload 5, 0), (.aload_n 0, 0), (.iconst 2, (2 : Int32))]) (pc' := 88) (ls' := [(5, .int v15), (0, .ref (ga G x0)), (2, .int x2), (4, .int x4)]) (st' := [.int (2 : Int32), .ref (ga G x0), .int v15]) (by decide +kernel) rfl ?_
          refine v_iald hC (isA_row hx0) (al_row hx0) (by decide +kernel) h (fun v18 h => ?_)
          refine v_icmp_lt hC (off := 8) (tgt := 97) (by decide +kernel) (by decide) h (fun hq h => ?_) (fun hq h => ?_)
          · refine v_blk hC (is := [(.bipush (-4), (-4 : Int32))]) (pc' := 99) (ls' := [(5, .int v15), (0, .ref (ga G x0)), (2, .int x2), (4, .int x4)]) (st' := [.int (-4 : Int32)]) (by decide +kernel) rfl ?_
            exact v_iret hC h (by decide +kernel)
          · refine v_blk hC (is := [(.iload 4, 0)]) (pc' := 94) (ls' := [(5, .int v15), (0, .ref (ga G x0)), (2, .int x2), (4, .int x4)]) (st' := [.int x4]) (by decide +kernel) rfl ?_
            refine v_goto hC (off := 5) (tgt := 99) (by decide +kernel) (by decide) ?_
            exact v_iret hC h (by decide +kernel)
      · refine v_blk hC (is := [(.bipush (-4), (-4 : Int32))]) (pc' := 69) (ls' := [(0, .ref (ga G x0)), (2, .int x2), (4, .int x4)]) (st' := [.int (-4 : Int32)]) (by decide +kernel) rfl ?_
        exact v_iret hC h (by decide +kernel)) 1000) _ _ _ _ h

def p_X12_saverOf_B62 (k14 : Int32 → Int32 → Int32 → Mem → Option (Int32 × Mem)) (x0 : Nat) (x1 : Int32) (x2 : Int32) (x3 : Int32) (x4 : Int32) (x5 : Int32) (x6 : Int32) (σ : Mem) : Option (Int32 × Mem) := k14 x4 x5 (x6 + (1 : Int32)) σ
def p_X12_saverOf_B58 (k14 : Int32 → Int32 → Int32 → Mem → Option (Int32 × Mem)) (x0 : Nat) (x1 : Int32) (x2 : Int32) (x3 : Int32) (x4 : Int32) (x6 : Int32) (σ : Mem) : Option (Int32 × Mem) := (p_X12_saverOf_B62 k14 x0 x1 x2 x3) x4 x6 x6 σ
def p_X12_saverOf_B14 (k14 : Int32 → Int32 → Int32 → Mem → Option (Int32 × Mem)) (k68 : Int32 → Mem → Option (Int32 × Mem)) (x0 : Nat) (x1 : Int32) (x2 : Int32) (x3 : Int32) (x4 : Int32) (x5 : Int32) (x6 : Int32) (σ : Mem) : Option (Int32 × Mem) := (if (0 : Int32) < 0 ∨ 100 ≤ ((0 : Int32)).toNatClampNeg then none else lt (σ x0 ((0 : Int32)).toNatClampNeg) fun v1 => (if v1 ≤ x6 then k68 x5 σ else (if x6 = x2 then (p_X12_saverOf_B62 k14 x0 x1 x2 x3) x4 x5 x6 σ else (bnd (p_X12_has x4 x6 σ) fun v2 s3 => (if v2 = 0 then (p_X12_saverOf_B62 k14 x0 x1 x2 x3) x4 x5 x6 s3 else (if x5 < 0 then (p_X12_saverOf_B58 k14 x0 x1 x2 x3) x4 x6 s3 else (bnd (p_X12_reachOf x0 x6 s3) fun v5 s6 => (bnd (p_X12_reachOf x0 x5 s6) fun v8 s9 => (if v5 ≤ v8 then (p_X12_saverOf_B62 k14 x0 x1 x2 x3) x4 x5 x6 s9 else (p_X12_saverOf_B58 k14 x0 x1 x2 x3) x4 x6 s9)))))))))
def p_X12_saverOf_L14 (k68 : Int32 → Mem → Option (Int32 × Mem)) (x0 : Nat) (x1 : Int32) (x2 : Int32) (x3 : Int32) : Nat → Int32 → Int32 → Int32 → Mem → Option (Int32 × Mem)
  | 0 => fun _ _ _ _ => none
  | f + 1 => p_X12_saverOf_B14 (p_X12_saverOf_L14 k68 x0 x1 x2 x3 f) k68 x0 x1 x2 x3
def p_X12_saverOf (x0 : Nat) (x1 : Int32) (x2 : Int32) (x3 : Int32) (σ : Mem) : Option (Int32 × Mem) := (bnd (p_X12_crew x0 x1 σ) fun v11 s12 => (p_X12_saverOf_L14 (fun (x5 : Int32) (m14 : Mem) => (if x5 < 0 then some ((-4 : Int32), m14) else (bnd (p_X12_reachOf x0 x5 m14) fun v15 s16 => (bnd (p_X12_riskOf x0 x2 x3 s16) fun v18 s19 => (if v15 < v18 then some ((-4 : Int32), s19) else some (x5, s19)))))) x0 x1 x2 x3 1000) v11 (-4 : Int32) (0 : Int32) s12)
set_option maxHeartbeats 4000000 in
set_option maxRecDepth 100000 in
theorem c_X12_saverOf {G : Gl} {x0 : Nat} {x1 : Int32} {x2 : Int32} {x3 : Int32} {σ : Mem} {res : Int32 × Mem} (hx0 : isRow x0) (h : p_X12_saverOf x0 x1 x2 x3 σ = some res) : MetX G yX12_saverOf cX12_saverOf 7 (some .int) 3 [.ref (ga G x0), .int x1, .int x2, .int x3] σ (some (.int res.1)) res.2 := by
  refine met_V (by decide +kernel) (Nat.le_of_ble_eq_true rfl) (fun X hC => ?_)
  have hC : Ok G 3 7 X cX12_saverOf RX12 (some .int) := hC
  have hB62 : ∀ (k14 : Int32 → Int32 → Int32 → Mem → Option (Int32 × Mem)), (∀ (x4 : Int32), ∀ (x5 : Int32), ∀ (x6 : Int32), ∀ σ : Mem, k14 x4 x5 x6 σ = some res → V G 3 7 X ((some (.int res.1)), res.2) σ [(0, .ref (ga G x0)), (2, .int x2), (3, .int x3), (4, .int x4), (5, .int x5), (6, .int x6)] [] 14) → ∀ (x4 : Int32), ∀ (x5 : Int32), ∀ (x6 : Int32), ∀ σ : Mem, p_X12_saverOf_B62 k14 x0 x1 x2 x3 x4 x5 x6 σ = some res → V G 3 7 X ((some (.int res.1)), res.2) σ [(0, .ref (ga G x0)), (2, .int x2), (3, .int x3), (4, .int x4), (5, .int x5), (6, .int x6)] [] 62 := by
    intro k14 hk14 x4 x5 x6 σ h
    unfold p_X12_saverOf_B62 at h
    refine v_blk hC (is := [(.iinc 6 1, (1 : Int32))]) (pc' := 65) (ls' := [(6, .int (x6 + (1 : Int32))), (0, .ref (ga G x0)), (2, .int x2), (3, .int x3), (4, .int x4), (5, .int x5)]) (st' := []) (by decide +kernel) rfl ?_
    refine v_goto hC (off := (-51)) (tgt := 14) (by decide +kernel) (by decide) ?_
    refine v_sub [1, 2, 3, 4, 5, 0] (ls' := [(0, .ref (ga G x0)), (2, .int x2), (3, .int x3), (4, .int x4), (5, .int x5), (6, .int (x6 + (1 : Int32)))]) rfl ?_
    exact hk14 _ _ _ _ h
  have hB58 : ∀ (k14 : Int32 → Int32 → Int32 → Mem → Option (Int32 × Mem)), (∀ (x4 : Int32), ∀ (x5 : Int32), ∀ (x6 : Int32), ∀ σ : Mem, k14 x4 x5 x6 σ = some res → V G 3 7 X ((some (.int res.1)), res.2) σ [(0, .ref (ga G x0)), (2, .int x2), (3, .int x3), (4, .int x4), (5, .int x5), (6, .int x6)] [] 14) → ∀ (x4 : Int32), ∀ (x6 : Int32), ∀ σ : Mem, p_X12_saverOf_B58 k14 x0 x1 x2 x3 x4 x6 σ = some res → V G 3 7 X ((some (.int res.1)), res.2) σ [(0, .ref (ga G x0)), (2, .int x2), (3, .int x3), (4, .int x4), (6, .int x6)] [] 58 := by
    intro k14 hk14 x4 x6 σ h
    unfold p_X12_saverOf_B58 at h
    refine v_blk hC (is := [(.iload 6, 0), (.istore 5, 0)]) (pc' := 62) (ls' := [(5, .int x6), (0, .ref (ga G x0)), (2, .int x2), (3, .int x3), (4, .int x4), (6, .int x6)]) (st' := []) (by decide +kernel) rfl ?_
    refine v_sub [1, 2, 3, 4, 0, 5] (ls' := [(0, .ref (ga G x0)), (2, .int x2), (3, .int x3), (4, .int x4), (5, .int x6), (6, .int x6)]) rfl ?_
    exact (hB62 _ hk14) _ _ _ _ h
  have hB14 : ∀ (k14 : Int32 → Int32 → Int32 → Mem → Option (Int32 × Mem)), ∀ (k68 : Int32 → Mem → Option (Int32 × Mem)), (∀ (x4 : Int32), ∀ (x5 : Int32), ∀ (x6 : Int32), ∀ σ : Mem, k14 x4 x5 x6 σ = some res → V G 3 7 X ((some (.int res.1)), res.2) σ [(0, .ref (ga G x0)), (2, .int x2), (3, .int x3), (4, .int x4), (5, .int x5), (6, .int x6)] [] 14) → (∀ (x5 : Int32), ∀ σ : Mem, k68 x5 σ = some res → V G 3 7 X ((some (.int res.1)), res.2) σ [(0, .ref (ga G x0)), (2, .int x2), (3, .int x3), (5, .int x5)] [] 68) → ∀ (x4 : Int32), ∀ (x5 : Int32), ∀ (x6 : Int32), ∀ σ : Mem, p_X12_saverOf_B14 k14 k68 x0 x1 x2 x3 x4 x5 x6 σ = some res → V G 3 7 X ((some (.int res.1)), res.2) σ [(0, .ref (ga G x0)), (2, .int x2), (3, .int x3), (4, .int x4), (5, .int x5), (6, .int x6)] [] 14 := by
    intro k14 k68 hk14 hk68 x4 x5 x6 σ h
    unfold p_X12_saverOf_B14 at h
    refine v_blk hC (is := [(.iload 6, 0), (.aload_n 0, 0), (.iconst 0, (0 : Int32))]) (pc' := 18) (ls' := [(0, .ref (ga G x0)), (2, .int x2), (3, .int x3), (4, .int x4), (5, .int x5), (6, .int x6)]) (st' := [.int (0 : Int32), .ref (ga G x0), .int x6]) (by decide +kernel) rfl ?_
    refine v_iald hC (isA_row hx0) (al_row hx0) (by decide +kernel) h (fun v1 h => ?_)
    refine v_icmp_ge hC (off := 49) (tgt := 68) (by decide +kernel) (by decide) h (fun hq h => ?_) (fun hq h => ?_)
    · refine v_sub [0, 1, 2, 4] (ls' := [(0, .ref (ga G x0)), (2, .int x2), (3, .int x3), (5, .int x5)]) rfl ?_
      exact hk68 _ _ h
    · refine v_blk hC (is := [(.iload 6, 0), (.iload_n 2, 0)]) (pc' := 25) (ls' := [(0, .ref (ga G x0)), (2, .int x2), (3, .int x3), (4, .int x4), (5, .int x5), (6, .int x6)]) (st' := [.int x2, .int x6]) (by decide +kernel) rfl ?_
      refine v_icmp_eq hC (off := 37) (tgt := 62) (by decide +kernel) (by decide) h (fun hq h => ?_) (fun hq h => ?_)
      · exact (hB62 _ hk14) _ _ _ _ h
      · refine v_blk hC (is := [(.iload 4, 0), (.iload 6, 0)]) (pc' := 32) (ls' := [(0, .ref (ga G x0)), (2, .int x2), (3, .int x3), (4, .int x4), (5, .int x5), (6, .int x6)]) (st' := [.int x6, .int x4]) (by decide +kernel) rfl ?_
        obtain ⟨v2, s3, e4, h⟩ := bndI h
        refine v_cS (idx := 85) hC ⟨tt_at 1175 (by decide +kernel) rfl, tsX12_has, tnX12_has, tcX12_has, tmX12_has⟩ (c_X12_has e4) (by decide) (by decide) (by decide +kernel) (rest := []) rfl rfl (Nat.le_of_ble_eq_true rfl) rfl ?_
        refine v_if_eq hC (off := 27) (tgt := 62) (by decide +kernel) (by decide) h (fun hq h => ?_) (fun hq h => ?_)
        · exact (hB62 _ hk14) _ _ _ _ h
        · refine v_blk hC (is := [(.iload 5, 0)]) (pc' := 40) (ls' := [(0, .ref (ga G x0)), (2, .int x2), (3, .int x3), (4, .int x4), (5, .int x5), (6, .int x6)]) (st' := [.int x5]) (by decide +kernel) rfl ?_
          refine v_if_lt hC (off := 18) (tgt := 58) (by decide +kernel) (by decide) h (fun hq h => ?_) (fun hq h => ?_)
          · refine v_sub [0, 1, 2, 3, 5] (ls' := [(0, .ref (ga G x0)), (2, .int x2), (3, .int x3), (4, .int x4), (6, .int x6)]) rfl ?_
            exact (hB58 _ hk14) _ _ _ h
          · refine v_blk hC (is := [(.aload_n 0, 0), (.iload 6, 0)]) (pc' := 46) (ls' := [(0, .ref (ga G x0)), (2, .int x2), (3, .int x3), (4, .int x4), (5, .int x5), (6, .int x6)]) (st' := [.int x6, .ref (ga G x0)]) (by decide +kernel) rfl ?_
            obtain ⟨v5, s6, e7, h⟩ := bndI h
            refine v_cS (idx := 101) hC ⟨tt_at 1187 (by decide +kernel) rfl, tsX12_reachOf, tnX12_reachOf, tcX12_reachOf, tmX12_reachOf⟩ (c_X12_reachOf hx0 e7) (by decide) (by decide) (by decide +kernel) (rest := []) rfl rfl (Nat.le_of_ble_eq_true rfl) rfl ?_
            refine v_blk hC (is := [(.aload_n 0, 0), (.iload 5, 0)]) (pc' := 52) (ls' := [(0, .ref (ga G x0)), (2, .int x2), (3, .int x3), (4, .int x4), (5, .int x5), (6, .int x6)]) (st' := [.int x5, .ref (ga G x0), .int v5]) (by decide +kernel) rfl ?_
            obtain ⟨v8, s9, e10, h⟩ := bndI h
            refine v_cS (idx := 101) hC ⟨tt_at 1187 (by decide +kernel) rfl, tsX12_reachOf, tnX12_reachOf, tcX12_reachOf, tmX12_reachOf⟩ (c_X12_reachOf hx0 e10) (by decide) (by decide) (by decide +kernel) (rest := [.int v5]) rfl rfl (Nat.le_of_ble_eq_true rfl) rfl ?_
            refine v_icmp_le hC (off := 7) (tgt := 62) (by decide +kernel) (by decide) h (fun hq h => ?_) (fun hq h => ?_)
            · exact (hB62 _ hk14) _ _ _ _ h
            · refine v_sub [0, 1, 2, 3, 5] (ls' := [(0, .ref (ga G x0)), (2, .int x2), (3, .int x3), (4, .int x4), (6, .int x6)]) rfl ?_
              exact (hB58 _ hk14) _ _ _ h
  have hL14 : ∀ (k68 : Int32 → Mem → Option (Int32 × Mem)), (∀ (x5 : Int32), ∀ σ : Mem, k68 x5 σ = some res → V G 3 7 X ((some (.int res.1)), res.2) σ [(0, .ref (ga G x0)), (2, .int x2), (3, .int x3), (5, .int x5)] [] 68) → ∀ f : Nat, ∀ (x4 : Int32), ∀ (x5 : Int32), ∀ (x6 : Int32), ∀ σ : Mem, p_X12_saverOf_L14 k68 x0 x1 x2 x3 f x4 x5 x6 σ = some res → V G 3 7 X ((some (.int res.1)), res.2) σ [(0, .ref (ga G x0)), (2, .int x2), (3, .int x3), (4, .int x4), (5, .int x5), (6, .int x6)] [] 14 := by
    intro k68 hk68 f
    induction f with
    | zero => intro x4 x5 x6 σ h; exact none_some h
    | succ f ih => intro x4 x5 x6 σ h; exact hB14 (p_X12_saverOf_L14 k68 x0 x1 x2 x3 f) k68 ih hk68 x4 x5 x6 σ h
  unfold p_X12_saverOf at h
  show V G 3 7 X ((some (.int res.1)), res.2) σ [(0, .ref (ga G x0)), (1, .int x1), (2, .int x2), (3, .int x3)] [] 0
  refine v_blk hC (is := [(.aload_n 0, 0), (.iload_n 1, 0)]) (pc' := 2) (ls' := [(0, .ref (ga G x0)), (1, .int x1), (2, .int x2), (3, .int x3)]) (st' := [.int x1, .ref (ga G x0)]) (by decide +kernel) rfl ?_
  obtain ⟨v11, s12, e13, h⟩ := bndI h
  refine v_cS (idx := 93) hC ⟨tt_at 1172 (by decide +kernel) rfl, tsX12_crew, tnX12_crew, tcX12_crew, tmX12_crew⟩ (c_X12_crew hx0 e13) (by decide) (by decide) (by decide +kernel) (rest := []) rfl rfl (Nat.le_of_ble_eq_true rfl) rfl ?_
  refine v_blk hC (is := [(.istore 4, 0), (.bipush (-4), (-4 : Int32)), (.istore 5, 0), (.iconst 0, (0 : Int32)), (.istore 6, 0)]) (pc' := 14) (ls' := [(6, .int (0 : Int32)), (5, .int (-4 : Int32)), (4, .int v11), (0, .ref (ga G x0)), (1, .int x1), (2, .int x2), (3, .int x3)]) (st' := []) (by decide +kernel) rfl ?_
  refine v_sub [3, 5, 6, 2, 1, 0] (ls' := [(0, .ref (ga G x0)), (2, .int x2), (3, .int x3), (4, .int v11), (5, .int (-4 : Int32)), (6, .int (0 : Int32))]) rfl ?_
  exact (hL14 _ (fun x5  m14 h => by
      refine v_blk hC (is := [(.iload 5, 0)]) (pc' := 70) (ls' := [(0, .ref (ga G x0)), (2, .int x2), (3, .int x3), (5, .int x5)]) (st' := [.int x5]) (by decide +kernel) rfl ?_
      refine v_if_lt hC (off := 23) (tgt := 93) (by decide +kernel) (by decide) h (fun hq h => ?_) (fun hq h => ?_)
      · refine v_blk hC (is := [(.bipush (-4), (-4 : Int32))]) (pc' := 95) (ls' := [(0, .ref (ga G x0)), (2, .int x2), (3, .int x3), (5, .int x5)]) (st' := [.int (-4 : Int32)]) (by decide +kernel) rfl ?_
        exact v_iret hC h (by decide +kernel)
      · refine v_blk hC (is := [(.aload_n 0, 0), (.iload 5, 0)]) (pc' := 76) (ls' := [(0, .ref (ga G x0)), (2, .int x2), (3, .int x3), (5, .int x5)]) (st' := [.int x5, .ref (ga G x0)]) (by decide +kernel) rfl ?_
        obtain ⟨v15, s16, e17, h⟩ := bndI h
        refine v_cS (idx := 101) hC ⟨tt_at 1187 (by decide +kernel) rfl, tsX12_reachOf, tnX12_reachOf, tcX12_reachOf, tmX12_reachOf⟩ (c_X12_reachOf hx0 e17) (by decide) (by decide) (by decide +kernel) (rest := []) rfl rfl (Nat.le_of_ble_eq_true rfl) rfl ?_
        refine v_blk hC (is := [(.aload_n 0, 0), (.iload_n 2, 0), (.iload_n 3, 0)]) (pc' := 82) (ls' := [(0, .ref (ga G x0)), (2, .int x2), (3, .int x3), (5, .int x5)]) (st' := [.int x3, .int x2, .ref (ga G x0), .int v15]) (by decide +kernel) rfl ?_
        obtain ⟨v18, s19, e20, h⟩ := bndI h
        refine v_cS (idx := 97) hC ⟨tt_at 1178 (by decide +kernel) rfl, tsX12_riskOf, tnX12_riskOf, tcX12_riskOf, tmX12_riskOf⟩ (c_X12_riskOf hx0 e20) (by decide) (by decide) (by decide +kernel) (rest := [.int v15]) rfl rfl (Nat.le_of_ble_eq_true rfl) rfl ?_
        refine v_icmp_lt hC (off := 8) (tgt := 93) (by decide +kernel) (by decide) h (fun hq h => ?_) (fun hq h => ?_)
        · refine v_blk hC (is := [(.bipush (-4), (-4 : Int32))]) (pc' := 95) (ls' := [(0, .ref (ga G x0)), (2, .int x2), (3, .int x3), (5, .int x5)]) (st' := [.int (-4 : Int32)]) (by decide +kernel) rfl ?_
          exact v_iret hC h (by decide +kernel)
        · refine v_blk hC (is := [(.iload 5, 0)]) (pc' := 90) (ls' := [(0, .ref (ga G x0)), (2, .int x2), (3, .int x3), (5, .int x5)]) (st' := [.int x5]) (by decide +kernel) rfl ?_
          refine v_goto hC (off := 5) (tgt := 95) (by decide +kernel) (by decide) ?_
          exact v_iret hC h (by decide +kernel)) 1000) _ _ _ _ h

def p_X12_overboard_B89  (x0 : Nat) (x1 : Int32) (x2 : Int32) (x3 : Int32) (t1 : Int32) (t2 : Int32) (σ : Mem) : Option (Unit × Mem) := (if t1 < 0 ∨ 100 ≤ (t1).toNatClampNeg then none else wr σ x0 (t1).toNatClampNeg t2 fun s1 => (bnd (p_X12_mayIn x0 x2 x3 s1) fun v2 s3 => (if v2 = 0 then (bnd (p_X12_of x3 (2 : Int32) s3) fun v5 s6 => (if v5 < 0 ∨ 100 ≤ (v5).toNatClampNeg then none else wr s6 x0 (v5).toNatClampNeg (9 : Int32) fun s8 => some ((), s8))) else some ((), s3))))
def p_X12_overboard (x0 : Nat) (x1 : Int32) (σ : Mem) : Option (Unit × Mem) := (if (3 : Int32) < 0 ∨ 100 ≤ ((3 : Int32)).toNatClampNeg then none else lt (σ x0 ((3 : Int32)).toNatClampNeg) fun v9 => (bnd (p_X12_fallsIn x0 x1 v9 σ) fun v10 s11 => (if 0 ≤ v10 then (if (3 : Int32) < 0 ∨ 100 ≤ ((3 : Int32)).toNatClampNeg then none else lt (s11 x0 ((3 : Int32)).toNatClampNeg) fun v13 => (bnd (p_X12_saverOf x0 x1 v10 v13 s11) fun v14 s15 => (if 0 ≤ v14 then (bnd (p_X12_reachOf x0 v14 s15) fun v17 s18 => (if (3 : Int32) < 0 ∨ 100 ≤ ((3 : Int32)).toNatClampNeg then none else lt (s18 x0 ((3 : Int32)).toNatClampNeg) fun v20 => (bnd (p_X12_riskOf x0 v10 v20 s18) fun v21 s22 => (bnd (p_X12_by v14 v10 s22) fun v24 s25 => (if (v17 - v21) < (3 : Int32) then (if (v17 - v21) < (1 : Int32) then (p_X12_overboard_B89 x0 x1) v10 v14 v24 (1 : Int32) s25 else (p_X12_overboard_B89 x0 x1) v10 v14 v24 (2 : Int32) s25) else (p_X12_overboard_B89 x0 x1) v10 v14 v24 (3 : Int32) s25))))) else (bnd (p_X12_of v10 (3 : Int32) s15) fun v27 s28 => (if v27 < 0 ∨ 100 ≤ (v27).toNatClampNeg then none else wr s28 x0 (v27).toNatClampNeg (1 : Int32) fun s30 => (bnd (p_X12_of v10 (2 : Int32) s30) fun v31 s32 => (if v31 < 0 ∨ 100 ≤ (v31).toNatClampNeg then none else wr s32 x0 (v31).toNatClampNeg (9 : Int32) fun s34 => some ((), s34)))))))) else some ((), s11))))
set_option maxHeartbeats 4000000 in
set_option maxRecDepth 100000 in
theorem c_X12_overboard {G : Gl} {x0 : Nat} {x1 : Int32} {σ : Mem} {res : Unit × Mem} (hx0 : isRow x0) (h : p_X12_overboard x0 x1 σ = some res) : MetX G yX12_overboard cX12_overboard 5 none 5 [.ref (ga G x0), .int x1] σ none res.2 := by
  refine met_V (by decide +kernel) (Nat.le_of_ble_eq_true rfl) (fun X hC => ?_)
  have hC : Ok G 5 5 X cX12_overboard RX12 none := hC
  have hB89 : ∀ (x2 : Int32), ∀ (x3 : Int32), ∀ (t1 : Int32), ∀ (t2 : Int32), ∀ σ : Mem, p_X12_overboard_B89 x0 x1 x2 x3 t1 t2 σ = some res → V G 5 5 X (none, res.2) σ [(0, .ref (ga G x0)), (2, .int x2), (3, .int x3)] [.int t2, .int t1, .ref (ga G x0)] 89 := by
    intro x2 x3 t1 t2 σ h
    unfold p_X12_overboard_B89 at h
    refine v_iast hC (isA_row hx0) (al_row hx0) (by decide +kernel) h (fun s1 h => ?_)
    refine v_blk hC (is := [(.aload_n 0, 0), (.iload_n 2, 0), (.iload_n 3, 0)]) (pc' := 93) (ls' := [(0, .ref (ga G x0)), (2, .int x2), (3, .int x3)]) (st' := [.int x3, .int x2, .ref (ga G x0)]) (by decide +kernel) rfl ?_
    obtain ⟨v2, s3, e4, h⟩ := bndI h
    refine v_cS (idx := 111) hC ⟨tt_at 1193 (by decide +kernel) rfl, tsX12_mayIn, tnX12_mayIn, tcX12_mayIn, tmX12_mayIn⟩ (c_X12_mayIn hx0 e4) (by decide) (by decide) (by decide +kernel) (rest := []) rfl rfl (Nat.le_of_ble_eq_true rfl) rfl ?_
    refine v_if_ne hC (off := 12) (tgt := 108) (by decide +kernel) (by decide) h (fun hq h => ?_) (fun hq h => ?_)
    · exact v_vret hC h (by decide +kernel)
    · refine v_blk hC (is := [(.aload_n 0, 0), (.iload_n 3, 0), (.iconst 2, (2 : Int32))]) (pc' := 102) (ls' := [(0, .ref (ga G x0)), (2, .int x2), (3, .int x3)]) (st' := [.int (2 : Int32), .int x3, .ref (ga G x0)]) (by decide +kernel) rfl ?_
      obtain ⟨v5, s6, e7, h⟩ := bndI h
      refine v_cS (idx := 57) hC ⟨tt_at 1143 (by decide +kernel) rfl, tsX12_of, tnX12_of, tcX12_of, tmX12_of⟩ (c_X12_of e7) (by decide) (by decide) (by decide +kernel) (rest := [.ref (ga G x0)]) rfl rfl (Nat.le_of_ble_eq_true rfl) rfl ?_
      refine v_blk hC (is := [(.bipush 9, (9 : Int32))]) (pc' := 107) (ls' := [(0, .ref (ga G x0)), (2, .int x2), (3, .int x3)]) (st' := [.int (9 : Int32), .int v5, .ref (ga G x0)]) (by decide +kernel) rfl ?_
      refine v_iast hC (isA_row hx0) (al_row hx0) (by decide +kernel) h (fun s8 h => ?_)
      exact v_vret hC h (by decide +kernel)
  unfold p_X12_overboard at h
  show V G 5 5 X (none, res.2) σ [(0, .ref (ga G x0)), (1, .int x1)] [] 0
  refine v_blk hC (is := [(.aload_n 0, 0), (.iload_n 1, 0), (.aload_n 0, 0), (.iconst 3, (3 : Int32))]) (pc' := 4) (ls' := [(0, .ref (ga G x0)), (1, .int x1)]) (st' := [.int (3 : Int32), .ref (ga G x0), .int x1, .ref (ga G x0)]) (by decide +kernel) rfl ?_
  refine v_iald hC (isA_row hx0) (al_row hx0) (by decide +kernel) h (fun v9 h => ?_)
  obtain ⟨v10, s11, e12, h⟩ := bndI h
  refine v_cS (idx := 104) hC ⟨tt_at 1169 (by decide +kernel) rfl, tsX12_fallsIn, tnX12_fallsIn, tcX12_fallsIn, tmX12_fallsIn⟩ (c_X12_fallsIn hx0 e12) (by decide) (by decide) (by decide +kernel) (rest := []) rfl rfl (Nat.le_of_ble_eq_true rfl) rfl ?_
  refine v_blk hC (is := [(.istore_n 2, 0), (.iload_n 2, 0)]) (pc' := 10) (ls' := [(2, .int v10), (0, .ref (ga G x0)), (1, .int x1)]) (st' := [.int v10]) (by decide +kernel) rfl ?_
  refine v_if_ge hC (off := 4) (tgt := 14) (by decide +kernel) (by decide) h (fun hq h => ?_) (fun hq h => ?_)
  · refine v_blk hC (is := [(.aload_n 0, 0), (.iload_n 1, 0), (.iload_n 2, 0), (.aload_n 0, 0), (.iconst 3, (3 : Int32))]) (pc' := 19) (ls' := [(2, .int v10), (0, .ref (ga G x0)), (1, .int x1)]) (st' := [.int (3 : Int32), .ref (ga G x0), .int v10, .int x1, .ref (ga G x0)]) (by decide +kernel) rfl ?_
    refine v_iald hC (isA_row hx0) (al_row hx0) (by decide +kernel) h (fun v13 h => ?_)
    obtain ⟨v14, s15, e16, h⟩ := bndI h
    refine v_cS (idx := 107) hC ⟨tt_at 1184 (by decide +kernel) rfl, tsX12_saverOf, tnX12_saverOf, tcX12_saverOf, tmX12_saverOf⟩ (c_X12_saverOf hx0 e16) (by decide) (by decide) (by decide +kernel) (rest := []) rfl rfl (Nat.le_of_ble_eq_true rfl) rfl ?_
    refine v_blk hC (is := [(.istore_n 3, 0), (.iload_n 3, 0)]) (pc' := 25) (ls' := [(3, .int v14), (2, .int v10), (0, .ref (ga G x0)), (1, .int x1)]) (st' := [.int v14]) (by decide +kernel) rfl ?_
    refine v_if_ge hC (off := 21) (tgt := 46) (by decide +kernel) (by decide) h (fun hq h => ?_) (fun hq h => ?_)
    · refine v_blk hC (is := [(.aload_n 0, 0), (.iload_n 3, 0)]) (pc' := 48) (ls' := [(3, .int v14), (2, .int v10), (0, .ref (ga G x0)), (1, .int x1)]) (st' := [.int v14, .ref (ga G x0)]) (by decide +kernel) rfl ?_
      obtain ⟨v17, s18, e19, h⟩ := bndI h
      refine v_cS (idx := 101) hC ⟨tt_at 1187 (by decide +kernel) rfl, tsX12_reachOf, tnX12_reachOf, tcX12_reachOf, tmX12_reachOf⟩ (c_X12_reachOf hx0 e19) (by decide) (by decide) (by decide +kernel) (rest := []) rfl rfl (Nat.le_of_ble_eq_true rfl) rfl ?_
      refine v_blk hC (is := [(.aload_n 0, 0), (.iload_n 2, 0), (.aload_n 0, 0), (.iconst 3, (3 : Int32))]) (pc' := 55) (ls' := [(3, .int v14), (2, .int v10), (0, .ref (ga G x0)), (1, .int x1)]) (st' := [.int (3 : Int32), .ref (ga G x0), .int v10, .ref (ga G x0), .int v17]) (by decide +kernel) rfl ?_
      refine v_iald hC (isA_row hx0) (al_row hx0) (by decide +kernel) h (fun v20 h => ?_)
      obtain ⟨v21, s22, e23, h⟩ := bndI h
      refine v_cS (idx := 97) hC ⟨tt_at 1178 (by decide +kernel) rfl, tsX12_riskOf, tnX12_riskOf, tcX12_riskOf, tmX12_riskOf⟩ (c_X12_riskOf hx0 e23) (by decide) (by decide) (by decide +kernel) (rest := [.int v17]) rfl rfl (Nat.le_of_ble_eq_true rfl) rfl ?_
      refine v_blk hC (is := [(.isub, 0), (.istore 4, 0), (.aload_n 0, 0), (.iload_n 3, 0), (.iload_n 2, 0)]) (pc' := 65) (ls' := [(4, .int (v17 - v21)), (3, .int v14), (2, .int v10), (0, .ref (ga G x0)), (1, .int x1)]) (st' := [.int v10, .int v14, .ref (ga G x0)]) (by decide +kernel) rfl ?_
      obtain ⟨v24, s25, e26, h⟩ := bndI h
      refine v_cS (idx := 71) hC ⟨tt_at 1154 (by decide +kernel) rfl, tsX12_by, tnX12_by, tcX12_by, tmX12_by⟩ (c_X12_by e26) (by decide) (by decide) (by decide +kernel) (rest := [.ref (ga G x0)]) rfl rfl (Nat.le_of_ble_eq_true rfl) rfl ?_
      refine v_blk hC (is := [(.iload 4, 0), (.iconst 3, (3 : Int32))]) (pc' := 71) (ls' := [(4, .int (v17 - v21)), (3, .int v14), (2, .int v10), (0, .ref (ga G x0)), (1, .int x1)]) (st' := [.int (3 : Int32), .int (v17 - v21), .int v24, .ref (ga G x0)]) (by decide +kernel) rfl ?_
      refine v_icmp_lt hC (off := 7) (tgt := 78) (by decide +kernel) (by decide) h (fun hq h => ?_) (fun hq h => ?_)
      · refine v_blk hC (is := [(.iload 4, 0), (.iconst 1, (1 : Int32))]) (pc' := 81) (ls' := [(4, .int (v17 - v21)), (3, .int v14), (2, .int v10), (0, .ref (ga G x0)), (1, .int x1)]) (st' := [.int (1 : Int32), .int (v17 - v21), .int v24, .ref (ga G x0)]) (by decide +kernel) rfl ?_
        refine v_icmp_lt hC (off := 7) (tgt := 88) (by decide +kernel) (by decide) h (fun hq h => ?_) (fun hq h => ?_)
        · refine v_blk hC (is := [(.iconst 1, (1 : Int32))]) (pc' := 89) (ls' := [(4, .int (v17 - v21)), (3, .int v14), (2, .int v10), (0, .ref (ga G x0)), (1, .int x1)]) (st' := [.int (1 : Int32), .int v24, .ref (ga G x0)]) (by decide +kernel) rfl ?_
          refine v_sub [3, 2, 1] (ls' := [(0, .ref (ga G x0)), (2, .int v10), (3, .int v14)]) rfl ?_
          exact (hB89 ) _ _ _ _ _ h
        · refine v_blk hC (is := [(.iconst 2, (2 : Int32))]) (pc' := 85) (ls' := [(4, .int (v17 - v21)), (3, .int v14), (2, .int v10), (0, .ref (ga G x0)), (1, .int x1)]) (st' := [.int (2 : Int32), .int v24, .ref (ga G x0)]) (by decide +kernel) rfl ?_
          refine v_goto hC (off := 4) (tgt := 89) (by decide +kernel) (by decide) ?_
          refine v_sub [3, 2, 1] (ls' := [(0, .ref (ga G x0)), (2, .int v10), (3, .int v14)]) rfl ?_
          exact (hB89 ) _ _ _ _ _ h
      · refine v_blk hC (is := [(.iconst 3, (3 : Int32))]) (pc' := 75) (ls' := [(4, .int (v17 - v21)), (3, .int v14), (2, .int v10), (0, .ref (ga G x0)), (1, .int x1)]) (st' := [.int (3 : Int32), .int v24, .ref (ga G x0)]) (by decide +kernel) rfl ?_
        refine v_goto hC (off := 14) (tgt := 89) (by decide +kernel) (by decide) ?_
        refine v_sub [3, 2, 1] (ls' := [(0, .ref (ga G x0)), (2, .int v10), (3, .int v14)]) rfl ?_
        exact (hB89 ) _ _ _ _ _ h
    · refine v_blk hC (is := [(.aload_n 0, 0), (.iload_n 2, 0), (.iconst 3, (3 : Int32))]) (pc' := 31) (ls' := [(3, .int v14), (2, .int v10), (0, .ref (ga G x0)), (1, .int x1)]) (st' := [.int (3 : Int32), .int v10, .ref (ga G x0)]) (by decide +kernel) rfl ?_
      obtain ⟨v27, s28, e29, h⟩ := bndI h
      refine v_cS (idx := 57) hC ⟨tt_at 1143 (by decide +kernel) rfl, tsX12_of, tnX12_of, tcX12_of, tmX12_of⟩ (c_X12_of e29) (by decide) (by decide) (by decide +kernel) (rest := [.ref (ga G x0)]) rfl rfl (Nat.le_of_ble_eq_true rfl) rfl ?_
      refine v_blk hC (is := [(.iconst 1, (1 : Int32))]) (pc' := 35) (ls' := [(3, .int v14), (2, .int v10), (0, .ref (ga G x0)), (1, .int x1)]) (st' := [.int (1 : Int32), .int v27, .ref (ga G x0)]) (by decide +kernel) rfl ?_
      refine v_iast hC (isA_row hx0) (al_row hx0) (by decide +kernel) h (fun s30 h => ?_)
      refine v_blk hC (is := [(.aload_n 0, 0), (.iload_n 2, 0), (.iconst 2, (2 : Int32))]) (pc' := 39) (ls' := [(3, .int v14), (2, .int v10), (0, .ref (ga G x0)), (1, .int x1)]) (st' := [.int (2 : Int32), .int v10, .ref (ga G x0)]) (by decide +kernel) rfl ?_
      obtain ⟨v31, s32, e33, h⟩ := bndI h
      refine v_cS (idx := 57) hC ⟨tt_at 1143 (by decide +kernel) rfl, tsX12_of, tnX12_of, tcX12_of, tmX12_of⟩ (c_X12_of e33) (by decide) (by decide) (by decide +kernel) (rest := [.ref (ga G x0)]) rfl rfl (Nat.le_of_ble_eq_true rfl) rfl ?_
      refine v_blk hC (is := [(.bipush 9, (9 : Int32))]) (pc' := 44) (ls' := [(3, .int v14), (2, .int v10), (0, .ref (ga G x0)), (1, .int x1)]) (st' := [.int (9 : Int32), .int v31, .ref (ga G x0)]) (by decide +kernel) rfl ?_
      refine v_iast hC (isA_row hx0) (al_row hx0) (by decide +kernel) h (fun s34 h => ?_)
      exact v_vret hC h (by decide +kernel)
  · exact v_vret hC h (by decide +kernel)

def p_X12_season_B9 (k9 : Int32 → Mem → Option (Unit × Mem)) (x0 : Nat) (x1 : Int32) (x2 : Int32) (σ : Mem) : Option (Unit × Mem) := (if (3 : Int32) ≤ x2 then some ((), σ) else (if x1 = 0 then (bnd (p_X12_overboard x0 x2 σ) fun (v1 : Unit) s2 => k9 (x2 + (1 : Int32)) s2) else some ((), σ)))
def p_X12_season_L9  (x0 : Nat) (x1 : Int32) : Nat → Int32 → Mem → Option (Unit × Mem)
  | 0 => fun _ _ => none
  | f + 1 => p_X12_season_B9 (p_X12_season_L9 x0 x1 f) x0 x1
def p_X12_season (x0 : Nat) (x1 : Int32) (σ : Mem) : Option (Unit × Mem) := (if (3 : Int32) < 0 ∨ 100 ≤ ((3 : Int32)).toNatClampNeg then none else lt (σ x0 ((3 : Int32)).toNatClampNeg) fun v4 => (if (3 : Int32) < 0 ∨ 100 ≤ ((3 : Int32)).toNatClampNeg then none else wr σ x0 ((3 : Int32)).toNatClampNeg (v4 + (1 : Int32)) fun s5 => (p_X12_season_L9 x0 x1 1000) (0 : Int32) s5))
set_option maxHeartbeats 4000000 in
set_option maxRecDepth 100000 in
theorem c_X12_season {G : Gl} {x0 : Nat} {x1 : Int32} {σ : Mem} {res : Unit × Mem} (hx0 : isRow x0) (h : p_X12_season x0 x1 σ = some res) : MetX G yX12_season cX12_season 3 none 6 [.ref (ga G x0), .int x1] σ none res.2 := by
  refine met_V (by decide +kernel) (Nat.le_of_ble_eq_true rfl) (fun X hC => ?_)
  have hC : Ok G 6 3 X cX12_season RX12 none := hC
  have hB9 : ∀ (k9 : Int32 → Mem → Option (Unit × Mem)), (∀ (x2 : Int32), ∀ σ : Mem, k9 x2 σ = some res → V G 6 3 X (none, res.2) σ [(0, .ref (ga G x0)), (1, .int x1), (2, .int x2)] [] 9) → ∀ (x2 : Int32), ∀ σ : Mem, p_X12_season_B9 k9 x0 x1 x2 σ = some res → V G 6 3 X (none, res.2) σ [(0, .ref (ga G x0)), (1, .int x1), (2, .int x2)] [] 9 := by
    intro k9 hk9 x2 σ h
    unfold p_X12_season_B9 at h
    refine v_blk hC (is := [(.iload_n 2, 0), (.iconst 3, (3 : Int32))]) (pc' := 11) (ls' := [(0, .ref (ga G x0)), (1, .int x1), (2, .int x2)]) (st' := [.int (3 : Int32), .int x2]) (by decide +kernel) rfl ?_
    refine v_icmp_ge hC (off := 18) (tgt := 29) (by decide +kernel) (by decide) h (fun hq h => ?_) (fun hq h => ?_)
    · exact v_vret hC h (by decide +kernel)
    · refine v_blk hC (is := [(.iload_n 1, 0)]) (pc' := 15) (ls' := [(0, .ref (ga G x0)), (1, .int x1), (2, .int x2)]) (st' := [.int x1]) (by decide +kernel) rfl ?_
      refine v_if_ne hC (off := 14) (tgt := 29) (by decide +kernel) (by decide) h (fun hq h => ?_) (fun hq h => ?_)
      · exact v_vret hC h (by decide +kernel)
      · refine v_blk hC (is := [(.aload_n 0, 0), (.iload_n 2, 0)]) (pc' := 20) (ls' := [(0, .ref (ga G x0)), (1, .int x1), (2, .int x2)]) (st' := [.int x2, .ref (ga G x0)]) (by decide +kernel) rfl ?_
        obtain ⟨v1, s2, e3, h⟩ := bndI h
        refine v_cS (idx := 115) hC ⟨tt_at 1166 (by decide +kernel) rfl, tsX12_overboard, tnX12_overboard, tcX12_overboard, tmX12_overboard⟩ (c_X12_overboard hx0 e3) (by decide) (by decide) (by decide +kernel) (rest := []) rfl rfl (Nat.le_of_ble_eq_true rfl) rfl ?_
        refine v_blk hC (is := [(.iinc 2 1, (1 : Int32))]) (pc' := 26) (ls' := [(2, .int (x2 + (1 : Int32))), (0, .ref (ga G x0)), (1, .int x1)]) (st' := []) (by decide +kernel) rfl ?_
        refine v_goto hC (off := (-17)) (tgt := 9) (by decide +kernel) (by decide) ?_
        refine v_sub [1, 2, 0] (ls' := [(0, .ref (ga G x0)), (1, .int x1), (2, .int (x2 + (1 : Int32)))]) rfl ?_
        exact hk9 _ _ h
  have hL9 : ∀ f : Nat, ∀ (x2 : Int32), ∀ σ : Mem, p_X12_season_L9 x0 x1 f x2 σ = some res → V G 6 3 X (none, res.2) σ [(0, .ref (ga G x0)), (1, .int x1), (2, .int x2)] [] 9 := by
    intro  f
    induction f with
    | zero => intro x2 σ h; exact none_some h
    | succ f ih => intro x2 σ h; exact hB9 (p_X12_season_L9 x0 x1 f)  ih  x2 σ h
  unfold p_X12_season at h
  show V G 6 3 X (none, res.2) σ [(0, .ref (ga G x0)), (1, .int x1)] [] 0
  refine v_blk hC (is := [(.aload_n 0, 0), (.iconst 3, (3 : Int32)), (.dup2, 0)]) (pc' := 3) (ls' := [(0, .ref (ga G x0)), (1, .int x1)]) (st' := [.int (3 : Int32), .ref (ga G x0), .int (3 : Int32), .ref (ga G x0)]) (by decide +kernel) rfl ?_
  refine v_iald hC (isA_row hx0) (al_row hx0) (by decide +kernel) h (fun v4 h => ?_)
  refine v_blk hC (is := [(.iconst 1, (1 : Int32)), (.iadd, 0)]) (pc' := 6) (ls' := [(0, .ref (ga G x0)), (1, .int x1)]) (st' := [.int (v4 + (1 : Int32)), .int (3 : Int32), .ref (ga G x0)]) (by decide +kernel) rfl ?_
  refine v_iast hC (isA_row hx0) (al_row hx0) (by decide +kernel) h (fun s5 h => ?_)
  refine v_blk hC (is := [(.iconst 0, (0 : Int32)), (.istore_n 2, 0)]) (pc' := 9) (ls' := [(2, .int (0 : Int32)), (0, .ref (ga G x0)), (1, .int x1)]) (st' := []) (by decide +kernel) rfl ?_
  refine v_sub [1, 2, 0] (ls' := [(0, .ref (ga G x0)), (1, .int x1), (2, .int (0 : Int32))]) rfl ?_
  exact (hL9 1000) _ _ h

def p_X12_seasonsOn_B2 (k2 : Int32 → Mem → Option (Unit × Mem)) (x0 : Nat) (x1 : Int32) (x2 : Int32) (σ : Mem) : Option (Unit × Mem) := (if x1 ≤ x2 then some ((), σ) else (bnd (p_X12_season x0 (0 : Int32) σ) fun (v1 : Unit) s2 => k2 (x2 + (1 : Int32)) s2))
def p_X12_seasonsOn_L2  (x0 : Nat) (x1 : Int32) : Nat → Int32 → Mem → Option (Unit × Mem)
  | 0 => fun _ _ => none
  | f + 1 => p_X12_seasonsOn_B2 (p_X12_seasonsOn_L2 x0 x1 f) x0 x1
def p_X12_seasonsOn (x0 : Nat) (x1 : Int32) (σ : Mem) : Option (Unit × Mem) := (p_X12_seasonsOn_L2 x0 x1 1000) (0 : Int32) σ
set_option maxHeartbeats 4000000 in
set_option maxRecDepth 100000 in
theorem c_X12_seasonsOn {G : Gl} {x0 : Nat} {x1 : Int32} {σ : Mem} {res : Unit × Mem} (hx0 : isRow x0) (h : p_X12_seasonsOn x0 x1 σ = some res) : MetX G yX12_seasonsOn cX12_seasonsOn 3 none 7 [.ref (ga G x0), .int x1] σ none res.2 := by
  refine met_V (by decide +kernel) (Nat.le_of_ble_eq_true rfl) (fun X hC => ?_)
  have hC : Ok G 7 3 X cX12_seasonsOn RX12 none := hC
  have hB2 : ∀ (k2 : Int32 → Mem → Option (Unit × Mem)), (∀ (x2 : Int32), ∀ σ : Mem, k2 x2 σ = some res → V G 7 3 X (none, res.2) σ [(0, .ref (ga G x0)), (1, .int x1), (2, .int x2)] [] 2) → ∀ (x2 : Int32), ∀ σ : Mem, p_X12_seasonsOn_B2 k2 x0 x1 x2 σ = some res → V G 7 3 X (none, res.2) σ [(0, .ref (ga G x0)), (1, .int x1), (2, .int x2)] [] 2 := by
    intro k2 hk2 x2 σ h
    unfold p_X12_seasonsOn_B2 at h
    refine v_blk hC (is := [(.iload_n 2, 0), (.iload_n 1, 0)]) (pc' := 4) (ls' := [(0, .ref (ga G x0)), (1, .int x1), (2, .int x2)]) (st' := [.int x1, .int x2]) (by decide +kernel) rfl ?_
    refine v_icmp_ge hC (off := 14) (tgt := 18) (by decide +kernel) (by decide) h (fun hq h => ?_) (fun hq h => ?_)
    · exact v_vret hC h (by decide +kernel)
    · refine v_blk hC (is := [(.aload_n 0, 0), (.iconst 0, (0 : Int32))]) (pc' := 9) (ls' := [(0, .ref (ga G x0)), (1, .int x1), (2, .int x2)]) (st' := [.int (0 : Int32), .ref (ga G x0)]) (by decide +kernel) rfl ?_
      obtain ⟨v1, s2, e3, h⟩ := bndI h
      refine v_cS (idx := 119) hC ⟨tt_at 1163 (by decide +kernel) rfl, tsX12_season, tnX12_season, tcX12_season, tmX12_season⟩ (c_X12_season hx0 e3) (by decide) (by decide) (by decide +kernel) (rest := []) rfl rfl (Nat.le_of_ble_eq_true rfl) rfl ?_
      refine v_blk hC (is := [(.iinc 2 1, (1 : Int32))]) (pc' := 15) (ls' := [(2, .int (x2 + (1 : Int32))), (0, .ref (ga G x0)), (1, .int x1)]) (st' := []) (by decide +kernel) rfl ?_
      refine v_goto hC (off := (-13)) (tgt := 2) (by decide +kernel) (by decide) ?_
      refine v_sub [1, 2, 0] (ls' := [(0, .ref (ga G x0)), (1, .int x1), (2, .int (x2 + (1 : Int32)))]) rfl ?_
      exact hk2 _ _ h
  have hL2 : ∀ f : Nat, ∀ (x2 : Int32), ∀ σ : Mem, p_X12_seasonsOn_L2 x0 x1 f x2 σ = some res → V G 7 3 X (none, res.2) σ [(0, .ref (ga G x0)), (1, .int x1), (2, .int x2)] [] 2 := by
    intro  f
    induction f with
    | zero => intro x2 σ h; exact none_some h
    | succ f ih => intro x2 σ h; exact hB2 (p_X12_seasonsOn_L2 x0 x1 f)  ih  x2 σ h
  unfold p_X12_seasonsOn at h
  show V G 7 3 X (none, res.2) σ [(0, .ref (ga G x0)), (1, .int x1)] [] 0
  refine v_blk hC (is := [(.iconst 0, (0 : Int32)), (.istore_n 2, 0)]) (pc' := 2) (ls' := [(2, .int (0 : Int32)), (0, .ref (ga G x0)), (1, .int x1)]) (st' := []) (by decide +kernel) rfl ?_
  refine v_sub [1, 2, 0] (ls' := [(0, .ref (ga G x0)), (1, .int x1), (2, .int (0 : Int32))]) rfl ?_
  exact (hL2 1000) _ _ h

def p_X12_lostBehind (x1 : Int32) (σ : Mem) : Option (Int32 × Mem) := (bnd (p_X12_seasonsOn 67 x1 σ) fun (v1 : Unit) s2 => (bnd (p_X12_lostSet 67 s2) fun v4 s5 => (bnd (p_X12_bits v4 s5) fun v7 s8 => some (v7, s8))))
set_option maxHeartbeats 4000000 in
set_option maxRecDepth 100000 in
theorem c_X12_lostBehind {G : Gl} {x1 : Int32} {σ : Mem} {res : Int32 × Mem}  (h : p_X12_lostBehind x1 σ = some res) : MetX G yX12_lostBehind cX12_lostBehind 2 (some .int) 8 [.ref (ga G 65), .int x1] σ (some (.int res.1)) res.2 := by
  refine met_V (by decide +kernel) (Nat.le_of_ble_eq_true rfl) (fun X hC => ?_)
  have hC : Ok G 8 2 X cX12_lostBehind RX12 (some .int) := hC
  unfold p_X12_lostBehind at h
  show V G 8 2 X ((some (.int res.1)), res.2) σ [(0, .ref (ga G 65)), (1, .int x1)] [] 0
  refine v_blk hC (is := [(.aload_n 0, 0)]) (pc' := 1) (ls' := [(0, .ref (ga G 65)), (1, .int x1)]) (st' := [.ref (ga G 65)]) (by decide +kernel) rfl ?_
  refine gX12_1 hC lfX12_13 (by decide +kernel) ?_
  refine v_blk hC (is := [(.iload_n 1, 0)]) (pc' := 5) (ls' := [(0, .ref (ga G 65)), (1, .int x1)]) (st' := [.int x1, .ref (ga G 67)]) (by decide +kernel) rfl ?_
  obtain ⟨v1, s2, e3, h⟩ := bndI h
  refine v_cS (idx := 123) hC ⟨tt_at 1160 (by decide +kernel) rfl, tsX12_seasonsOn, tnX12_seasonsOn, tcX12_seasonsOn, tmX12_seasonsOn⟩ (c_X12_seasonsOn row67 e3) (by decide) (by decide) (by decide +kernel) (rest := []) rfl rfl (Nat.le_of_ble_eq_true rfl) rfl ?_
  refine v_blk hC (is := [(.aload_n 0, 0)]) (pc' := 9) (ls' := [(0, .ref (ga G 65)), (1, .int x1)]) (st' := [.ref (ga G 65)]) (by decide +kernel) rfl ?_
  refine gX12_1 hC lfX12_13 (by decide +kernel) ?_
  obtain ⟨v4, s5, e6, h⟩ := bndI h
  refine v_cS (idx := 89) hC ⟨tt_at 1246 (by decide +kernel) rfl, tsX12_lostSet, tnX12_lostSet, tcX12_lostSet, tmX12_lostSet⟩ (c_X12_lostSet row67 e6) (by decide) (by decide) (by decide +kernel) (rest := []) rfl rfl (Nat.le_of_ble_eq_true rfl) rfl ?_
  obtain ⟨v7, s8, e9, h⟩ := bndI h
  refine v_cS (idx := 126) hC ⟨tt_at 1249 (by decide +kernel) rfl, tsX12_bits, tnX12_bits, tcX12_bits, tmX12_bits⟩ (c_X12_bits e9) (by decide) (by decide) (by decide +kernel) (rest := []) rfl rfl (Nat.le_of_ble_eq_true rfl) rfl ?_
  exact v_iret hC h (by decide +kernel)

def p_X12_here  (σ : Mem) : Option (Int32 × Mem) := (lt (σ 65 5) fun v1 => (lt (σ 65 7) fun v2 => (if v2 ≤ v1 then some ((-1 : Int32), σ) else (lt (σ 65 6) fun v3 => (lt (σ 65 5) fun v4 => (if (v3 + v4) < 0 ∨ 800 ≤ ((v3 + v4)).toNatClampNeg then none else lt (σ 78 ((v3 + v4)).toNatClampNeg) fun v5 => some ((v5 &&& (255 : Int32)), σ)))))))
set_option maxHeartbeats 4000000 in
set_option maxRecDepth 100000 in
theorem c_X12_here {G : Gl}  {σ : Mem} {res : Int32 × Mem}  (h : p_X12_here  σ = some res) : MetX G yX12_here cX12_here 1 (some .int) 1 [.ref (ga G 65)] σ (some (.int res.1)) res.2 := by
  refine met_V (by decide +kernel) (Nat.le_of_ble_eq_true rfl) (fun X hC => ?_)
  have hC : Ok G 1 1 X cX12_here RX12 (some .int) := hC
  unfold p_X12_here at h
  show V G 1 1 X ((some (.int res.1)), res.2) σ [(0, .ref (ga G 65))] [] 0
  refine v_blk hC (is := [(.aload_n 0, 0)]) (pc' := 1) (ls' := [(0, .ref (ga G 65))]) (st' := [.ref (ga G 65)]) (by decide +kernel) rfl ?_
  refine gX12_5 hC lfX12_130 (by decide +kernel) h (fun v1 h => ?_)
  refine v_blk hC (is := [(.aload_n 0, 0)]) (pc' := 5) (ls' := [(0, .ref (ga G 65))]) (st' := [.ref (ga G 65), .int v1]) (by decide +kernel) rfl ?_
  refine gX12_7 hC lfX12_134 (by decide +kernel) h (fun v2 h => ?_)
  refine v_icmp_ge hC (off := 24) (tgt := 32) (by decide +kernel) (by decide) h (fun hq h => ?_) (fun hq h => ?_)
  · refine v_blk hC (is := [(.iconst (-1), (-1 : Int32))]) (pc' := 33) (ls' := [(0, .ref (ga G 65))]) (st' := [.int (-1 : Int32)]) (by decide +kernel) rfl ?_
    exact v_iret hC h (by decide +kernel)
  · refine v_blk hC (is := [(.aload_n 0, 0)]) (pc' := 12) (ls' := [(0, .ref (ga G 65))]) (st' := [.ref (ga G 65)]) (by decide +kernel) rfl ?_
    refine gX12_17 hC lfX12_46 (by decide +kernel) ?_
    refine v_blk hC (is := [(.aload_n 0, 0)]) (pc' := 16) (ls' := [(0, .ref (ga G 65))]) (st' := [.ref (ga G 65), .ref (ga G 78)]) (by decide +kernel) rfl ?_
    refine gX12_6 hC lfX12_137 (by decide +kernel) h (fun v3 h => ?_)
    refine v_blk hC (is := [(.aload_n 0, 0)]) (pc' := 20) (ls' := [(0, .ref (ga G 65))]) (st' := [.ref (ga G 65), .int v3, .ref (ga G 78)]) (by decide +kernel) rfl ?_
    refine gX12_5 hC lfX12_130 (by decide +kernel) h (fun v4 h => ?_)
    refine v_blk hC (is := [(.iadd, 0)]) (pc' := 24) (ls' := [(0, .ref (ga G 65))]) (st' := [.int (v3 + v4), .ref (ga G 78)]) (by decide +kernel) rfl ?_
    refine v_iald hC isA_78 rfl (by decide +kernel) h (fun v5 h => ?_)
    refine v_blk hC (is := [(.sipush 255, (255 : Int32)), (.iand, 0)]) (pc' := 29) (ls' := [(0, .ref (ga G 65))]) (st' := [.int (v5 &&& (255 : Int32))]) (by decide +kernel) rfl ?_
    refine v_goto hC (off := 4) (tgt := 33) (by decide +kernel) (by decide) ?_
    exact v_iret hC h (by decide +kernel)

def p_X12_readsNumber_B9 (k9 : Int32 → Mem → Option (Int32 × Mem)) (x1 : Int32) (x2 : Int32) (x3 : Int32) (σ : Mem) : Option (Int32 × Mem) := (if x2 ≤ x3 then some ((1 : Int32), σ) else (bnd (p_X12_here σ) fun v1 s2 => (bnd (p_X12_isIn v1 (48 : Int32) (57 : Int32) s2) fun v4 s5 => (if v4 = 0 then some ((0 : Int32), s5) else (if x1 < 0 ∨ 3 ≤ (x1).toNatClampNeg then none else lt (s5 70 (x1).toNatClampNeg) fun v7 => (bnd (p_X12_here s5) fun v8 s9 => (if x1 < 0 ∨ 3 ≤ (x1).toNatClampNeg then none else wr s9 70 (x1).toNatClampNeg ((((10 : Int32) * v7) + v8) - (48 : Int32)) fun s11 => (lt (s11 65 5) fun v12 => (wr s11 65 5 (v12 + (1 : Int32)) fun s13 => k9 (x3 + (1 : Int32)) s13)))))))))
def p_X12_readsNumber_L9  (x1 : Int32) (x2 : Int32) : Nat → Int32 → Mem → Option (Int32 × Mem)
  | 0 => fun _ _ => none
  | f + 1 => p_X12_readsNumber_B9 (p_X12_readsNumber_L9 x1 x2 f) x1 x2
def p_X12_readsNumber (x1 : Int32) (x2 : Int32) (σ : Mem) : Option (Int32 × Mem) := (if x1 < 0 ∨ 3 ≤ (x1).toNatClampNeg then none else wr σ 70 (x1).toNatClampNeg (0 : Int32) fun s14 => (p_X12_readsNumber_L9 x1 x2 1000) (0 : Int32) s14)
set_option maxHeartbeats 4000000 in
set_option maxRecDepth 100000 in
theorem c_X12_readsNumber {G : Gl} {x1 : Int32} {x2 : Int32} {σ : Mem} {res : Int32 × Mem}  (h : p_X12_readsNumber x1 x2 σ = some res) : MetX G yX12_readsNumber cX12_readsNumber 4 (some .boolean) 2 [.ref (ga G 65), .int x1, .int x2] σ (some (.int res.1)) res.2 := by
  refine met_V (by decide +kernel) (Nat.le_of_ble_eq_true rfl) (fun X hC => ?_)
  have hC : Ok G 2 4 X cX12_readsNumber RX12 (some .boolean) := hC
  have hB9 : ∀ (k9 : Int32 → Mem → Option (Int32 × Mem)), (∀ (x3 : Int32), ∀ σ : Mem, k9 x3 σ = some res → V G 2 4 X ((some (.int res.1)), res.2) σ [(0, .ref (ga G 65)), (1, .int x1), (2, .int x2), (3, .int x3)] [] 9) → ∀ (x3 : Int32), ∀ σ : Mem, p_X12_readsNumber_B9 k9 x1 x2 x3 σ = some res → V G 2 4 X ((some (.int res.1)), res.2) σ [(0, .ref (ga G 65)), (1, .int x1), (2, .int x2), (3, .int x3)] [] 9 := by
    intro k9 hk9 x3 σ h
    unfold p_X12_readsNumber_B9 at h
    refine v_blk hC (is := [(.iload_n 3, 0), (.iload_n 2, 0)]) (pc' := 11) (ls' := [(0, .ref (ga G 65)), (1, .int x1), (2, .int x2), (3, .int x3)]) (st' := [.int x2, .int x3]) (by decide +kernel) rfl ?_
    refine v_icmp_ge hC (off := 58) (tgt := 69) (by decide +kernel) (by decide) h (fun hq h => ?_) (fun hq h => ?_)
    · refine v_blk hC (is := [(.iconst 1, (1 : Int32))]) (pc' := 70) (ls' := [(0, .ref (ga G 65)), (1, .int x1), (2, .int x2), (3, .int x3)]) (st' := [.int (1 : Int32)]) (by decide +kernel) rfl ?_
      exact v_zret hC rfl h (by decide +kernel)
    · refine v_blk hC (is := [(.aload_n 0, 0)]) (pc' := 15) (ls' := [(0, .ref (ga G 65)), (1, .int x1), (2, .int x2), (3, .int x3)]) (st' := [.ref (ga G 65)]) (by decide +kernel) rfl ?_
      obtain ⟨v1, s2, e3, h⟩ := bndI h
      refine v_cV (idx := 140) hC ⟨tt_at 1125 (by decide +kernel) rfl, tiX12_here, tvX12_here, tnX12_here, tcX12_here, tmX12_here⟩ isO_X12 rfl (c_X12_here e3) (by decide) (by decide) (by decide +kernel) (rest := []) rfl rfl (Nat.le_of_ble_eq_true rfl) rfl ?_
      refine v_blk hC (is := [(.bipush 48, (48 : Int32)), (.bipush 57, (57 : Int32))]) (pc' := 22) (ls' := [(0, .ref (ga G 65)), (1, .int x1), (2, .int x2), (3, .int x3)]) (st' := [.int (57 : Int32), .int (48 : Int32), .int v1]) (by decide +kernel) rfl ?_
      obtain ⟨v4, s5, e6, h⟩ := bndI h
      refine v_cS (idx := 49) hC ⟨tt_at 1118 (by decide +kernel) rfl, tsX12_isIn, tnX12_isIn, tcX12_isIn, tmX12_isIn⟩ (c_X12_isIn e6) (by decide) (by decide) (by decide +kernel) (rest := []) rfl rfl (Nat.le_of_ble_eq_true rfl) rfl ?_
      refine v_if_ne hC (off := 5) (tgt := 30) (by decide +kernel) (by decide) h (fun hq h => ?_) (fun hq h => ?_)
      · refine v_blk hC (is := [(.aload_n 0, 0)]) (pc' := 31) (ls' := [(0, .ref (ga G 65)), (1, .int x1), (2, .int x2), (3, .int x3)]) (st' := [.ref (ga G 65)]) (by decide +kernel) rfl ?_
        refine gX12_8 hC lfX12_22 (by decide +kernel) ?_
        refine v_blk hC (is := [(.iload_n 1, 0), (.bipush 10, (10 : Int32)), (.aload_n 0, 0)]) (pc' := 38) (ls' := [(0, .ref (ga G 65)), (1, .int x1), (2, .int x2), (3, .int x3)]) (st' := [.ref (ga G 65), .int (10 : Int32), .int x1, .ref (ga G 70)]) (by decide +kernel) rfl ?_
        refine gX12_8 hC lfX12_22 (by decide +kernel) ?_
        refine v_blk hC (is := [(.iload_n 1, 0)]) (pc' := 42) (ls' := [(0, .ref (ga G 65)), (1, .int x1), (2, .int x2), (3, .int x3)]) (st' := [.int x1, .ref (ga G 70), .int (10 : Int32), .int x1, .ref (ga G 70)]) (by decide +kernel) rfl ?_
        refine v_iald hC isA_70 rfl (by decide +kernel) h (fun v7 h => ?_)
        refine v_blk hC (is := [(.imul, 0), (.aload_n 0, 0)]) (pc' := 45) (ls' := [(0, .ref (ga G 65)), (1, .int x1), (2, .int x2), (3, .int x3)]) (st' := [.ref (ga G 65), .int ((10 : Int32) * v7), .int x1, .ref (ga G 70)]) (by decide +kernel) rfl ?_
        obtain ⟨v8, s9, e10, h⟩ := bndI h
        refine v_cV (idx := 140) hC ⟨tt_at 1125 (by decide +kernel) rfl, tiX12_here, tvX12_here, tnX12_here, tcX12_here, tmX12_here⟩ isO_X12 rfl (c_X12_here e10) (by decide) (by decide) (by decide +kernel) (rest := [.int ((10 : Int32) * v7), .int x1, .ref (ga G 70)]) rfl rfl (Nat.le_of_ble_eq_true rfl) rfl ?_
        refine v_blk hC (is := [(.iadd, 0), (.bipush 48, (48 : Int32)), (.isub, 0)]) (pc' := 52) (ls' := [(0, .ref (ga G 65)), (1, .int x1), (2, .int x2), (3, .int x3)]) (st' := [.int ((((10 : Int32) * v7) + v8) - (48 : Int32)), .int x1, .ref (ga G 70)]) (by decide +kernel) rfl ?_
        refine v_iast hC isA_70 rfl (by decide +kernel) h (fun s11 h => ?_)
        refine v_blk hC (is := [(.aload_n 0, 0), (.dup, 0)]) (pc' := 55) (ls' := [(0, .ref (ga G 65)), (1, .int x1), (2, .int x2), (3, .int x3)]) (st' := [.ref (ga G 65), .ref (ga G 65)]) (by decide +kernel) rfl ?_
        refine gX12_5 hC lfX12_130 (by decide +kernel) h (fun v12 h => ?_)
        refine v_blk hC (is := [(.iconst 1, (1 : Int32)), (.iadd, 0)]) (pc' := 60) (ls' := [(0, .ref (ga G 65)), (1, .int x1), (2, .int x2), (3, .int x3)]) (st' := [.int (v12 + (1 : Int32)), .ref (ga G 65)]) (by decide +kernel) rfl ?_
        refine pX12_5 hC lfX12_130 (by decide +kernel) h (fun s13 h => ?_)
        refine v_blk hC (is := [(.iinc 3 1, (1 : Int32))]) (pc' := 66) (ls' := [(3, .int (x3 + (1 : Int32))), (0, .ref (ga G 65)), (1, .int x1), (2, .int x2)]) (st' := []) (by decide +kernel) rfl ?_
        refine v_goto hC (off := (-57)) (tgt := 9) (by decide +kernel) (by decide) ?_
        refine v_sub [1, 2, 3, 0] (ls' := [(0, .ref (ga G 65)), (1, .int x1), (2, .int x2), (3, .int (x3 + (1 : Int32)))]) rfl ?_
        exact hk9 _ _ h
      · refine v_blk hC (is := [(.iconst 0, (0 : Int32))]) (pc' := 29) (ls' := [(0, .ref (ga G 65)), (1, .int x1), (2, .int x2), (3, .int x3)]) (st' := [.int (0 : Int32)]) (by decide +kernel) rfl ?_
        exact v_zret hC rfl h (by decide +kernel)
  have hL9 : ∀ f : Nat, ∀ (x3 : Int32), ∀ σ : Mem, p_X12_readsNumber_L9 x1 x2 f x3 σ = some res → V G 2 4 X ((some (.int res.1)), res.2) σ [(0, .ref (ga G 65)), (1, .int x1), (2, .int x2), (3, .int x3)] [] 9 := by
    intro  f
    induction f with
    | zero => intro x3 σ h; exact none_some h
    | succ f ih => intro x3 σ h; exact hB9 (p_X12_readsNumber_L9 x1 x2 f)  ih  x3 σ h
  unfold p_X12_readsNumber at h
  show V G 2 4 X ((some (.int res.1)), res.2) σ [(0, .ref (ga G 65)), (1, .int x1), (2, .int x2)] [] 0
  refine v_blk hC (is := [(.aload_n 0, 0)]) (pc' := 1) (ls' := [(0, .ref (ga G 65)), (1, .int x1), (2, .int x2)]) (st' := [.ref (ga G 65)]) (by decide +kernel) rfl ?_
  refine gX12_8 hC lfX12_22 (by decide +kernel) ?_
  refine v_blk hC (is := [(.iload_n 1, 0), (.iconst 0, (0 : Int32))]) (pc' := 6) (ls' := [(0, .ref (ga G 65)), (1, .int x1), (2, .int x2)]) (st' := [.int (0 : Int32), .int x1, .ref (ga G 70)]) (by decide +kernel) rfl ?_
  refine v_iast hC isA_70 rfl (by decide +kernel) h (fun s14 h => ?_)
  refine v_blk hC (is := [(.iconst 0, (0 : Int32)), (.istore_n 3, 0)]) (pc' := 9) (ls' := [(3, .int (0 : Int32)), (0, .ref (ga G 65)), (1, .int x1), (2, .int x2)]) (st' := []) (by decide +kernel) rfl ?_
  refine v_sub [1, 2, 3, 0] (ls' := [(0, .ref (ga G 65)), (1, .int x1), (2, .int x2), (3, .int (0 : Int32))]) rfl ?_
  exact (hL9 1000) _ _ h

def p_X12_readsStatement_B171   (x2 : Int32) (σ : Mem) : Option (Int32 × Mem) := (if x2 = 0 then some ((0 : Int32), σ) else (bnd (p_X12_here σ) fun v1 s2 => (if v1 = (59 : Int32) then (lt (s2 65 5) fun v4 => (wr s2 65 5 (v4 + (1 : Int32)) fun s5 => some ((1 : Int32), s5))) else some ((0 : Int32), s2))))
def p_X12_readsStatement_B99   (t0 : Int32) (σ : Mem) : Option (Int32 × Mem) := (p_X12_readsStatement_B171) t0 σ
def p_X12_readsStatement_B98    (σ : Mem) : Option (Int32 × Mem) := (p_X12_readsStatement_B99) (0 : Int32) σ
def p_X12_readsStatement_B135   (t0 : Int32) (σ : Mem) : Option (Int32 × Mem) := (p_X12_readsStatement_B171) t0 σ
def p_X12_readsStatement_B134    (σ : Mem) : Option (Int32 × Mem) := (p_X12_readsStatement_B135) (0 : Int32) σ
def p_X12_readsStatement  (σ : Mem) : Option (Int32 × Mem) := (bnd (p_X12_here σ) fun v6 s7 => (lt (s7 65 5) fun v9 => (wr s7 65 5 (v9 + (1 : Int32)) fun s10 => (if v6 = (98 : Int32) then (bnd (p_X12_readsNumber (0 : Int32) (1 : Int32) s10) fun v12 s13 => (if v12 = 0 then (p_X12_readsStatement_B98) s13 else (bnd (p_X12_readsNumber (1 : Int32) (1 : Int32) s13) fun v15 s16 => (if v15 = 0 then (p_X12_readsStatement_B98) s16 else (p_X12_readsStatement_B99) (1 : Int32) s16)))) else (if v6 = (108 : Int32) then (bnd (p_X12_readsNumber (0 : Int32) (1 : Int32) s10) fun v19 s20 => (p_X12_readsStatement_B171) v19 s20) else (if v6 = (110 : Int32) then (bnd (p_X12_readsNumber (0 : Int32) (2 : Int32) s10) fun v23 s24 => (p_X12_readsStatement_B171) v23 s24) else (if v6 = (112 : Int32) then (bnd (p_X12_readsNumber (0 : Int32) (1 : Int32) s10) fun v27 s28 => (if v27 = 0 then (p_X12_readsStatement_B98) s28 else (bnd (p_X12_readsNumber (1 : Int32) (1 : Int32) s28) fun v30 s31 => (if v30 = 0 then (p_X12_readsStatement_B98) s31 else (p_X12_readsStatement_B99) (1 : Int32) s31)))) else (if v6 = (115 : Int32) then (bnd (p_X12_readsNumber (0 : Int32) (1 : Int32) s10) fun v34 s35 => (if v34 = 0 then (p_X12_readsStatement_B134) s35 else (bnd (p_X12_readsNumber (1 : Int32) (1 : Int32) s35) fun v37 s38 => (if v37 = 0 then (p_X12_readsStatement_B134) s38 else (bnd (p_X12_readsNumber (2 : Int32) (1 : Int32) s38) fun v40 s41 => (if v40 = 0 then (p_X12_readsStatement_B134) s41 else (p_X12_readsStatement_B135) (1 : Int32) s41)))))) else (if v6 = (119 : Int32) then (bnd (p_X12_readsNumber (0 : Int32) (1 : Int32) s10) fun v44 s45 => (p_X12_readsStatement_B171) v44 s45) else (lt (s10 65 5) fun v47 => (wr s10 65 5 (v47 - (1 : Int32)) fun s48 => some ((0 : Int32), s48))))))))))))
set_option maxHeartbeats 4000000 in
set_option maxRecDepth 100000 in
theorem c_X12_readsStatement {G : Gl}  {σ : Mem} {res : Int32 × Mem}  (h : p_X12_readsStatement  σ = some res) : MetX G yX12_readsStatement cX12_readsStatement 3 (some .boolean) 3 [.ref (ga G 65)] σ (some (.int res.1)) res.2 := by
  refine met_V (by decide +kernel) (Nat.le_of_ble_eq_true rfl) (fun X hC => ?_)
  have hC : Ok G 3 3 X cX12_readsStatement RX12 (some .boolean) := hC
  have hB171 : ∀ (x2 : Int32), ∀ σ : Mem, p_X12_readsStatement_B171  x2 σ = some res → V G 3 3 X ((some (.int res.1)), res.2) σ [(0, .ref (ga G 65)), (2, .int x2)] [] 171 := by
    intro x2 σ h
    unfold p_X12_readsStatement_B171 at h
    refine v_blk hC (is := [(.iload_n 2, 0)]) (pc' := 172) (ls' := [(0, .ref (ga G 65)), (2, .int x2)]) (st' := [.int x2]) (by decide +kernel) rfl ?_
    refine v_if_eq hC (off := 12) (tgt := 184) (by decide +kernel) (by decide) h (fun hq h => ?_) (fun hq h => ?_)
    · refine v_blk hC (is := [(.iconst 0, (0 : Int32))]) (pc' := 185) (ls' := [(0, .ref (ga G 65)), (2, .int x2)]) (st' := [.int (0 : Int32)]) (by decide +kernel) rfl ?_
      exact v_zret hC rfl h (by decide +kernel)
    · refine v_blk hC (is := [(.aload_n 0, 0)]) (pc' := 176) (ls' := [(0, .ref (ga G 65)), (2, .int x2)]) (st' := [.ref (ga G 65)]) (by decide +kernel) rfl ?_
      obtain ⟨v1, s2, e3, h⟩ := bndI h
      refine v_cV (idx := 140) hC ⟨tt_at 1125 (by decide +kernel) rfl, tiX12_here, tvX12_here, tnX12_here, tcX12_here, tmX12_here⟩ isO_X12 rfl (c_X12_here e3) (by decide) (by decide) (by decide +kernel) (rest := []) rfl rfl (Nat.le_of_ble_eq_true rfl) rfl ?_
      refine v_blk hC (is := [(.bipush 59, (59 : Int32))]) (pc' := 181) (ls' := [(0, .ref (ga G 65)), (2, .int x2)]) (st' := [.int (59 : Int32), .int v1]) (by decide +kernel) rfl ?_
      refine v_icmp_eq hC (off := 5) (tgt := 186) (by decide +kernel) (by decide) h (fun hq h => ?_) (fun hq h => ?_)
      · refine v_blk hC (is := [(.aload_n 0, 0), (.dup, 0)]) (pc' := 188) (ls' := [(0, .ref (ga G 65)), (2, .int x2)]) (st' := [.ref (ga G 65), .ref (ga G 65)]) (by decide +kernel) rfl ?_
        refine gX12_5 hC lfX12_130 (by decide +kernel) h (fun v4 h => ?_)
        refine v_blk hC (is := [(.iconst 1, (1 : Int32)), (.iadd, 0)]) (pc' := 193) (ls' := [(0, .ref (ga G 65)), (2, .int x2)]) (st' := [.int (v4 + (1 : Int32)), .ref (ga G 65)]) (by decide +kernel) rfl ?_
        refine pX12_5 hC lfX12_130 (by decide +kernel) h (fun s5 h => ?_)
        refine v_blk hC (is := [(.iconst 1, (1 : Int32))]) (pc' := 197) (ls' := [(0, .ref (ga G 65)), (2, .int x2)]) (st' := [.int (1 : Int32)]) (by decide +kernel) rfl ?_
        exact v_zret hC rfl h (by decide +kernel)
      · refine v_blk hC (is := [(.iconst 0, (0 : Int32))]) (pc' := 185) (ls' := [(0, .ref (ga G 65)), (2, .int x2)]) (st' := [.int (0 : Int32)]) (by decide +kernel) rfl ?_
        exact v_zret hC rfl h (by decide +kernel)
  have hB99 : ∀ (t0 : Int32), ∀ σ : Mem, p_X12_readsStatement_B99  t0 σ = some res → V G 3 3 X ((some (.int res.1)), res.2) σ [(0, .ref (ga G 65))] [.int t0] 99 := by
    intro t0 σ h
    unfold p_X12_readsStatement_B99 at h
    refine v_blk hC (is := [(.istore_n 2, 0)]) (pc' := 100) (ls' := [(2, .int t0), (0, .ref (ga G 65))]) (st' := []) (by decide +kernel) rfl ?_
    refine v_goto hC (off := 71) (tgt := 171) (by decide +kernel) (by decide) ?_
    refine v_sub [1, 0] (ls' := [(0, .ref (ga G 65)), (2, .int t0)]) rfl ?_
    exact (hB171 ) _ _ h
  have hB98 : ∀ σ : Mem, p_X12_readsStatement_B98  σ = some res → V G 3 3 X ((some (.int res.1)), res.2) σ [(0, .ref (ga G 65))] [] 98 := by
    intro  σ h
    unfold p_X12_readsStatement_B98 at h
    refine v_blk hC (is := [(.iconst 0, (0 : Int32))]) (pc' := 99) (ls' := [(0, .ref (ga G 65))]) (st' := [.int (0 : Int32)]) (by decide +kernel) rfl ?_
    exact (hB99 ) _ _ h
  have hB135 : ∀ (t0 : Int32), ∀ σ : Mem, p_X12_readsStatement_B135  t0 σ = some res → V G 3 3 X ((some (.int res.1)), res.2) σ [(0, .ref (ga G 65))] [.int t0] 135 := by
    intro t0 σ h
    unfold p_X12_readsStatement_B135 at h
    refine v_blk hC (is := [(.istore_n 2, 0)]) (pc' := 136) (ls' := [(2, .int t0), (0, .ref (ga G 65))]) (st' := []) (by decide +kernel) rfl ?_
    refine v_goto hC (off := 35) (tgt := 171) (by decide +kernel) (by decide) ?_
    refine v_sub [1, 0] (ls' := [(0, .ref (ga G 65)), (2, .int t0)]) rfl ?_
    exact (hB171 ) _ _ h
  have hB134 : ∀ σ : Mem, p_X12_readsStatement_B134  σ = some res → V G 3 3 X ((some (.int res.1)), res.2) σ [(0, .ref (ga G 65))] [] 134 := by
    intro  σ h
    unfold p_X12_readsStatement_B134 at h
    refine v_blk hC (is := [(.iconst 0, (0 : Int32))]) (pc' := 135) (ls' := [(0, .ref (ga G 65))]) (st' := [.int (0 : Int32)]) (by decide +kernel) rfl ?_
    exact (hB135 ) _ _ h
  unfold p_X12_readsStatement at h
  show V G 3 3 X ((some (.int res.1)), res.2) σ [(0, .ref (ga G 65))] [] 0
  refine v_blk hC (is := [(.aload_n 0, 0)]) (pc' := 1) (ls' := [(0, .ref (ga G 65))]) (st' := [.ref (ga G 65)]) (by decide +kernel) rfl ?_
  obtain ⟨v6, s7, e8, h⟩ := bndI h
  refine v_cV (idx := 140) hC ⟨tt_at 1125 (by decide +kernel) rfl, tiX12_here, tvX12_here, tnX12_here, tcX12_here, tmX12_here⟩ isO_X12 rfl (c_X12_here e8) (by decide) (by decide) (by decide +kernel) (rest := []) rfl rfl (Nat.le_of_ble_eq_true rfl) rfl ?_
  refine v_blk hC (is := [(.istore_n 1, 0), (.aload_n 0, 0), (.dup, 0)]) (pc' := 7) (ls' := [(1, .int v6), (0, .ref (ga G 65))]) (st' := [.ref (ga G 65), .ref (ga G 65)]) (by decide +kernel) rfl ?_
  refine gX12_5 hC lfX12_130 (by decide +kernel) h (fun v9 h => ?_)
  refine v_blk hC (is := [(.iconst 1, (1 : Int32)), (.iadd, 0)]) (pc' := 12) (ls' := [(1, .int v6), (0, .ref (ga G 65))]) (st' := [.int (v9 + (1 : Int32)), .ref (ga G 65)]) (by decide +kernel) rfl ?_
  refine pX12_5 hC lfX12_130 (by decide +kernel) h (fun s10 h => ?_)
  refine v_blk hC (is := [(.iload_n 1, 0)]) (pc' := 16) (ls' := [(1, .int v6), (0, .ref (ga G 65))]) (st' := [.int v6]) (by decide +kernel) rfl ?_
  by_cases q11 : v6 = (98 : Int32)
  · replace h := br_pos h q11
    refine v_lsw hC (dflt := 143) (ps := #[(98, 60), (108, 123), (110, 133), (112, 60), (115, 87), (119, 123)]) (len := 60) (off := 60) (tgt := 76) (by decide +kernel) (by decide) (by rw [q11]; decide +kernel) (by decide) ?_
    refine v_blk hC (is := [(.aload_n 0, 0), (.iconst 0, (0 : Int32)), (.iconst 1, (1 : Int32))]) (pc' := 79) (ls' := [(1, .int v6), (0, .ref (ga G 65))]) (st' := [.int (1 : Int32), .int (0 : Int32), .ref (ga G 65)]) (by decide +kernel) rfl ?_
    obtain ⟨v12, s13, e14, h⟩ := bndI h
    refine v_cV (idx := 144) hC ⟨tt_at 1129 (by decide +kernel) rfl, tiX12_readsNumber, tvX12_readsNumber, tnX12_readsNumber, tcX12_readsNumber, tmX12_readsNumber⟩ isO_X12 rfl (c_X12_readsNumber e14) (by decide) (by decide) (by decide +kernel) (rest := []) rfl rfl (Nat.le_of_ble_eq_true rfl) rfl ?_
    refine v_if_eq hC (off := 16) (tgt := 98) (by decide +kernel) (by decide) h (fun hq h => ?_) (fun hq h => ?_)
    · refine v_sub [1] (ls' := [(0, .ref (ga G 65))]) rfl ?_
      exact (hB98 ) _ h
    · refine v_blk hC (is := [(.aload_n 0, 0), (.iconst 1, (1 : Int32)), (.iconst 1, (1 : Int32))]) (pc' := 88) (ls' := [(1, .int v6), (0, .ref (ga G 65))]) (st' := [.int (1 : Int32), .int (1 : Int32), .ref (ga G 65)]) (by decide +kernel) rfl ?_
      obtain ⟨v15, s16, e17, h⟩ := bndI h
      refine v_cV (idx := 144) hC ⟨tt_at 1129 (by decide +kernel) rfl, tiX12_readsNumber, tvX12_readsNumber, tnX12_readsNumber, tcX12_readsNumber, tmX12_readsNumber⟩ isO_X12 rfl (c_X12_readsNumber e17) (by decide) (by decide) (by decide +kernel) (rest := []) rfl rfl (Nat.le_of_ble_eq_true rfl) rfl ?_
      refine v_if_eq hC (off := 7) (tgt := 98) (by decide +kernel) (by decide) h (fun hq h => ?_) (fun hq h => ?_)
      · refine v_sub [1] (ls' := [(0, .ref (ga G 65))]) rfl ?_
        exact (hB98 ) _ h
      · refine v_blk hC (is := [(.iconst 1, (1 : Int32))]) (pc' := 95) (ls' := [(1, .int v6), (0, .ref (ga G 65))]) (st' := [.int (1 : Int32)]) (by decide +kernel) rfl ?_
        refine v_goto hC (off := 4) (tgt := 99) (by decide +kernel) (by decide) ?_
        refine v_sub [1] (ls' := [(0, .ref (ga G 65))]) rfl ?_
        exact (hB99 ) _ _ h
  replace h := br_neg h q11
  by_cases q18 : v6 = (108 : Int32)
  · replace h := br_pos h q18
    refine v_lsw hC (dflt := 143) (ps := #[(98, 60), (108, 123), (110, 133), (112, 60), (115, 87), (119, 123)]) (len := 60) (off := 123) (tgt := 139) (by decide +kernel) (by decide) (by refine (lv_osw q11 (by decide)).trans ?_; rw [q18]; decide +kernel) (by decide) ?_
    refine v_blk hC (is := [(.aload_n 0, 0), (.iconst 0, (0 : Int32)), (.iconst 1, (1 : Int32))]) (pc' := 142) (ls' := [(1, .int v6), (0, .ref (ga G 65))]) (st' := [.int (1 : Int32), .int (0 : Int32), .ref (ga G 65)]) (by decide +kernel) rfl ?_
    obtain ⟨v19, s20, e21, h⟩ := bndI h
    refine v_cV (idx := 144) hC ⟨tt_at 1129 (by decide +kernel) rfl, tiX12_readsNumber, tvX12_readsNumber, tnX12_readsNumber, tcX12_readsNumber, tmX12_readsNumber⟩ isO_X12 rfl (c_X12_readsNumber e21) (by decide) (by decide) (by decide +kernel) (rest := []) rfl rfl (Nat.le_of_ble_eq_true rfl) rfl ?_
    refine v_blk hC (is := [(.istore_n 2, 0)]) (pc' := 146) (ls' := [(2, .int v19), (1, .int v6), (0, .ref (ga G 65))]) (st' := []) (by decide +kernel) rfl ?_
    refine v_goto hC (off := 25) (tgt := 171) (by decide +kernel) (by decide) ?_
    refine v_sub [2, 0] (ls' := [(0, .ref (ga G 65)), (2, .int v19)]) rfl ?_
    exact (hB171 ) _ _ h
  replace h := br_neg h q18
  by_cases q22 : v6 = (110 : Int32)
  · replace h := br_pos h q22
    refine v_lsw hC (dflt := 143) (ps := #[(98, 60), (108, 123), (110, 133), (112, 60), (115, 87), (119, 123)]) (len := 60) (off := 133) (tgt := 149) (by decide +kernel) (by decide) (by refine (lv_osw q11 (by decide)).trans ?_; refine (lv_osw q18 (by decide)).trans ?_; rw [q22]; decide +kernel) (by decide) ?_
    refine v_blk hC (is := [(.aload_n 0, 0), (.iconst 0, (0 : Int32)), (.iconst 2, (2 : Int32))]) (pc' := 152) (ls' := [(1, .int v6), (0, .ref (ga G 65))]) (st' := [.int (2 : Int32), .int (0 : Int32), .ref (ga G 65)]) (by decide +kernel) rfl ?_
    obtain ⟨v23, s24, e25, h⟩ := bndI h
    refine v_cV (idx := 144) hC ⟨tt_at 1129 (by decide +kernel) rfl, tiX12_readsNumber, tvX12_readsNumber, tnX12_readsNumber, tcX12_readsNumber, tmX12_readsNumber⟩ isO_X12 rfl (c_X12_readsNumber e25) (by decide) (by decide) (by decide +kernel) (rest := []) rfl rfl (Nat.le_of_ble_eq_true rfl) rfl ?_
    refine v_blk hC (is := [(.istore_n 2, 0)]) (pc' := 156) (ls' := [(2, .int v23), (1, .int v6), (0, .ref (ga G 65))]) (st' := []) (by decide +kernel) rfl ?_
    refine v_goto hC (off := 15) (tgt := 171) (by decide +kernel) (by decide) ?_
    refine v_sub [2, 0] (ls' := [(0, .ref (ga G 65)), (2, .int v23)]) rfl ?_
    exact (hB171 ) _ _ h
  replace h := br_neg h q22
  by_cases q26 : v6 = (112 : Int32)
  · replace h := br_pos h q26
    refine v_lsw hC (dflt := 143) (ps := #[(98, 60), (108, 123), (110, 133), (112, 60), (115, 87), (119, 123)]) (len := 60) (off := 60) (tgt := 76) (by decide +kernel) (by decide) (by refine (lv_osw q11 (by decide)).trans ?_; refine (lv_osw q18 (by decide)).trans ?_; refine (lv_osw q22 (by decide)).trans ?_; rw [q26]; decide +kernel) (by decide) ?_
    refine v_blk hC (is := [(.aload_n 0, 0), (.iconst 0, (0 : Int32)), (.iconst 1, (1 : Int32))]) (pc' := 79) (ls' := [(1, .int v6), (0, .ref (ga G 65))]) (st' := [.int (1 : Int32), .int (0 : Int32), .ref (ga G 65)]) (by decide +kernel) rfl ?_
    obtain ⟨v27, s28, e29, h⟩ := bndI h
    refine v_cV (idx := 144) hC ⟨tt_at 1129 (by decide +kernel) rfl, tiX12_readsNumber, tvX12_readsNumber, tnX12_readsNumber, tcX12_readsNumber, tmX12_readsNumber⟩ isO_X12 rfl (c_X12_readsNumber e29) (by decide) (by decide) (by decide +kernel) (rest := []) rfl rfl (Nat.le_of_ble_eq_true rfl) rfl ?_
    refine v_if_eq hC (off := 16) (tgt := 98) (by decide +kernel) (by decide) h (fun hq h => ?_) (fun hq h => ?_)
    · refine v_sub [1] (ls' := [(0, .ref (ga G 65))]) rfl ?_
      exact (hB98 ) _ h
    · refine v_blk hC (is := [(.aload_n 0, 0), (.iconst 1, (1 : Int32)), (.iconst 1, (1 : Int32))]) (pc' := 88) (ls' := [(1, .int v6), (0, .ref (ga G 65))]) (st' := [.int (1 : Int32), .int (1 : Int32), .ref (ga G 65)]) (by decide +kernel) rfl ?_
      obtain ⟨v30, s31, e32, h⟩ := bndI h
      refine v_cV (idx := 144) hC ⟨tt_at 1129 (by decide +kernel) rfl, tiX12_readsNumber, tvX12_readsNumber, tnX12_readsNumber, tcX12_readsNumber, tmX12_readsNumber⟩ isO_X12 rfl (c_X12_readsNumber e32) (by decide) (by decide) (by decide +kernel) (rest := []) rfl rfl (Nat.le_of_ble_eq_true rfl) rfl ?_
      refine v_if_eq hC (off := 7) (tgt := 98) (by decide +kernel) (by decide) h (fun hq h => ?_) (fun hq h => ?_)
      · refine v_sub [1] (ls' := [(0, .ref (ga G 65))]) rfl ?_
        exact (hB98 ) _ h
      · refine v_blk hC (is := [(.iconst 1, (1 : Int32))]) (pc' := 95) (ls' := [(1, .int v6), (0, .ref (ga G 65))]) (st' := [.int (1 : Int32)]) (by decide +kernel) rfl ?_
        refine v_goto hC (off := 4) (tgt := 99) (by decide +kernel) (by decide) ?_
        refine v_sub [1] (ls' := [(0, .ref (ga G 65))]) rfl ?_
        exact (hB99 ) _ _ h
  replace h := br_neg h q26
  by_cases q33 : v6 = (115 : Int32)
  · replace h := br_pos h q33
    refine v_lsw hC (dflt := 143) (ps := #[(98, 60), (108, 123), (110, 133), (112, 60), (115, 87), (119, 123)]) (len := 60) (off := 87) (tgt := 103) (by decide +kernel) (by decide) (by refine (lv_osw q11 (by decide)).trans ?_; refine (lv_osw q18 (by decide)).trans ?_; refine (lv_osw q22 (by decide)).trans ?_; refine (lv_osw q26 (by decide)).trans ?_; rw [q33]; decide +kernel) (by decide) ?_
    refine v_blk hC (is := [(.aload_n 0, 0), (.iconst 0, (0 : Int32)), (.iconst 1, (1 : Int32))]) (pc' := 106) (ls' := [(1, .int v6), (0, .ref (ga G 65))]) (st' := [.int (1 : Int32), .int (0 : Int32), .ref (ga G 65)]) (by decide +kernel) rfl ?_
    obtain ⟨v34, s35, e36, h⟩ := bndI h
    refine v_cV (idx := 144) hC ⟨tt_at 1129 (by decide +kernel) rfl, tiX12_readsNumber, tvX12_readsNumber, tnX12_readsNumber, tcX12_readsNumber, tmX12_readsNumber⟩ isO_X12 rfl (c_X12_readsNumber e36) (by decide) (by decide) (by decide +kernel) (rest := []) rfl rfl (Nat.le_of_ble_eq_true rfl) rfl ?_
    refine v_if_eq hC (off := 25) (tgt := 134) (by decide +kernel) (by decide) h (fun hq h => ?_) (fun hq h => ?_)
    · refine v_sub [1] (ls' := [(0, .ref (ga G 65))]) rfl ?_
      exact (hB134 ) _ h
    · refine v_blk hC (is := [(.aload_n 0, 0), (.iconst 1, (1 : Int32)), (.iconst 1, (1 : Int32))]) (pc' := 115) (ls' := [(1, .int v6), (0, .ref (ga G 65))]) (st' := [.int (1 : Int32), .int (1 : Int32), .ref (ga G 65)]) (by decide +kernel) rfl ?_
      obtain ⟨v37, s38, e39, h⟩ := bndI h
      refine v_cV (idx := 144) hC ⟨tt_at 1129 (by decide +kernel) rfl, tiX12_readsNumber, tvX12_readsNumber, tnX12_readsNumber, tcX12_readsNumber, tmX12_readsNumber⟩ isO_X12 rfl (c_X12_readsNumber e39) (by decide) (by decide) (by decide +kernel) (rest := []) rfl rfl (Nat.le_of_ble_eq_true rfl) rfl ?_
      refine v_if_eq hC (off := 16) (tgt := 134) (by decide +kernel) (by decide) h (fun hq h => ?_) (fun hq h => ?_)
      · refine v_sub [1] (ls' := [(0, .ref (ga G 65))]) rfl ?_
        exact (hB134 ) _ h
      · refine v_blk hC (is := [(.aload_n 0, 0), (.iconst 2, (2 : Int32)), (.iconst 1, (1 : Int32))]) (pc' := 124) (ls' := [(1, .int v6), (0, .ref (ga G 65))]) (st' := [.int (1 : Int32), .int (2 : Int32), .ref (ga G 65)]) (by decide +kernel) rfl ?_
        obtain ⟨v40, s41, e42, h⟩ := bndI h
        refine v_cV (idx := 144) hC ⟨tt_at 1129 (by decide +kernel) rfl, tiX12_readsNumber, tvX12_readsNumber, tnX12_readsNumber, tcX12_readsNumber, tmX12_readsNumber⟩ isO_X12 rfl (c_X12_readsNumber e42) (by decide) (by decide) (by decide +kernel) (rest := []) rfl rfl (Nat.le_of_ble_eq_true rfl) rfl ?_
        refine v_if_eq hC (off := 7) (tgt := 134) (by decide +kernel) (by decide) h (fun hq h => ?_) (fun hq h => ?_)
        · refine v_sub [1] (ls' := [(0, .ref (ga G 65))]) rfl ?_
          exact (hB134 ) _ h
        · refine v_blk hC (is := [(.iconst 1, (1 : Int32))]) (pc' := 131) (ls' := [(1, .int v6), (0, .ref (ga G 65))]) (st' := [.int (1 : Int32)]) (by decide +kernel) rfl ?_
          refine v_goto hC (off := 4) (tgt := 135) (by decide +kernel) (by decide) ?_
          refine v_sub [1] (ls' := [(0, .ref (ga G 65))]) rfl ?_
          exact (hB135 ) _ _ h
  replace h := br_neg h q33
  by_cases q43 : v6 = (119 : Int32)
  · replace h := br_pos h q43
    refine v_lsw hC (dflt := 143) (ps := #[(98, 60), (108, 123), (110, 133), (112, 60), (115, 87), (119, 123)]) (len := 60) (off := 123) (tgt := 139) (by decide +kernel) (by decide) (by refine (lv_osw q11 (by decide)).trans ?_; refine (lv_osw q18 (by decide)).trans ?_; refine (lv_osw q22 (by decide)).trans ?_; refine (lv_osw q26 (by decide)).trans ?_; refine (lv_osw q33 (by decide)).trans ?_; rw [q43]; decide +kernel) (by decide) ?_
    refine v_blk hC (is := [(.aload_n 0, 0), (.iconst 0, (0 : Int32)), (.iconst 1, (1 : Int32))]) (pc' := 142) (ls' := [(1, .int v6), (0, .ref (ga G 65))]) (st' := [.int (1 : Int32), .int (0 : Int32), .ref (ga G 65)]) (by decide +kernel) rfl ?_
    obtain ⟨v44, s45, e46, h⟩ := bndI h
    refine v_cV (idx := 144) hC ⟨tt_at 1129 (by decide +kernel) rfl, tiX12_readsNumber, tvX12_readsNumber, tnX12_readsNumber, tcX12_readsNumber, tmX12_readsNumber⟩ isO_X12 rfl (c_X12_readsNumber e46) (by decide) (by decide) (by decide +kernel) (rest := []) rfl rfl (Nat.le_of_ble_eq_true rfl) rfl ?_
    refine v_blk hC (is := [(.istore_n 2, 0)]) (pc' := 146) (ls' := [(2, .int v44), (1, .int v6), (0, .ref (ga G 65))]) (st' := []) (by decide +kernel) rfl ?_
    refine v_goto hC (off := 25) (tgt := 171) (by decide +kernel) (by decide) ?_
    refine v_sub [2, 0] (ls' := [(0, .ref (ga G 65)), (2, .int v44)]) rfl ?_
    exact (hB171 ) _ _ h
  replace h := br_neg h q43
  refine v_lsw hC (dflt := 143) (ps := #[(98, 60), (108, 123), (110, 133), (112, 60), (115, 87), (119, 123)]) (len := 60) (off := 143) (tgt := 159) (by decide +kernel) (by decide) (by refine (lv_osw q11 (by decide)).trans ?_; refine (lv_osw q18 (by decide)).trans ?_; refine (lv_osw q22 (by decide)).trans ?_; refine (lv_osw q26 (by decide)).trans ?_; refine (lv_osw q33 (by decide)).trans ?_; refine (lv_osw q43 (by decide)).trans ?_; rfl) (by decide) ?_
  refine v_blk hC (is := [(.aload_n 0, 0), (.dup, 0)]) (pc' := 161) (ls' := [(1, .int v6), (0, .ref (ga G 65))]) (st' := [.ref (ga G 65), .ref (ga G 65)]) (by decide +kernel) rfl ?_
  refine gX12_5 hC lfX12_130 (by decide +kernel) h (fun v47 h => ?_)
  refine v_blk hC (is := [(.iconst 1, (1 : Int32)), (.isub, 0)]) (pc' := 166) (ls' := [(1, .int v6), (0, .ref (ga G 65))]) (st' := [.int (v47 - (1 : Int32)), .ref (ga G 65)]) (by decide +kernel) rfl ?_
  refine pX12_5 hC lfX12_130 (by decide +kernel) h (fun s48 h => ?_)
  refine v_blk hC (is := [(.iconst 0, (0 : Int32))]) (pc' := 170) (ls' := [(1, .int v6), (0, .ref (ga G 65))]) (st' := [.int (0 : Int32)]) (by decide +kernel) rfl ?_
  exact v_zret hC rfl h (by decide +kernel)

def p_X12_adds (x0 : Nat) (x1 : Int32) (x2 : Int32) (x3 : Int32) (σ : Mem) : Option (Unit × Mem) := (if (0 : Int32) < 0 ∨ 100 ≤ ((0 : Int32)).toNatClampNeg then none else lt (σ x0 ((0 : Int32)).toNatClampNeg) fun v1 => (bnd (p_X12_of v1 (0 : Int32) σ) fun v2 s3 => (if v2 < 0 ∨ 100 ≤ (v2).toNatClampNeg then none else wr s3 x0 (v2).toNatClampNeg x1 fun s5 => (bnd (p_X12_of v1 (1 : Int32) s5) fun v6 s7 => (if v6 < 0 ∨ 100 ≤ (v6).toNatClampNeg then none else wr s7 x0 (v6).toNatClampNeg x2 fun s9 => (bnd (p_X12_of v1 (2 : Int32) s9) fun v10 s11 => (if v10 < 0 ∨ 100 ≤ (v10).toNatClampNeg then none else wr s11 x0 (v10).toNatClampNeg x3 fun s13 => (bnd (p_X12_of v1 (3 : Int32) s13) fun v14 s15 => (if v14 < 0 ∨ 100 ≤ (v14).toNatClampNeg then none else wr s15 x0 (v14).toNatClampNeg (0 : Int32) fun s17 => (if (0 : Int32) < 0 ∨ 100 ≤ ((0 : Int32)).toNatClampNeg then none else lt (s17 x0 ((0 : Int32)).toNatClampNeg) fun v18 => (if (0 : Int32) < 0 ∨ 100 ≤ ((0 : Int32)).toNatClampNeg then none else wr s17 x0 ((0 : Int32)).toNatClampNeg (v18 + (1 : Int32)) fun s19 => some ((), s19))))))))))))
set_option maxHeartbeats 4000000 in
set_option maxRecDepth 100000 in
theorem c_X12_adds {G : Gl} {x0 : Nat} {x1 : Int32} {x2 : Int32} {x3 : Int32} {σ : Mem} {res : Unit × Mem} (hx0 : isRow x0) (h : p_X12_adds x0 x1 x2 x3 σ = some res) : MetX G yX12_adds cX12_adds 5 none 2 [.ref (ga G x0), .int x1, .int x2, .int x3] σ none res.2 := by
  refine met_V (by decide +kernel) (Nat.le_of_ble_eq_true rfl) (fun X hC => ?_)
  have hC : Ok G 2 5 X cX12_adds RX12 none := hC
  unfold p_X12_adds at h
  show V G 2 5 X (none, res.2) σ [(0, .ref (ga G x0)), (1, .int x1), (2, .int x2), (3, .int x3)] [] 0
  refine v_blk hC (is := [(.aload_n 0, 0), (.iconst 0, (0 : Int32))]) (pc' := 2) (ls' := [(0, .ref (ga G x0)), (1, .int x1), (2, .int x2), (3, .int x3)]) (st' := [.int (0 : Int32), .ref (ga G x0)]) (by decide +kernel) rfl ?_
  refine v_iald hC (isA_row hx0) (al_row hx0) (by decide +kernel) h (fun v1 h => ?_)
  refine v_blk hC (is := [(.istore 4, 0), (.aload_n 0, 0), (.iload 4, 0), (.iconst 0, (0 : Int32))]) (pc' := 9) (ls' := [(4, .int v1), (0, .ref (ga G x0)), (1, .int x1), (2, .int x2), (3, .int x3)]) (st' := [.int (0 : Int32), .int v1, .ref (ga G x0)]) (by decide +kernel) rfl ?_
  obtain ⟨v2, s3, e4, h⟩ := bndI h
  refine v_cS (idx := 57) hC ⟨tt_at 1143 (by decide +kernel) rfl, tsX12_of, tnX12_of, tcX12_of, tmX12_of⟩ (c_X12_of e4) (by decide) (by decide) (by decide +kernel) (rest := [.ref (ga G x0)]) rfl rfl (Nat.le_of_ble_eq_true rfl) rfl ?_
  refine v_blk hC (is := [(.iload_n 1, 0)]) (pc' := 13) (ls' := [(4, .int v1), (0, .ref (ga G x0)), (1, .int x1), (2, .int x2), (3, .int x3)]) (st' := [.int x1, .int v2, .ref (ga G x0)]) (by decide +kernel) rfl ?_
  refine v_iast hC (isA_row hx0) (al_row hx0) (by decide +kernel) h (fun s5 h => ?_)
  refine v_blk hC (is := [(.aload_n 0, 0), (.iload 4, 0), (.iconst 1, (1 : Int32))]) (pc' := 18) (ls' := [(4, .int v1), (0, .ref (ga G x0)), (1, .int x1), (2, .int x2), (3, .int x3)]) (st' := [.int (1 : Int32), .int v1, .ref (ga G x0)]) (by decide +kernel) rfl ?_
  obtain ⟨v6, s7, e8, h⟩ := bndI h
  refine v_cS (idx := 57) hC ⟨tt_at 1143 (by decide +kernel) rfl, tsX12_of, tnX12_of, tcX12_of, tmX12_of⟩ (c_X12_of e8) (by decide) (by decide) (by decide +kernel) (rest := [.ref (ga G x0)]) rfl rfl (Nat.le_of_ble_eq_true rfl) rfl ?_
  refine v_blk hC (is := [(.iload_n 2, 0)]) (pc' := 22) (ls' := [(4, .int v1), (0, .ref (ga G x0)), (1, .int x1), (2, .int x2), (3, .int x3)]) (st' := [.int x2, .int v6, .ref (ga G x0)]) (by decide +kernel) rfl ?_
  refine v_iast hC (isA_row hx0) (al_row hx0) (by decide +kernel) h (fun s9 h => ?_)
  refine v_blk hC (is := [(.aload_n 0, 0), (.iload 4, 0), (.iconst 2, (2 : Int32))]) (pc' := 27) (ls' := [(4, .int v1), (0, .ref (ga G x0)), (1, .int x1), (2, .int x2), (3, .int x3)]) (st' := [.int (2 : Int32), .int v1, .ref (ga G x0)]) (by decide +kernel) rfl ?_
  obtain ⟨v10, s11, e12, h⟩ := bndI h
  refine v_cS (idx := 57) hC ⟨tt_at 1143 (by decide +kernel) rfl, tsX12_of, tnX12_of, tcX12_of, tmX12_of⟩ (c_X12_of e12) (by decide) (by decide) (by decide +kernel) (rest := [.ref (ga G x0)]) rfl rfl (Nat.le_of_ble_eq_true rfl) rfl ?_
  refine v_blk hC (is := [(.iload_n 3, 0)]) (pc' := 31) (ls' := [(4, .int v1), (0, .ref (ga G x0)), (1, .int x1), (2, .int x2), (3, .int x3)]) (st' := [.int x3, .int v10, .ref (ga G x0)]) (by decide +kernel) rfl ?_
  refine v_iast hC (isA_row hx0) (al_row hx0) (by decide +kernel) h (fun s13 h => ?_)
  refine v_blk hC (is := [(.aload_n 0, 0), (.iload 4, 0), (.iconst 3, (3 : Int32))]) (pc' := 36) (ls' := [(4, .int v1), (0, .ref (ga G x0)), (1, .int x1), (2, .int x2), (3, .int x3)]) (st' := [.int (3 : Int32), .int v1, .ref (ga G x0)]) (by decide +kernel) rfl ?_
  obtain ⟨v14, s15, e16, h⟩ := bndI h
  refine v_cS (idx := 57) hC ⟨tt_at 1143 (by decide +kernel) rfl, tsX12_of, tnX12_of, tcX12_of, tmX12_of⟩ (c_X12_of e16) (by decide) (by decide) (by decide +kernel) (rest := [.ref (ga G x0)]) rfl rfl (Nat.le_of_ble_eq_true rfl) rfl ?_
  refine v_blk hC (is := [(.iconst 0, (0 : Int32))]) (pc' := 40) (ls' := [(4, .int v1), (0, .ref (ga G x0)), (1, .int x1), (2, .int x2), (3, .int x3)]) (st' := [.int (0 : Int32), .int v14, .ref (ga G x0)]) (by decide +kernel) rfl ?_
  refine v_iast hC (isA_row hx0) (al_row hx0) (by decide +kernel) h (fun s17 h => ?_)
  refine v_blk hC (is := [(.aload_n 0, 0), (.iconst 0, (0 : Int32)), (.dup2, 0)]) (pc' := 44) (ls' := [(4, .int v1), (0, .ref (ga G x0)), (1, .int x1), (2, .int x2), (3, .int x3)]) (st' := [.int (0 : Int32), .ref (ga G x0), .int (0 : Int32), .ref (ga G x0)]) (by decide +kernel) rfl ?_
  refine v_iald hC (isA_row hx0) (al_row hx0) (by decide +kernel) h (fun v18 h => ?_)
  refine v_blk hC (is := [(.iconst 1, (1 : Int32)), (.iadd, 0)]) (pc' := 47) (ls' := [(4, .int v1), (0, .ref (ga G x0)), (1, .int x1), (2, .int x2), (3, .int x3)]) (st' := [.int (v18 + (1 : Int32)), .int (0 : Int32), .ref (ga G x0)]) (by decide +kernel) rfl ?_
  refine v_iast hC (isA_row hx0) (al_row hx0) (by decide +kernel) h (fun s19 h => ?_)
  exact v_vret hC h (by decide +kernel)

def p_X12_isDone_B172  (x1 : Int32) (x2 : Int32) (x3 : Int32) (σ : Mem) : Option (Int32 × Mem) := (bnd (p_X12_of x2 (2 : Int32) σ) fun v1 s2 => (if v1 < 0 ∨ 100 ≤ (v1).toNatClampNeg then none else wr s2 66 (v1).toNatClampNeg x3 fun s4 => some ((1 : Int32), s4)))
def p_X12_isDone (x1 : Int32) (σ : Mem) : Option (Int32 × Mem) := (if (0 : Int32) < 0 ∨ 3 ≤ ((0 : Int32)).toNatClampNeg then none else lt (σ 70 ((0 : Int32)).toNatClampNeg) fun v5 => (if (1 : Int32) < 0 ∨ 3 ≤ ((1 : Int32)).toNatClampNeg then none else lt (σ 70 ((1 : Int32)).toNatClampNeg) fun v6 => (if x1 = (98 : Int32) then (bnd (p_X12_isMan v5 σ) fun v8 s9 => (if v8 = 0 then some ((0 : Int32), s9) else (if v6 = (9 : Int32) then (p_X12_isDone_B172 x1) v5 v6 s9 else (bnd (p_X12_isBoat v6 s9) fun v11 s12 => (if v11 = 0 then some ((0 : Int32), s12) else (bnd (p_X12_of v5 (3 : Int32) s12) fun v14 s15 => (if v14 < 0 ∨ 100 ≤ (v14).toNatClampNeg then none else lt (s15 66 (v14).toNatClampNeg) fun v17 => (if v17 = (1 : Int32) then some ((0 : Int32), s15) else (p_X12_isDone_B172 x1) v5 v6 s15)))))))) else (if x1 = (108 : Int32) then (if (1 : Int32) < 0 ∨ 100 ≤ ((1 : Int32)).toNatClampNeg then none else wr σ 66 ((1 : Int32)).toNatClampNeg v5 fun s19 => (if (3 : Int32) < v5 then some ((0 : Int32), s19) else some ((1 : Int32), s19))) else (if x1 = (112 : Int32) then (if (8 : Int32) ≤ v5 then some ((0 : Int32), σ) else (if (0 : Int32) < 0 ∨ 100 ≤ ((0 : Int32)).toNatClampNeg then none else lt (σ 66 ((0 : Int32)).toNatClampNeg) fun v21 => (if v21 = (8 : Int32) then some ((0 : Int32), σ) else (bnd (p_X12_adds 66 v5 v6 (9 : Int32) σ) fun (v22 : Unit) s23 => some ((1 : Int32), s23))))) else (if x1 = (115 : Int32) then (bnd (p_X12_areTwo v5 v6 σ) fun v26 s27 => (if v26 = 0 then some ((0 : Int32), s27) else (if (2 : Int32) < 0 ∨ 3 ≤ ((2 : Int32)).toNatClampNeg then none else lt (s27 70 ((2 : Int32)).toNatClampNeg) fun v29 => (if v29 ≤ (3 : Int32) then (bnd (p_X12_by v5 v6 s27) fun v30 s31 => (if (2 : Int32) < 0 ∨ 3 ≤ ((2 : Int32)).toNatClampNeg then none else lt (s31 70 ((2 : Int32)).toNatClampNeg) fun v33 => (if v30 < 0 ∨ 100 ≤ (v30).toNatClampNeg then none else wr s31 66 (v30).toNatClampNeg v33 fun s34 => some ((1 : Int32), s34)))) else some ((0 : Int32), s27))))) else (if x1 = (119 : Int32) then (if (2 : Int32) < 0 ∨ 100 ≤ ((2 : Int32)).toNatClampNeg then none else wr σ 66 ((2 : Int32)).toNatClampNeg v5 fun s36 => some ((1 : Int32), s36)) else (bnd (p_X12_isIn v5 (1 : Int32) (60 : Int32) σ) fun v37 s38 => (if v37 = 0 then some ((0 : Int32), s38) else (if (3 : Int32) < 0 ∨ 100 ≤ ((3 : Int32)).toNatClampNeg then none else lt (s38 66 ((3 : Int32)).toNatClampNeg) fun v40 => (if (v40 + v5) ≤ (999 : Int32) then (bnd (p_X12_seasonsOn 66 v5 s38) fun (v41 : Unit) s42 => some ((1 : Int32), s42)) else some ((0 : Int32), s38))))))))))))
set_option maxHeartbeats 4000000 in
set_option maxRecDepth 100000 in
theorem c_X12_isDone {G : Gl} {x1 : Int32} {σ : Mem} {res : Int32 × Mem}  (h : p_X12_isDone x1 σ = some res) : MetX G yX12_isDone cX12_isDone 4 (some .boolean) 8 [.ref (ga G 65), .int x1] σ (some (.int res.1)) res.2 := by
  refine met_V (by decide +kernel) (Nat.le_of_ble_eq_true rfl) (fun X hC => ?_)
  have hC : Ok G 8 4 X cX12_isDone RX12 (some .boolean) := hC
  have hB172 : ∀ (x2 : Int32), ∀ (x3 : Int32), ∀ σ : Mem, p_X12_isDone_B172 x1 x2 x3 σ = some res → V G 8 4 X ((some (.int res.1)), res.2) σ [(0, .ref (ga G 65)), (2, .int x2), (3, .int x3)] [] 172 := by
    intro x2 x3 σ h
    unfold p_X12_isDone_B172 at h
    refine v_blk hC (is := [(.aload_n 0, 0)]) (pc' := 173) (ls' := [(0, .ref (ga G 65)), (2, .int x2), (3, .int x3)]) (st' := [.ref (ga G 65)]) (by decide +kernel) rfl ?_
    refine gX12_0 hC lfX12_9 (by decide +kernel) ?_
    refine v_blk hC (is := [(.iload_n 2, 0), (.iconst 2, (2 : Int32))]) (pc' := 178) (ls' := [(0, .ref (ga G 65)), (2, .int x2), (3, .int x3)]) (st' := [.int (2 : Int32), .int x2, .ref (ga G 66)]) (by decide +kernel) rfl ?_
    obtain ⟨v1, s2, e3, h⟩ := bndI h
    refine v_cS (idx := 57) hC ⟨tt_at 1143 (by decide +kernel) rfl, tsX12_of, tnX12_of, tcX12_of, tmX12_of⟩ (c_X12_of e3) (by decide) (by decide) (by decide +kernel) (rest := [.ref (ga G 66)]) rfl rfl (Nat.le_of_ble_eq_true rfl) rfl ?_
    refine v_blk hC (is := [(.iload_n 3, 0)]) (pc' := 182) (ls' := [(0, .ref (ga G 65)), (2, .int x2), (3, .int x3)]) (st' := [.int x3, .int v1, .ref (ga G 66)]) (by decide +kernel) rfl ?_
    refine v_iast hC isA_66 rfl (by decide +kernel) h (fun s4 h => ?_)
    refine v_blk hC (is := [(.iconst 1, (1 : Int32))]) (pc' := 184) (ls' := [(0, .ref (ga G 65)), (2, .int x2), (3, .int x3)]) (st' := [.int (1 : Int32)]) (by decide +kernel) rfl ?_
    exact v_zret hC rfl h (by decide +kernel)
  unfold p_X12_isDone at h
  show V G 8 4 X ((some (.int res.1)), res.2) σ [(0, .ref (ga G 65)), (1, .int x1)] [] 0
  refine v_blk hC (is := [(.aload_n 0, 0)]) (pc' := 1) (ls' := [(0, .ref (ga G 65)), (1, .int x1)]) (st' := [.ref (ga G 65)]) (by decide +kernel) rfl ?_
  refine gX12_8 hC lfX12_22 (by decide +kernel) ?_
  refine v_blk hC (is := [(.iconst 0, (0 : Int32))]) (pc' := 5) (ls' := [(0, .ref (ga G 65)), (1, .int x1)]) (st' := [.int (0 : Int32), .ref (ga G 70)]) (by decide +kernel) rfl ?_
  refine v_iald hC isA_70 rfl (by decide +kernel) h (fun v5 h => ?_)
  refine v_blk hC (is := [(.istore_n 2, 0), (.aload_n 0, 0)]) (pc' := 8) (ls' := [(2, .int v5), (0, .ref (ga G 65)), (1, .int x1)]) (st' := [.ref (ga G 65)]) (by decide +kernel) rfl ?_
  refine gX12_8 hC lfX12_22 (by decide +kernel) ?_
  refine v_blk hC (is := [(.iconst 1, (1 : Int32))]) (pc' := 12) (ls' := [(2, .int v5), (0, .ref (ga G 65)), (1, .int x1)]) (st' := [.int (1 : Int32), .ref (ga G 70)]) (by decide +kernel) rfl ?_
  refine v_iald hC isA_70 rfl (by decide +kernel) h (fun v6 h => ?_)
  refine v_blk hC (is := [(.istore_n 3, 0), (.iload_n 1, 0)]) (pc' := 15) (ls' := [(3, .int v6), (2, .int v5), (0, .ref (ga G 65)), (1, .int x1)]) (st' := [.int x1]) (by decide +kernel) rfl ?_
  by_cases q7 : x1 = (98 : Int32)
  · replace h := br_pos h q7
    refine v_lsw hC (dflt := 197) (ps := #[(98, 120), (108, 170), (112, 49), (115, 81), (119, 188)]) (len := 49) (off := 120) (tgt := 135) (by decide +kernel) (by decide) (by rw [q7]; decide +kernel) (by decide) ?_
    refine v_blk hC (is := [(.aload_n 0, 0), (.iload_n 2, 0)]) (pc' := 137) (ls' := [(3, .int v6), (2, .int v5), (0, .ref (ga G 65)), (1, .int x1)]) (st' := [.int v5, .ref (ga G 65)]) (by decide +kernel) rfl ?_
    obtain ⟨v8, s9, e10, h⟩ := bndI h
    refine v_cV (idx := 53) hC ⟨tt_at 1150 (by decide +kernel) rfl, tiX12_isMan, tvX12_isMan, tnX12_isMan, tcX12_isMan, tmX12_isMan⟩ isO_X12 rfl (c_X12_isMan e10) (by decide) (by decide) (by decide +kernel) (rest := []) rfl rfl (Nat.le_of_ble_eq_true rfl) rfl ?_
    refine v_if_eq hC (off := 30) (tgt := 170) (by decide +kernel) (by decide) h (fun hq h => ?_) (fun hq h => ?_)
    · refine v_blk hC (is := [(.iconst 0, (0 : Int32))]) (pc' := 171) (ls' := [(3, .int v6), (2, .int v5), (0, .ref (ga G 65)), (1, .int x1)]) (st' := [.int (0 : Int32)]) (by decide +kernel) rfl ?_
      exact v_zret hC rfl h (by decide +kernel)
    · refine v_blk hC (is := [(.iload_n 3, 0), (.bipush 9, (9 : Int32))]) (pc' := 146) (ls' := [(3, .int v6), (2, .int v5), (0, .ref (ga G 65)), (1, .int x1)]) (st' := [.int (9 : Int32), .int v6]) (by decide +kernel) rfl ?_
      refine v_icmp_eq hC (off := 26) (tgt := 172) (by decide +kernel) (by decide) h (fun hq h => ?_) (fun hq h => ?_)
      · refine v_sub [2, 1, 0] (ls' := [(0, .ref (ga G 65)), (2, .int v5), (3, .int v6)]) rfl ?_
        exact (hB172 ) _ _ _ h
      · refine v_blk hC (is := [(.iload_n 3, 0)]) (pc' := 150) (ls' := [(3, .int v6), (2, .int v5), (0, .ref (ga G 65)), (1, .int x1)]) (st' := [.int v6]) (by decide +kernel) rfl ?_
        obtain ⟨v11, s12, e13, h⟩ := bndI h
        refine v_cS (idx := 154) hC ⟨tt_at 1157 (by decide +kernel) rfl, tsX12_isBoat, tnX12_isBoat, tcX12_isBoat, tmX12_isBoat⟩ (c_X12_isBoat e13) (by decide) (by decide) (by decide +kernel) (rest := []) rfl rfl (Nat.le_of_ble_eq_true rfl) rfl ?_
        refine v_if_eq hC (off := 17) (tgt := 170) (by decide +kernel) (by decide) h (fun hq h => ?_) (fun hq h => ?_)
        · refine v_blk hC (is := [(.iconst 0, (0 : Int32))]) (pc' := 171) (ls' := [(3, .int v6), (2, .int v5), (0, .ref (ga G 65)), (1, .int x1)]) (st' := [.int (0 : Int32)]) (by decide +kernel) rfl ?_
          exact v_zret hC rfl h (by decide +kernel)
        · refine v_blk hC (is := [(.aload_n 0, 0)]) (pc' := 157) (ls' := [(3, .int v6), (2, .int v5), (0, .ref (ga G 65)), (1, .int x1)]) (st' := [.ref (ga G 65)]) (by decide +kernel) rfl ?_
          refine gX12_0 hC lfX12_9 (by decide +kernel) ?_
          refine v_blk hC (is := [(.iload_n 2, 0), (.iconst 3, (3 : Int32))]) (pc' := 162) (ls' := [(3, .int v6), (2, .int v5), (0, .ref (ga G 65)), (1, .int x1)]) (st' := [.int (3 : Int32), .int v5, .ref (ga G 66)]) (by decide +kernel) rfl ?_
          obtain ⟨v14, s15, e16, h⟩ := bndI h
          refine v_cS (idx := 57) hC ⟨tt_at 1143 (by decide +kernel) rfl, tsX12_of, tnX12_of, tcX12_of, tmX12_of⟩ (c_X12_of e16) (by decide) (by decide) (by decide +kernel) (rest := [.ref (ga G 66)]) rfl rfl (Nat.le_of_ble_eq_true rfl) rfl ?_
          refine v_iald hC isA_66 rfl (by decide +kernel) h (fun v17 h => ?_)
          refine v_blk hC (is := [(.iconst 1, (1 : Int32))]) (pc' := 167) (ls' := [(3, .int v6), (2, .int v5), (0, .ref (ga G 65)), (1, .int x1)]) (st' := [.int (1 : Int32), .int v17]) (by decide +kernel) rfl ?_
          refine v_icmp_ne hC (off := 5) (tgt := 172) (by decide +kernel) (by decide) h (fun hq h => ?_) (fun hq h => ?_)
          · refine v_sub [2, 1, 0] (ls' := [(0, .ref (ga G 65)), (2, .int v5), (3, .int v6)]) rfl ?_
            exact (hB172 ) _ _ _ h
          · refine v_blk hC (is := [(.iconst 0, (0 : Int32))]) (pc' := 171) (ls' := [(3, .int v6), (2, .int v5), (0, .ref (ga G 65)), (1, .int x1)]) (st' := [.int (0 : Int32)]) (by decide +kernel) rfl ?_
            exact v_zret hC rfl h (by decide +kernel)
  replace h := br_neg h q7
  by_cases q18 : x1 = (108 : Int32)
  · replace h := br_pos h q18
    refine v_lsw hC (dflt := 197) (ps := #[(98, 120), (108, 170), (112, 49), (115, 81), (119, 188)]) (len := 49) (off := 170) (tgt := 185) (by decide +kernel) (by decide) (by refine (lv_osw q7 (by decide)).trans ?_; rw [q18]; decide +kernel) (by decide) ?_
    refine v_blk hC (is := [(.aload_n 0, 0)]) (pc' := 186) (ls' := [(3, .int v6), (2, .int v5), (0, .ref (ga G 65)), (1, .int x1)]) (st' := [.ref (ga G 65)]) (by decide +kernel) rfl ?_
    refine gX12_0 hC lfX12_9 (by decide +kernel) ?_
    refine v_blk hC (is := [(.iconst 1, (1 : Int32)), (.iload_n 2, 0)]) (pc' := 191) (ls' := [(3, .int v6), (2, .int v5), (0, .ref (ga G 65)), (1, .int x1)]) (st' := [.int v5, .int (1 : Int32), .ref (ga G 66)]) (by decide +kernel) rfl ?_
    refine v_iast hC isA_66 rfl (by decide +kernel) h (fun s19 h => ?_)
    refine v_blk hC (is := [(.iload_n 2, 0), (.iconst 3, (3 : Int32))]) (pc' := 194) (ls' := [(3, .int v6), (2, .int v5), (0, .ref (ga G 65)), (1, .int x1)]) (st' := [.int (3 : Int32), .int v5]) (by decide +kernel) rfl ?_
    refine v_icmp_gt hC (off := 7) (tgt := 201) (by decide +kernel) (by decide) h (fun hq h => ?_) (fun hq h => ?_)
    · refine v_blk hC (is := [(.iconst 0, (0 : Int32))]) (pc' := 202) (ls' := [(3, .int v6), (2, .int v5), (0, .ref (ga G 65)), (1, .int x1)]) (st' := [.int (0 : Int32)]) (by decide +kernel) rfl ?_
      exact v_zret hC rfl h (by decide +kernel)
    · refine v_blk hC (is := [(.iconst 1, (1 : Int32))]) (pc' := 198) (ls' := [(3, .int v6), (2, .int v5), (0, .ref (ga G 65)), (1, .int x1)]) (st' := [.int (1 : Int32)]) (by decide +kernel) rfl ?_
      refine v_goto hC (off := 4) (tgt := 202) (by decide +kernel) (by decide) ?_
      exact v_zret hC rfl h (by decide +kernel)
  replace h := br_neg h q18
  by_cases q20 : x1 = (112 : Int32)
  · replace h := br_pos h q20
    refine v_lsw hC (dflt := 197) (ps := #[(98, 120), (108, 170), (112, 49), (115, 81), (119, 188)]) (len := 49) (off := 49) (tgt := 64) (by decide +kernel) (by decide) (by refine (lv_osw q7 (by decide)).trans ?_; refine (lv_osw q18 (by decide)).trans ?_; rw [q20]; decide +kernel) (by decide) ?_
    refine v_blk hC (is := [(.iload_n 2, 0), (.bipush 8, (8 : Int32))]) (pc' := 67) (ls' := [(3, .int v6), (2, .int v5), (0, .ref (ga G 65)), (1, .int x1)]) (st' := [.int (8 : Int32), .int v5]) (by decide +kernel) rfl ?_
    refine v_icmp_ge hC (off := 14) (tgt := 81) (by decide +kernel) (by decide) h (fun hq h => ?_) (fun hq h => ?_)
    · refine v_blk hC (is := [(.iconst 0, (0 : Int32))]) (pc' := 82) (ls' := [(3, .int v6), (2, .int v5), (0, .ref (ga G 65)), (1, .int x1)]) (st' := [.int (0 : Int32)]) (by decide +kernel) rfl ?_
      exact v_zret hC rfl h (by decide +kernel)
    · refine v_blk hC (is := [(.aload_n 0, 0)]) (pc' := 71) (ls' := [(3, .int v6), (2, .int v5), (0, .ref (ga G 65)), (1, .int x1)]) (st' := [.ref (ga G 65)]) (by decide +kernel) rfl ?_
      refine gX12_0 hC lfX12_9 (by decide +kernel) ?_
      refine v_blk hC (is := [(.iconst 0, (0 : Int32))]) (pc' := 75) (ls' := [(3, .int v6), (2, .int v5), (0, .ref (ga G 65)), (1, .int x1)]) (st' := [.int (0 : Int32), .ref (ga G 66)]) (by decide +kernel) rfl ?_
      refine v_iald hC isA_66 rfl (by decide +kernel) h (fun v21 h => ?_)
      refine v_blk hC (is := [(.bipush 8, (8 : Int32))]) (pc' := 78) (ls' := [(3, .int v6), (2, .int v5), (0, .ref (ga G 65)), (1, .int x1)]) (st' := [.int (8 : Int32), .int v21]) (by decide +kernel) rfl ?_
      refine v_icmp_ne hC (off := 5) (tgt := 83) (by decide +kernel) (by decide) h (fun hq h => ?_) (fun hq h => ?_)
      · refine v_blk hC (is := [(.aload_n 0, 0)]) (pc' := 84) (ls' := [(3, .int v6), (2, .int v5), (0, .ref (ga G 65)), (1, .int x1)]) (st' := [.ref (ga G 65)]) (by decide +kernel) rfl ?_
        refine gX12_0 hC lfX12_9 (by decide +kernel) ?_
        refine v_blk hC (is := [(.iload_n 2, 0), (.iload_n 3, 0), (.bipush 9, (9 : Int32))]) (pc' := 91) (ls' := [(3, .int v6), (2, .int v5), (0, .ref (ga G 65)), (1, .int x1)]) (st' := [.int (9 : Int32), .int v6, .int v5, .ref (ga G 66)]) (by decide +kernel) rfl ?_
        obtain ⟨v22, s23, e24, h⟩ := bndI h
        refine v_cS (idx := 147) hC ⟨tt_at 1140 (by decide +kernel) rfl, tsX12_adds, tnX12_adds, tcX12_adds, tmX12_adds⟩ (c_X12_adds row66 e24) (by decide) (by decide) (by decide +kernel) (rest := []) rfl rfl (Nat.le_of_ble_eq_true rfl) rfl ?_
        refine v_blk hC (is := [(.iconst 1, (1 : Int32))]) (pc' := 95) (ls' := [(3, .int v6), (2, .int v5), (0, .ref (ga G 65)), (1, .int x1)]) (st' := [.int (1 : Int32)]) (by decide +kernel) rfl ?_
        exact v_zret hC rfl h (by decide +kernel)
      · refine v_blk hC (is := [(.iconst 0, (0 : Int32))]) (pc' := 82) (ls' := [(3, .int v6), (2, .int v5), (0, .ref (ga G 65)), (1, .int x1)]) (st' := [.int (0 : Int32)]) (by decide +kernel) rfl ?_
        exact v_zret hC rfl h (by decide +kernel)
  replace h := br_neg h q20
  by_cases q25 : x1 = (115 : Int32)
  · replace h := br_pos h q25
    refine v_lsw hC (dflt := 197) (ps := #[(98, 120), (108, 170), (112, 49), (115, 81), (119, 188)]) (len := 49) (off := 81) (tgt := 96) (by decide +kernel) (by decide) (by refine (lv_osw q7 (by decide)).trans ?_; refine (lv_osw q18 (by decide)).trans ?_; refine (lv_osw q20 (by decide)).trans ?_; rw [q25]; decide +kernel) (by decide) ?_
    refine v_blk hC (is := [(.aload_n 0, 0), (.iload_n 2, 0), (.iload_n 3, 0)]) (pc' := 99) (ls' := [(3, .int v6), (2, .int v5), (0, .ref (ga G 65)), (1, .int x1)]) (st' := [.int v6, .int v5, .ref (ga G 65)]) (by decide +kernel) rfl ?_
    obtain ⟨v26, s27, e28, h⟩ := bndI h
    refine v_cV (idx := 151) hC ⟨tt_at 1146 (by decide +kernel) rfl, tiX12_areTwo, tvX12_areTwo, tnX12_areTwo, tcX12_areTwo, tmX12_areTwo⟩ isO_X12 rfl (c_X12_areTwo e28) (by decide) (by decide) (by decide +kernel) (rest := []) rfl rfl (Nat.le_of_ble_eq_true rfl) rfl ?_
    refine v_if_eq hC (off := 13) (tgt := 115) (by decide +kernel) (by decide) h (fun hq h => ?_) (fun hq h => ?_)
    · refine v_blk hC (is := [(.iconst 0, (0 : Int32))]) (pc' := 116) (ls' := [(3, .int v6), (2, .int v5), (0, .ref (ga G 65)), (1, .int x1)]) (st' := [.int (0 : Int32)]) (by decide +kernel) rfl ?_
      exact v_zret hC rfl h (by decide +kernel)
    · refine v_blk hC (is := [(.aload_n 0, 0)]) (pc' := 106) (ls' := [(3, .int v6), (2, .int v5), (0, .ref (ga G 65)), (1, .int x1)]) (st' := [.ref (ga G 65)]) (by decide +kernel) rfl ?_
      refine gX12_8 hC lfX12_22 (by decide +kernel) ?_
      refine v_blk hC (is := [(.iconst 2, (2 : Int32))]) (pc' := 110) (ls' := [(3, .int v6), (2, .int v5), (0, .ref (ga G 65)), (1, .int x1)]) (st' := [.int (2 : Int32), .ref (ga G 70)]) (by decide +kernel) rfl ?_
      refine v_iald hC isA_70 rfl (by decide +kernel) h (fun v29 h => ?_)
      refine v_blk hC (is := [(.iconst 3, (3 : Int32))]) (pc' := 112) (ls' := [(3, .int v6), (2, .int v5), (0, .ref (ga G 65)), (1, .int x1)]) (st' := [.int (3 : Int32), .int v29]) (by decide +kernel) rfl ?_
      refine v_icmp_le hC (off := 5) (tgt := 117) (by decide +kernel) (by decide) h (fun hq h => ?_) (fun hq h => ?_)
      · refine v_blk hC (is := [(.aload_n 0, 0)]) (pc' := 118) (ls' := [(3, .int v6), (2, .int v5), (0, .ref (ga G 65)), (1, .int x1)]) (st' := [.ref (ga G 65)]) (by decide +kernel) rfl ?_
        refine gX12_0 hC lfX12_9 (by decide +kernel) ?_
        refine v_blk hC (is := [(.iload_n 2, 0), (.iload_n 3, 0)]) (pc' := 123) (ls' := [(3, .int v6), (2, .int v5), (0, .ref (ga G 65)), (1, .int x1)]) (st' := [.int v6, .int v5, .ref (ga G 66)]) (by decide +kernel) rfl ?_
        obtain ⟨v30, s31, e32, h⟩ := bndI h
        refine v_cS (idx := 71) hC ⟨tt_at 1154 (by decide +kernel) rfl, tsX12_by, tnX12_by, tcX12_by, tmX12_by⟩ (c_X12_by e32) (by decide) (by decide) (by decide +kernel) (rest := [.ref (ga G 66)]) rfl rfl (Nat.le_of_ble_eq_true rfl) rfl ?_
        refine v_blk hC (is := [(.aload_n 0, 0)]) (pc' := 127) (ls' := [(3, .int v6), (2, .int v5), (0, .ref (ga G 65)), (1, .int x1)]) (st' := [.ref (ga G 65), .int v30, .ref (ga G 66)]) (by decide +kernel) rfl ?_
        refine gX12_8 hC lfX12_22 (by decide +kernel) ?_
        refine v_blk hC (is := [(.iconst 2, (2 : Int32))]) (pc' := 131) (ls' := [(3, .int v6), (2, .int v5), (0, .ref (ga G 65)), (1, .int x1)]) (st' := [.int (2 : Int32), .ref (ga G 70), .int v30, .ref (ga G 66)]) (by decide +kernel) rfl ?_
        refine v_iald hC isA_70 rfl (by decide +kernel) h (fun v33 h => ?_)
        refine v_iast hC isA_66 rfl (by decide +kernel) h (fun s34 h => ?_)
        refine v_blk hC (is := [(.iconst 1, (1 : Int32))]) (pc' := 134) (ls' := [(3, .int v6), (2, .int v5), (0, .ref (ga G 65)), (1, .int x1)]) (st' := [.int (1 : Int32)]) (by decide +kernel) rfl ?_
        exact v_zret hC rfl h (by decide +kernel)
      · refine v_blk hC (is := [(.iconst 0, (0 : Int32))]) (pc' := 116) (ls' := [(3, .int v6), (2, .int v5), (0, .ref (ga G 65)), (1, .int x1)]) (st' := [.int (0 : Int32)]) (by decide +kernel) rfl ?_
        exact v_zret hC rfl h (by decide +kernel)
  replace h := br_neg h q25
  by_cases q35 : x1 = (119 : Int32)
  · replace h := br_pos h q35
    refine v_lsw hC (dflt := 197) (ps := #[(98, 120), (108, 170), (112, 49), (115, 81), (119, 188)]) (len := 49) (off := 188) (tgt := 203) (by decide +kernel) (by decide) (by refine (lv_osw q7 (by decide)).trans ?_; refine (lv_osw q18 (by decide)).trans ?_; refine (lv_osw q20 (by decide)).trans ?_; refine (lv_osw q25 (by decide)).trans ?_; rw [q35]; decide +kernel) (by decide) ?_
    refine v_blk hC (is := [(.aload_n 0, 0)]) (pc' := 204) (ls' := [(3, .int v6), (2, .int v5), (0, .ref (ga G 65)), (1, .int x1)]) (st' := [.ref (ga G 65)]) (by decide +kernel) rfl ?_
    refine gX12_0 hC lfX12_9 (by decide +kernel) ?_
    refine v_blk hC (is := [(.iconst 2, (2 : Int32)), (.iload_n 2, 0)]) (pc' := 209) (ls' := [(3, .int v6), (2, .int v5), (0, .ref (ga G 65)), (1, .int x1)]) (st' := [.int v5, .int (2 : Int32), .ref (ga G 66)]) (by decide +kernel) rfl ?_
    refine v_iast hC isA_66 rfl (by decide +kernel) h (fun s36 h => ?_)
    refine v_blk hC (is := [(.iconst 1, (1 : Int32))]) (pc' := 211) (ls' := [(3, .int v6), (2, .int v5), (0, .ref (ga G 65)), (1, .int x1)]) (st' := [.int (1 : Int32)]) (by decide +kernel) rfl ?_
    exact v_zret hC rfl h (by decide +kernel)
  replace h := br_neg h q35
  refine v_lsw hC (dflt := 197) (ps := #[(98, 120), (108, 170), (112, 49), (115, 81), (119, 188)]) (len := 49) (off := 197) (tgt := 212) (by decide +kernel) (by decide) (by refine (lv_osw q7 (by decide)).trans ?_; refine (lv_osw q18 (by decide)).trans ?_; refine (lv_osw q20 (by decide)).trans ?_; refine (lv_osw q25 (by decide)).trans ?_; refine (lv_osw q35 (by decide)).trans ?_; rfl) (by decide) ?_
  refine v_blk hC (is := [(.iload_n 2, 0), (.iconst 1, (1 : Int32)), (.bipush 60, (60 : Int32))]) (pc' := 216) (ls' := [(3, .int v6), (2, .int v5), (0, .ref (ga G 65)), (1, .int x1)]) (st' := [.int (60 : Int32), .int (1 : Int32), .int v5]) (by decide +kernel) rfl ?_
  obtain ⟨v37, s38, e39, h⟩ := bndI h
  refine v_cS (idx := 49) hC ⟨tt_at 1118 (by decide +kernel) rfl, tsX12_isIn, tnX12_isIn, tcX12_isIn, tmX12_isIn⟩ (c_X12_isIn e39) (by decide) (by decide) (by decide +kernel) (rest := []) rfl rfl (Nat.le_of_ble_eq_true rfl) rfl ?_
  refine v_if_eq hC (off := 17) (tgt := 236) (by decide +kernel) (by decide) h (fun hq h => ?_) (fun hq h => ?_)
  · refine v_blk hC (is := [(.iconst 0, (0 : Int32))]) (pc' := 237) (ls' := [(3, .int v6), (2, .int v5), (0, .ref (ga G 65)), (1, .int x1)]) (st' := [.int (0 : Int32)]) (by decide +kernel) rfl ?_
    exact v_zret hC rfl h (by decide +kernel)
  · refine v_blk hC (is := [(.aload_n 0, 0)]) (pc' := 223) (ls' := [(3, .int v6), (2, .int v5), (0, .ref (ga G 65)), (1, .int x1)]) (st' := [.ref (ga G 65)]) (by decide +kernel) rfl ?_
    refine gX12_0 hC lfX12_9 (by decide +kernel) ?_
    refine v_blk hC (is := [(.iconst 3, (3 : Int32))]) (pc' := 227) (ls' := [(3, .int v6), (2, .int v5), (0, .ref (ga G 65)), (1, .int x1)]) (st' := [.int (3 : Int32), .ref (ga G 66)]) (by decide +kernel) rfl ?_
    refine v_iald hC isA_66 rfl (by decide +kernel) h (fun v40 h => ?_)
    refine v_blk hC (is := [(.iload_n 2, 0), (.iadd, 0), (.sipush 999, (999 : Int32))]) (pc' := 233) (ls' := [(3, .int v6), (2, .int v5), (0, .ref (ga G 65)), (1, .int x1)]) (st' := [.int (999 : Int32), .int (v40 + v5)]) (by decide +kernel) rfl ?_
    refine v_icmp_le hC (off := 5) (tgt := 238) (by decide +kernel) (by decide) h (fun hq h => ?_) (fun hq h => ?_)
    · refine v_blk hC (is := [(.aload_n 0, 0)]) (pc' := 239) (ls' := [(3, .int v6), (2, .int v5), (0, .ref (ga G 65)), (1, .int x1)]) (st' := [.ref (ga G 65)]) (by decide +kernel) rfl ?_
      refine gX12_0 hC lfX12_9 (by decide +kernel) ?_
      refine v_blk hC (is := [(.iload_n 2, 0)]) (pc' := 243) (ls' := [(3, .int v6), (2, .int v5), (0, .ref (ga G 65)), (1, .int x1)]) (st' := [.int v5, .ref (ga G 66)]) (by decide +kernel) rfl ?_
      obtain ⟨v41, s42, e43, h⟩ := bndI h
      refine v_cS (idx := 123) hC ⟨tt_at 1160 (by decide +kernel) rfl, tsX12_seasonsOn, tnX12_seasonsOn, tcX12_seasonsOn, tmX12_seasonsOn⟩ (c_X12_seasonsOn row66 e43) (by decide) (by decide) (by decide +kernel) (rest := []) rfl rfl (Nat.le_of_ble_eq_true rfl) rfl ?_
      refine v_blk hC (is := [(.iconst 1, (1 : Int32))]) (pc' := 247) (ls' := [(3, .int v6), (2, .int v5), (0, .ref (ga G 65)), (1, .int x1)]) (st' := [.int (1 : Int32)]) (by decide +kernel) rfl ?_
      exact v_zret hC rfl h (by decide +kernel)
    · refine v_blk hC (is := [(.iconst 0, (0 : Int32))]) (pc' := 237) (ls' := [(3, .int v6), (2, .int v5), (0, .ref (ga G 65)), (1, .int x1)]) (st' := [.int (0 : Int32)]) (by decide +kernel) rfl ?_
      exact v_zret hC rfl h (by decide +kernel)

def p_X12_isShelf (x0 : Int32) (σ : Mem) : Option (Int32 × Mem) := (bnd (p_X12_isIn x0 (0 : Int32) (7 : Int32) σ) fun v1 s2 => rz v1 s2)
set_option maxHeartbeats 4000000 in
set_option maxRecDepth 100000 in
theorem c_X12_isShelf {G : Gl} {x0 : Int32} {σ : Mem} {res : Int32 × Mem}  (h : p_X12_isShelf x0 σ = some res) : MetX G yX12_isShelf cX12_isShelf 1 (some .boolean) 2 [.int x0] σ (some (.int res.1)) res.2 := by
  refine met_V (by decide +kernel) (Nat.le_of_ble_eq_true rfl) (fun X hC => ?_)
  have hC : Ok G 2 1 X cX12_isShelf RX12 (some .boolean) := hC
  unfold p_X12_isShelf at h
  show V G 2 1 X ((some (.int res.1)), res.2) σ [(0, .int x0)] [] 0
  refine v_blk hC (is := [(.iload_n 0, 0), (.iconst 0, (0 : Int32)), (.bipush 7, (7 : Int32))]) (pc' := 4) (ls' := [(0, .int x0)]) (st' := [.int (7 : Int32), .int (0 : Int32), .int x0]) (by decide +kernel) rfl ?_
  obtain ⟨v1, s2, e3, h⟩ := bndI h
  refine v_cS (idx := 49) hC ⟨tt_at 1118 (by decide +kernel) rfl, tsX12_isIn, tnX12_isIn, tcX12_isIn, tmX12_isIn⟩ (c_X12_isIn e3) (by decide) (by decide) (by decide +kernel) (rest := []) rfl rfl (Nat.le_of_ble_eq_true rfl) rfl ?_
  exact v_zretC hC h (by decide +kernel)

def p_X12_wrongRow_B49  (x1 : Int32) (x2 : Int32)  (σ : Mem) : Option (Int32 × Mem) := some ((-12 : Int32), σ)
def p_X12_wrongRow (x1 : Int32) (x2 : Int32) (σ : Mem) : Option (Int32 × Mem) := (bnd (p_X12_isShelf x1 σ) fun v1 s2 => (if v1 = 0 then some ((-1 : Int32), s2) else (if x1 < 0 ∨ 8 ≤ (x1).toNatClampNeg then none else lt (s2 73 (x1).toNatClampNeg) fun v4 => (if v4 = 0 then some ((-11 : Int32), s2) else (if x1 < 0 ∨ 8 ≤ (x1).toNatClampNeg then none else lt (s2 73 (x1).toNatClampNeg) fun v5 => (if v5 = (2 : Int32) then (if x2 < 0 then some ((0 : Int32), s2) else (if x1 < 0 ∨ 8 ≤ (x1).toNatClampNeg then none else lt (s2 76 (x1).toNatClampNeg) fun v6 => (if v6 = x2 then some ((0 : Int32), s2) else (p_X12_wrongRow_B49 x1 x2) s2))) else (p_X12_wrongRow_B49 x1 x2) s2))))))
set_option maxHeartbeats 4000000 in
set_option maxRecDepth 100000 in
theorem c_X12_wrongRow {G : Gl} {x1 : Int32} {x2 : Int32} {σ : Mem} {res : Int32 × Mem}  (h : p_X12_wrongRow x1 x2 σ = some res) : MetX G yX12_wrongRow cX12_wrongRow 3 (some .int) 3 [.ref (ga G 65), .int x1, .int x2] σ (some (.int res.1)) res.2 := by
  refine met_V (by decide +kernel) (Nat.le_of_ble_eq_true rfl) (fun X hC => ?_)
  have hC : Ok G 3 3 X cX12_wrongRow RX12 (some .int) := hC
  have hB49 : ∀ σ : Mem, p_X12_wrongRow_B49 x1 x2 σ = some res → V G 3 3 X ((some (.int res.1)), res.2) σ [] [] 49 := by
    intro  σ h
    unfold p_X12_wrongRow_B49 at h
    refine v_blk hC (is := [(.bipush (-12), (-12 : Int32))]) (pc' := 51) (ls' := []) (st' := [.int (-12 : Int32)]) (by decide +kernel) rfl ?_
    refine v_goto hC (off := 4) (tgt := 55) (by decide +kernel) (by decide) ?_
    exact v_iret hC h (by decide +kernel)
  unfold p_X12_wrongRow at h
  show V G 3 3 X ((some (.int res.1)), res.2) σ [(0, .ref (ga G 65)), (1, .int x1), (2, .int x2)] [] 0
  refine v_blk hC (is := [(.iload_n 1, 0)]) (pc' := 1) (ls' := [(0, .ref (ga G 65)), (1, .int x1), (2, .int x2)]) (st' := [.int x1]) (by decide +kernel) rfl ?_
  obtain ⟨v1, s2, e3, h⟩ := bndI h
  refine v_cS (idx := 248) hC ⟨tt_at 1115 (by decide +kernel) rfl, tsX12_isShelf, tnX12_isShelf, tcX12_isShelf, tmX12_isShelf⟩ (c_X12_isShelf e3) (by decide) (by decide) (by decide +kernel) (rest := []) rfl rfl (Nat.le_of_ble_eq_true rfl) rfl ?_
  refine v_if_ne hC (off := 7) (tgt := 11) (by decide +kernel) (by decide) h (fun hq h => ?_) (fun hq h => ?_)
  · refine v_blk hC (is := [(.aload_n 0, 0)]) (pc' := 12) (ls' := [(0, .ref (ga G 65)), (1, .int x1), (2, .int x2)]) (st' := [.ref (ga G 65)]) (by decide +kernel) rfl ?_
    refine gX12_12 hC lfX12_31 (by decide +kernel) ?_
    refine v_blk hC (is := [(.iload_n 1, 0)]) (pc' := 16) (ls' := [(0, .ref (ga G 65)), (1, .int x1), (2, .int x2)]) (st' := [.int x1, .ref (ga G 73)]) (by decide +kernel) rfl ?_
    refine v_iald hC isA_73 rfl (by decide +kernel) h (fun v4 h => ?_)
    refine v_if_ne hC (off := 8) (tgt := 25) (by decide +kernel) (by decide) h (fun hq h => ?_) (fun hq h => ?_)
    · refine v_blk hC (is := [(.aload_n 0, 0)]) (pc' := 26) (ls' := [(0, .ref (ga G 65)), (1, .int x1), (2, .int x2)]) (st' := [.ref (ga G 65)]) (by decide +kernel) rfl ?_
      refine gX12_12 hC lfX12_31 (by decide +kernel) ?_
      refine v_blk hC (is := [(.iload_n 1, 0)]) (pc' := 30) (ls' := [(0, .ref (ga G 65)), (1, .int x1), (2, .int x2)]) (st' := [.int x1, .ref (ga G 73)]) (by decide +kernel) rfl ?_
      refine v_iald hC isA_73 rfl (by decide +kernel) h (fun v5 h => ?_)
      refine v_blk hC (is := [(.iconst 2, (2 : Int32))]) (pc' := 32) (ls' := [(0, .ref (ga G 65)), (1, .int x1), (2, .int x2)]) (st' := [.int (2 : Int32), .int v5]) (by decide +kernel) rfl ?_
      refine v_icmp_ne hC (off := 17) (tgt := 49) (by decide +kernel) (by decide) h (fun hq h => ?_) (fun hq h => ?_)
      · refine v_sub [] (ls' := []) rfl ?_
        exact (hB49 ) _ h
      · refine v_blk hC (is := [(.iload_n 2, 0)]) (pc' := 36) (ls' := [(0, .ref (ga G 65)), (1, .int x1), (2, .int x2)]) (st' := [.int x2]) (by decide +kernel) rfl ?_
        refine v_if_lt hC (off := 18) (tgt := 54) (by decide +kernel) (by decide) h (fun hq h => ?_) (fun hq h => ?_)
        · refine v_blk hC (is := [(.iconst 0, (0 : Int32))]) (pc' := 55) (ls' := [(0, .ref (ga G 65)), (1, .int x1), (2, .int x2)]) (st' := [.int (0 : Int32)]) (by decide +kernel) rfl ?_
          exact v_iret hC h (by decide +kernel)
        · refine v_blk hC (is := [(.aload_n 0, 0)]) (pc' := 40) (ls' := [(0, .ref (ga G 65)), (1, .int x1), (2, .int x2)]) (st' := [.ref (ga G 65)]) (by decide +kernel) rfl ?_
          refine gX12_15 hC lfX12_40 (by decide +kernel) ?_
          refine v_blk hC (is := [(.iload_n 1, 0)]) (pc' := 44) (ls' := [(0, .ref (ga G 65)), (1, .int x1), (2, .int x2)]) (st' := [.int x1, .ref (ga G 76)]) (by decide +kernel) rfl ?_
          refine v_iald hC isA_76 rfl (by decide +kernel) h (fun v6 h => ?_)
          refine v_blk hC (is := [(.iload_n 2, 0)]) (pc' := 46) (ls' := [(0, .ref (ga G 65)), (1, .int x1), (2, .int x2)]) (st' := [.int x2, .int v6]) (by decide +kernel) rfl ?_
          refine v_icmp_eq hC (off := 8) (tgt := 54) (by decide +kernel) (by decide) h (fun hq h => ?_) (fun hq h => ?_)
          · refine v_blk hC (is := [(.iconst 0, (0 : Int32))]) (pc' := 55) (ls' := [(0, .ref (ga G 65)), (1, .int x1), (2, .int x2)]) (st' := [.int (0 : Int32)]) (by decide +kernel) rfl ?_
            exact v_iret hC h (by decide +kernel)
          · refine v_sub [] (ls' := []) rfl ?_
            exact (hB49 ) _ h
    · refine v_blk hC (is := [(.bipush (-11), (-11 : Int32))]) (pc' := 22) (ls' := [(0, .ref (ga G 65)), (1, .int x1), (2, .int x2)]) (st' := [.int (-11 : Int32)]) (by decide +kernel) rfl ?_
      refine v_goto hC (off := 33) (tgt := 55) (by decide +kernel) (by decide) ?_
      exact v_iret hC h (by decide +kernel)
  · refine v_blk hC (is := [(.iconst (-1), (-1 : Int32))]) (pc' := 8) (ls' := [(0, .ref (ga G 65)), (1, .int x1), (2, .int x2)]) (st' := [.int (-1 : Int32)]) (by decide +kernel) rfl ?_
    refine v_goto hC (off := 47) (tgt := 55) (by decide +kernel) (by decide) ?_
    exact v_iret hC h (by decide +kernel)

def p_X12_cape_B161  (x1 : Int32) (x3 : Int32) (x4 : Int32) (σ : Mem) : Option (Int32 × Mem) := (if x4 = 0 then some (x3, σ) else some (x4, σ))
def p_X12_cape_B93 (k93 : Int32 → Int32 → Mem → Option (Int32 × Mem)) (k161 : Int32 → Int32 → Mem → Option (Int32 × Mem)) (x1 : Int32) (x3 : Int32) (x4 : Int32) (σ : Mem) : Option (Int32 × Mem) := (if x4 = 0 then (lt (σ 65 5) fun v1 => (lt (σ 65 7) fun v2 => (if v2 ≤ v1 then k161 x3 x4 σ else (lt (σ 65 5) fun v3 => (bnd (p_X12_here σ) fun v4 s5 => (bnd (p_X12_readsStatement s5) fun v7 s8 => (bnd (p_X12_isDone v4 s8) fun v10 s11 => (if v10 = 0 then (bnd (p_X12_copies 69 66 s11) fun (v13 : Unit) s14 => k93 x3 ((-2000 : Int32) - v3) s14) else k93 x3 x4 s11)))))))) else k161 x3 x4 σ)
def p_X12_cape_L93 (k161 : Int32 → Int32 → Mem → Option (Int32 × Mem)) (x1 : Int32) : Nat → Int32 → Int32 → Mem → Option (Int32 × Mem)
  | 0 => fun _ _ _ => none
  | f + 1 => p_X12_cape_B93 (p_X12_cape_L93 k161 x1 f) k161 x1
def p_X12_cape_B77  (x1 : Int32) (x3 : Int32) (x4 : Int32) (σ : Mem) : Option (Int32 × Mem) := (bnd (p_X12_copies 66 69 σ) fun (v16 : Unit) s17 => (wr s17 65 5 (0 : Int32) fun s19 => (p_X12_cape_L93 (p_X12_cape_B161 x1) x1 1000) x3 x4 s19))
def p_X12_cape_B58 (k41 : Int32 → Int32 → Mem → Option (Int32 × Mem)) (k77 : Int32 → Int32 → Mem → Option (Int32 × Mem)) (x1 : Int32) (x3 : Int32) (x4 : Int32) (σ : Mem) : Option (Int32 × Mem) := (if x4 = 0 then (lt (σ 65 5) fun v20 => (lt (σ 65 7) fun v21 => (if v20 < v21 then k41 (x3 + (1 : Int32)) x4 σ else k77 (x3 + (1 : Int32)) x4 σ))) else k77 (x3 + (1 : Int32)) x4 σ)
def p_X12_cape_B41 (k41 : Int32 → Int32 → Mem → Option (Int32 × Mem)) (k77 : Int32 → Int32 → Mem → Option (Int32 × Mem)) (x1 : Int32) (x3 : Int32) (x4 : Int32) (σ : Mem) : Option (Int32 × Mem) := (bnd (p_X12_readsStatement σ) fun v22 s23 => (if v22 = 0 then (lt (s23 65 5) fun v25 => (p_X12_cape_B58 k41 k77 x1) x3 ((-1000 : Int32) - v25) s23) else (p_X12_cape_B58 k41 k77 x1) x3 x4 s23))
def p_X12_cape_L41 (k77 : Int32 → Int32 → Mem → Option (Int32 × Mem)) (x1 : Int32) : Nat → Int32 → Int32 → Mem → Option (Int32 × Mem)
  | 0 => fun _ _ _ => none
  | f + 1 => p_X12_cape_B41 (p_X12_cape_L41 k77 x1 f) k77 x1
def p_X12_cape (x1 : Int32) (σ : Mem) : Option (Int32 × Mem) := (bnd (p_X12_wrongRow x1 (0 : Int32) σ) fun v26 s27 => (if v26 = 0 then (wr s27 65 6 ((100 : Int32) * x1) fun s29 => (if x1 < 0 ∨ 8 ≤ (x1).toNatClampNeg then none else lt (s29 77 (x1).toNatClampNeg) fun v30 => (wr s29 65 7 v30 fun s31 => (wr s31 65 5 (0 : Int32) fun s32 => (p_X12_cape_L41 (p_X12_cape_B77 x1) x1 1000) (0 : Int32) (0 : Int32) s32)))) else some (v26, s27)))
set_option maxHeartbeats 4000000 in
set_option maxRecDepth 100000 in
theorem c_X12_cape {G : Gl} {x1 : Int32} {σ : Mem} {res : Int32 × Mem}  (h : p_X12_cape x1 σ = some res) : MetX G yX12_cape cX12_cape 8 (some .int) 9 [.ref (ga G 65), .int x1] σ (some (.int res.1)) res.2 := by
  refine met_V (by decide +kernel) (Nat.le_of_ble_eq_true rfl) (fun X hC => ?_)
  have hC : Ok G 9 8 X cX12_cape RX12 (some .int) := hC
  have hB161 : ∀ (x3 : Int32), ∀ (x4 : Int32), ∀ σ : Mem, p_X12_cape_B161 x1 x3 x4 σ = some res → V G 9 8 X ((some (.int res.1)), res.2) σ [(3, .int x3), (4, .int x4)] [] 161 := by
    intro x3 x4 σ h
    unfold p_X12_cape_B161 at h
    refine v_blk hC (is := [(.iload 4, 0)]) (pc' := 163) (ls' := [(3, .int x3), (4, .int x4)]) (st' := [.int x4]) (by decide +kernel) rfl ?_
    refine v_if_ne hC (off := 7) (tgt := 170) (by decide +kernel) (by decide) h (fun hq h => ?_) (fun hq h => ?_)
    · refine v_blk hC (is := [(.iload 4, 0)]) (pc' := 172) (ls' := [(3, .int x3), (4, .int x4)]) (st' := [.int x4]) (by decide +kernel) rfl ?_
      exact v_iret hC h (by decide +kernel)
    · refine v_blk hC (is := [(.iload_n 3, 0)]) (pc' := 167) (ls' := [(3, .int x3), (4, .int x4)]) (st' := [.int x3]) (by decide +kernel) rfl ?_
      refine v_goto hC (off := 5) (tgt := 172) (by decide +kernel) (by decide) ?_
      exact v_iret hC h (by decide +kernel)
  have hB93 : ∀ (k93 : Int32 → Int32 → Mem → Option (Int32 × Mem)), ∀ (k161 : Int32 → Int32 → Mem → Option (Int32 × Mem)), (∀ (x3 : Int32), ∀ (x4 : Int32), ∀ σ : Mem, k93 x3 x4 σ = some res → V G 9 8 X ((some (.int res.1)), res.2) σ [(0, .ref (ga G 65)), (3, .int x3), (4, .int x4)] [] 93) → (∀ (x3 : Int32), ∀ (x4 : Int32), ∀ σ : Mem, k161 x3 x4 σ = some res → V G 9 8 X ((some (.int res.1)), res.2) σ [(3, .int x3), (4, .int x4)] [] 161) → ∀ (x3 : Int32), ∀ (x4 : Int32), ∀ σ : Mem, p_X12_cape_B93 k93 k161 x1 x3 x4 σ = some res → V G 9 8 X ((some (.int res.1)), res.2) σ [(0, .ref (ga G 65)), (3, .int x3), (4, .int x4)] [] 93 := by
    intro k93 k161 hk93 hk161 x3 x4 σ h
    unfold p_X12_cape_B93 at h
    refine v_blk hC (is := [(.iload 4, 0)]) (pc' := 95) (ls' := [(0, .ref (ga G 65)), (3, .int x3), (4, .int x4)]) (st' := [.int x4]) (by decide +kernel) rfl ?_
    refine v_if_ne hC (off := 66) (tgt := 161) (by decide +kernel) (by decide) h (fun hq h => ?_) (fun hq h => ?_)
    · refine v_sub [1, 2] (ls' := [(3, .int x3), (4, .int x4)]) rfl ?_
      exact hk161 _ _ _ h
    · refine v_blk hC (is := [(.aload_n 0, 0)]) (pc' := 99) (ls' := [(0, .ref (ga G 65)), (3, .int x3), (4, .int x4)]) (st' := [.ref (ga G 65)]) (by decide +kernel) rfl ?_
      refine gX12_5 hC lfX12_130 (by decide +kernel) h (fun v1 h => ?_)
      refine v_blk hC (is := [(.aload_n 0, 0)]) (pc' := 103) (ls' := [(0, .ref (ga G 65)), (3, .int x3), (4, .int x4)]) (st' := [.ref (ga G 65), .int v1]) (by decide +kernel) rfl ?_
      refine gX12_7 hC lfX12_134 (by decide +kernel) h (fun v2 h => ?_)
      refine v_icmp_ge hC (off := 55) (tgt := 161) (by decide +kernel) (by decide) h (fun hq h => ?_) (fun hq h => ?_)
      · refine v_sub [1, 2] (ls' := [(3, .int x3), (4, .int x4)]) rfl ?_
        exact hk161 _ _ _ h
      · refine v_blk hC (is := [(.aload_n 0, 0)]) (pc' := 110) (ls' := [(0, .ref (ga G 65)), (3, .int x3), (4, .int x4)]) (st' := [.ref (ga G 65)]) (by decide +kernel) rfl ?_
        refine gX12_5 hC lfX12_130 (by decide +kernel) h (fun v3 h => ?_)
        refine v_blk hC (is := [(.istore 5, 0), (.aload_n 0, 0)]) (pc' := 116) (ls' := [(5, .int v3), (0, .ref (ga G 65)), (3, .int x3), (4, .int x4)]) (st' := [.ref (ga G 65)]) (by decide +kernel) rfl ?_
        obtain ⟨v4, s5, e6, h⟩ := bndI h
        refine v_cV (idx := 140) hC ⟨tt_at 1125 (by decide +kernel) rfl, tiX12_here, tvX12_here, tnX12_here, tcX12_here, tmX12_here⟩ isO_X12 rfl (c_X12_here e6) (by decide) (by decide) (by decide +kernel) (rest := []) rfl rfl (Nat.le_of_ble_eq_true rfl) rfl ?_
        refine v_blk hC (is := [(.istore 6, 0), (.aload_n 0, 0)]) (pc' := 122) (ls' := [(6, .int v4), (5, .int v3), (0, .ref (ga G 65)), (3, .int x3), (4, .int x4)]) (st' := [.ref (ga G 65)]) (by decide +kernel) rfl ?_
        obtain ⟨v7, s8, e9, h⟩ := bndI h
        refine v_cV (idx := 160) hC ⟨tt_at 1121 (by decide +kernel) rfl, tiX12_readsStatement, tvX12_readsStatement, tnX12_readsStatement, tcX12_readsStatement, tmX12_readsStatement⟩ isO_X12 rfl (c_X12_readsStatement e9) (by decide) (by decide) (by decide +kernel) (rest := []) rfl rfl (Nat.le_of_ble_eq_true rfl) rfl ?_
        refine v_blk hC (is := [(.istore 7, 0), (.aload_n 0, 0), (.iload 6, 0)]) (pc' := 130) (ls' := [(7, .int v7), (6, .int v4), (5, .int v3), (0, .ref (ga G 65)), (3, .int x3), (4, .int x4)]) (st' := [.int v4, .ref (ga G 65)]) (by decide +kernel) rfl ?_
        obtain ⟨v10, s11, e12, h⟩ := bndI h
        refine v_cV (idx := 168) hC ⟨tt_at 1136 (by decide +kernel) rfl, tiX12_isDone, tvX12_isDone, tnX12_isDone, tcX12_isDone, tmX12_isDone⟩ isO_X12 rfl (c_X12_isDone e12) (by decide) (by decide) (by decide +kernel) (rest := []) rfl rfl (Nat.le_of_ble_eq_true rfl) rfl ?_
        refine v_if_eq hC (off := 6) (tgt := 139) (by decide +kernel) (by decide) h (fun hq h => ?_) (fun hq h => ?_)
        · refine v_blk hC (is := [(.sipush (-2000), (-2000 : Int32)), (.iload 5, 0), (.isub, 0), (.istore 4, 0), (.aload_n 0, 0)]) (pc' := 148) (ls' := [(4, .int ((-2000 : Int32) - v3)), (7, .int v7), (6, .int v4), (5, .int v3), (0, .ref (ga G 65)), (3, .int x3)]) (st' := [.ref (ga G 65)]) (by decide +kernel) rfl ?_
          refine gX12_3 hC lfX12_19 (by decide +kernel) ?_
          refine v_blk hC (is := [(.aload_n 0, 0)]) (pc' := 152) (ls' := [(4, .int ((-2000 : Int32) - v3)), (7, .int v7), (6, .int v4), (5, .int v3), (0, .ref (ga G 65)), (3, .int x3)]) (st' := [.ref (ga G 65), .ref (ga G 69)]) (by decide +kernel) rfl ?_
          refine gX12_0 hC lfX12_9 (by decide +kernel) ?_
          obtain ⟨v13, s14, e15, h⟩ := bndI h
          refine v_cS (idx := 164) hC ⟨tt_at 1133 (by decide +kernel) rfl, tsX12_copies, tnX12_copies, tcX12_copies, tmX12_copies⟩ (c_X12_copies row69 row66 e15) (by decide) (by decide) (by decide +kernel) (rest := []) rfl rfl (Nat.le_of_ble_eq_true rfl) rfl ?_
          refine v_goto hC (off := (-65)) (tgt := 93) (by decide +kernel) (by decide) ?_
          refine v_sub [4, 5, 0] (ls' := [(0, .ref (ga G 65)), (3, .int x3), (4, .int ((-2000 : Int32) - v3))]) rfl ?_
          exact hk93 _ _ _ h
        · refine v_goto hC (off := (-43)) (tgt := 93) (by decide +kernel) (by decide) ?_
          refine v_sub [3, 4, 5] (ls' := [(0, .ref (ga G 65)), (3, .int x3), (4, .int x4)]) rfl ?_
          exact hk93 _ _ _ h
  have hL93 : ∀ (k161 : Int32 → Int32 → Mem → Option (Int32 × Mem)), (∀ (x3 : Int32), ∀ (x4 : Int32), ∀ σ : Mem, k161 x3 x4 σ = some res → V G 9 8 X ((some (.int res.1)), res.2) σ [(3, .int x3), (4, .int x4)] [] 161) → ∀ f : Nat, ∀ (x3 : Int32), ∀ (x4 : Int32), ∀ σ : Mem, p_X12_cape_L93 k161 x1 f x3 x4 σ = some res → V G 9 8 X ((some (.int res.1)), res.2) σ [(0, .ref (ga G 65)), (3, .int x3), (4, .int x4)] [] 93 := by
    intro k161 hk161 f
    induction f with
    | zero => intro x3 x4 σ h; exact none_some h
    | succ f ih => intro x3 x4 σ h; exact hB93 (p_X12_cape_L93 k161 x1 f) k161 ih hk161 x3 x4 σ h
  have hB77 : ∀ (x3 : Int32), ∀ (x4 : Int32), ∀ σ : Mem, p_X12_cape_B77 x1 x3 x4 σ = some res → V G 9 8 X ((some (.int res.1)), res.2) σ [(0, .ref (ga G 65)), (3, .int x3), (4, .int x4)] [] 77 := by
    intro x3 x4 σ h
    unfold p_X12_cape_B77 at h
    refine v_blk hC (is := [(.aload_n 0, 0)]) (pc' := 78) (ls' := [(0, .ref (ga G 65)), (3, .int x3), (4, .int x4)]) (st' := [.ref (ga G 65)]) (by decide +kernel) rfl ?_
    refine gX12_0 hC lfX12_9 (by decide +kernel) ?_
    refine v_blk hC (is := [(.aload_n 0, 0)]) (pc' := 82) (ls' := [(0, .ref (ga G 65)), (3, .int x3), (4, .int x4)]) (st' := [.ref (ga G 65), .ref (ga G 66)]) (by decide +kernel) rfl ?_
    refine gX12_3 hC lfX12_19 (by decide +kernel) ?_
    obtain ⟨v16, s17, e18, h⟩ := bndI h
    refine v_cS (idx := 164) hC ⟨tt_at 1133 (by decide +kernel) rfl, tsX12_copies, tnX12_copies, tcX12_copies, tmX12_copies⟩ (c_X12_copies row66 row69 e18) (by decide) (by decide) (by decide +kernel) (rest := []) rfl rfl (Nat.le_of_ble_eq_true rfl) rfl ?_
    refine v_blk hC (is := [(.aload_n 0, 0), (.iconst 0, (0 : Int32))]) (pc' := 90) (ls' := [(0, .ref (ga G 65)), (3, .int x3), (4, .int x4)]) (st' := [.int (0 : Int32), .ref (ga G 65)]) (by decide +kernel) rfl ?_
    refine pX12_5 hC lfX12_130 (by decide +kernel) h (fun s19 h => ?_)
    exact (hL93 _ (hB161 ) 1000) _ _ _ h
  have hB58 : ∀ (k41 : Int32 → Int32 → Mem → Option (Int32 × Mem)), ∀ (k77 : Int32 → Int32 → Mem → Option (Int32 × Mem)), (∀ (x3 : Int32), ∀ (x4 : Int32), ∀ σ : Mem, k41 x3 x4 σ = some res → V G 9 8 X ((some (.int res.1)), res.2) σ [(0, .ref (ga G 65)), (3, .int x3), (4, .int x4)] [] 41) → (∀ (x3 : Int32), ∀ (x4 : Int32), ∀ σ : Mem, k77 x3 x4 σ = some res → V G 9 8 X ((some (.int res.1)), res.2) σ [(0, .ref (ga G 65)), (3, .int x3), (4, .int x4)] [] 77) → ∀ (x3 : Int32), ∀ (x4 : Int32), ∀ σ : Mem, p_X12_cape_B58 k41 k77 x1 x3 x4 σ = some res → V G 9 8 X ((some (.int res.1)), res.2) σ [(0, .ref (ga G 65)), (3, .int x3), (4, .int x4)] [] 58 := by
    intro k41 k77 hk41 hk77 x3 x4 σ h
    unfold p_X12_cape_B58 at h
    refine v_blk hC (is := [(.iinc 3 1, (1 : Int32)), (.iload 4, 0)]) (pc' := 63) (ls' := [(3, .int (x3 + (1 : Int32))), (0, .ref (ga G 65)), (4, .int x4)]) (st' := [.int x4]) (by decide +kernel) rfl ?_
    refine v_if_ne hC (off := 14) (tgt := 77) (by decide +kernel) (by decide) h (fun hq h => ?_) (fun hq h => ?_)
    · refine v_sub [1, 0, 2] (ls' := [(0, .ref (ga G 65)), (3, .int (x3 + (1 : Int32))), (4, .int x4)]) rfl ?_
      exact hk77 _ _ _ h
    · refine v_blk hC (is := [(.aload_n 0, 0)]) (pc' := 67) (ls' := [(3, .int (x3 + (1 : Int32))), (0, .ref (ga G 65)), (4, .int x4)]) (st' := [.ref (ga G 65)]) (by decide +kernel) rfl ?_
      refine gX12_5 hC lfX12_130 (by decide +kernel) h (fun v20 h => ?_)
      refine v_blk hC (is := [(.aload_n 0, 0)]) (pc' := 71) (ls' := [(3, .int (x3 + (1 : Int32))), (0, .ref (ga G 65)), (4, .int x4)]) (st' := [.ref (ga G 65), .int v20]) (by decide +kernel) rfl ?_
      refine gX12_7 hC lfX12_134 (by decide +kernel) h (fun v21 h => ?_)
      refine v_icmp_lt hC (off := (-33)) (tgt := 41) (by decide +kernel) (by decide) h (fun hq h => ?_) (fun hq h => ?_)
      · refine v_sub [1, 0, 2] (ls' := [(0, .ref (ga G 65)), (3, .int (x3 + (1 : Int32))), (4, .int x4)]) rfl ?_
        exact hk41 _ _ _ h
      · refine v_sub [1, 0, 2] (ls' := [(0, .ref (ga G 65)), (3, .int (x3 + (1 : Int32))), (4, .int x4)]) rfl ?_
        exact hk77 _ _ _ h
  have hB41 : ∀ (k41 : Int32 → Int32 → Mem → Option (Int32 × Mem)), ∀ (k77 : Int32 → Int32 → Mem → Option (Int32 × Mem)), (∀ (x3 : Int32), ∀ (x4 : Int32), ∀ σ : Mem, k41 x3 x4 σ = some res → V G 9 8 X ((some (.int res.1)), res.2) σ [(0, .ref (ga G 65)), (3, .int x3), (4, .int x4)] [] 41) → (∀ (x3 : Int32), ∀ (x4 : Int32), ∀ σ : Mem, k77 x3 x4 σ = some res → V G 9 8 X ((some (.int res.1)), res.2) σ [(0, .ref (ga G 65)), (3, .int x3), (4, .int x4)] [] 77) → ∀ (x3 : Int32), ∀ (x4 : Int32), ∀ σ : Mem, p_X12_cape_B41 k41 k77 x1 x3 x4 σ = some res → V G 9 8 X ((some (.int res.1)), res.2) σ [(0, .ref (ga G 65)), (3, .int x3), (4, .int x4)] [] 41 := by
    intro k41 k77 hk41 hk77 x3 x4 σ h
    unfold p_X12_cape_B41 at h
    refine v_blk hC (is := [(.aload_n 0, 0)]) (pc' := 42) (ls' := [(0, .ref (ga G 65)), (3, .int x3), (4, .int x4)]) (st' := [.ref (ga G 65)]) (by decide +kernel) rfl ?_
    obtain ⟨v22, s23, e24, h⟩ := bndI h
    refine v_cV (idx := 160) hC ⟨tt_at 1121 (by decide +kernel) rfl, tiX12_readsStatement, tvX12_readsStatement, tnX12_readsStatement, tcX12_readsStatement, tmX12_readsStatement⟩ isO_X12 rfl (c_X12_readsStatement e24) (by decide) (by decide) (by decide +kernel) (rest := []) rfl rfl (Nat.le_of_ble_eq_true rfl) rfl ?_
    refine v_if_ne hC (off := 13) (tgt := 58) (by decide +kernel) (by decide) h (fun hq h => ?_) (fun hq h => ?_)
    · exact (hB58 _ _ hk41 hk77) _ _ _ h
    · refine v_blk hC (is := [(.sipush (-1000), (-1000 : Int32)), (.aload_n 0, 0)]) (pc' := 52) (ls' := [(0, .ref (ga G 65)), (3, .int x3), (4, .int x4)]) (st' := [.ref (ga G 65), .int (-1000 : Int32)]) (by decide +kernel) rfl ?_
      refine gX12_5 hC lfX12_130 (by decide +kernel) h (fun v25 h => ?_)
      refine v_blk hC (is := [(.isub, 0), (.istore 4, 0)]) (pc' := 58) (ls' := [(4, .int ((-1000 : Int32) - v25)), (0, .ref (ga G 65)), (3, .int x3)]) (st' := []) (by decide +kernel) rfl ?_
      refine v_sub [1, 2, 0] (ls' := [(0, .ref (ga G 65)), (3, .int x3), (4, .int ((-1000 : Int32) - v25))]) rfl ?_
      exact (hB58 _ _ hk41 hk77) _ _ _ h
  have hL41 : ∀ (k77 : Int32 → Int32 → Mem → Option (Int32 × Mem)), (∀ (x3 : Int32), ∀ (x4 : Int32), ∀ σ : Mem, k77 x3 x4 σ = some res → V G 9 8 X ((some (.int res.1)), res.2) σ [(0, .ref (ga G 65)), (3, .int x3), (4, .int x4)] [] 77) → ∀ f : Nat, ∀ (x3 : Int32), ∀ (x4 : Int32), ∀ σ : Mem, p_X12_cape_L41 k77 x1 f x3 x4 σ = some res → V G 9 8 X ((some (.int res.1)), res.2) σ [(0, .ref (ga G 65)), (3, .int x3), (4, .int x4)] [] 41 := by
    intro k77 hk77 f
    induction f with
    | zero => intro x3 x4 σ h; exact none_some h
    | succ f ih => intro x3 x4 σ h; exact hB41 (p_X12_cape_L41 k77 x1 f) k77 ih hk77 x3 x4 σ h
  unfold p_X12_cape at h
  show V G 9 8 X ((some (.int res.1)), res.2) σ [(0, .ref (ga G 65)), (1, .int x1)] [] 0
  refine v_blk hC (is := [(.aload_n 0, 0), (.iload_n 1, 0), (.iconst 0, (0 : Int32))]) (pc' := 3) (ls' := [(0, .ref (ga G 65)), (1, .int x1)]) (st' := [.int (0 : Int32), .int x1, .ref (ga G 65)]) (by decide +kernel) rfl ?_
  obtain ⟨v26, s27, e28, h⟩ := bndI h
  refine v_cV (idx := 157) hC ⟨tt_at 1111 (by decide +kernel) rfl, tiX12_wrongRow, tvX12_wrongRow, tnX12_wrongRow, tcX12_wrongRow, tmX12_wrongRow⟩ isO_X12 rfl (c_X12_wrongRow e28) (by decide) (by decide) (by decide +kernel) (rest := []) rfl rfl (Nat.le_of_ble_eq_true rfl) rfl ?_
  refine v_blk hC (is := [(.istore_n 2, 0), (.iload_n 2, 0)]) (pc' := 8) (ls' := [(2, .int v26), (0, .ref (ga G 65)), (1, .int x1)]) (st' := [.int v26]) (by decide +kernel) rfl ?_
  refine v_if_eq hC (off := 5) (tgt := 13) (by decide +kernel) (by decide) h (fun hq h => ?_) (fun hq h => ?_)
  · refine v_blk hC (is := [(.aload_n 0, 0), (.bipush 100, (100 : Int32)), (.iload_n 1, 0), (.imul, 0)]) (pc' := 18) (ls' := [(2, .int v26), (0, .ref (ga G 65)), (1, .int x1)]) (st' := [.int ((100 : Int32) * x1), .ref (ga G 65)]) (by decide +kernel) rfl ?_
    refine pX12_6 hC lfX12_137 (by decide +kernel) h (fun s29 h => ?_)
    refine v_blk hC (is := [(.aload_n 0, 0), (.aload_n 0, 0)]) (pc' := 23) (ls' := [(2, .int v26), (0, .ref (ga G 65)), (1, .int x1)]) (st' := [.ref (ga G 65), .ref (ga G 65)]) (by decide +kernel) rfl ?_
    refine gX12_16 hC lfX12_43 (by decide +kernel) ?_
    refine v_blk hC (is := [(.iload_n 1, 0)]) (pc' := 27) (ls' := [(2, .int v26), (0, .ref (ga G 65)), (1, .int x1)]) (st' := [.int x1, .ref (ga G 77), .ref (ga G 65)]) (by decide +kernel) rfl ?_
    refine v_iald hC isA_77 rfl (by decide +kernel) h (fun v30 h => ?_)
    refine pX12_7 hC lfX12_134 (by decide +kernel) h (fun s31 h => ?_)
    refine v_blk hC (is := [(.aload_n 0, 0), (.iconst 0, (0 : Int32))]) (pc' := 33) (ls' := [(2, .int v26), (0, .ref (ga G 65)), (1, .int x1)]) (st' := [.int (0 : Int32), .ref (ga G 65)]) (by decide +kernel) rfl ?_
    refine pX12_5 hC lfX12_130 (by decide +kernel) h (fun s32 h => ?_)
    refine v_blk hC (is := [(.iconst 0, (0 : Int32)), (.istore_n 3, 0), (.iconst 0, (0 : Int32)), (.istore 4, 0)]) (pc' := 41) (ls' := [(4, .int (0 : Int32)), (3, .int (0 : Int32)), (2, .int v26), (0, .ref (ga G 65)), (1, .int x1)]) (st' := []) (by decide +kernel) rfl ?_
    refine v_sub [3, 1, 0] (ls' := [(0, .ref (ga G 65)), (3, .int (0 : Int32)), (4, .int (0 : Int32))]) rfl ?_
    exact (hL41 _ (hB77 ) 1000) _ _ _ h
  · refine v_blk hC (is := [(.iload_n 2, 0)]) (pc' := 12) (ls' := [(2, .int v26), (0, .ref (ga G 65)), (1, .int x1)]) (st' := [.int v26]) (by decide +kernel) rfl ?_
    exact v_iret hC h (by decide +kernel)

def p_X12_sailor (x1 : Int32) (x2 : Int32) (σ : Mem) : Option (Int32 × Mem) := (bnd (p_X12_isMan x1 σ) fun v1 s2 => (if v1 = 0 then some ((-1 : Int32), s2) else (bnd (p_X12_isIn x2 (0 : Int32) (7 : Int32) s2) fun v4 s5 => (if v4 = 0 then some ((-1 : Int32), s5) else (if x2 = (4 : Int32) then (bnd (p_X12_skillOf 66 x1 s5) fun v8 s9 => some (v8, s9)) else (if x2 = (5 : Int32) then (if (3 : Int32) < 0 ∨ 100 ≤ ((3 : Int32)).toNatClampNeg then none else lt (s5 66 ((3 : Int32)).toNatClampNeg) fun v12 => (bnd (p_X12_riskOf 66 x1 v12 s5) fun v13 s14 => some (v13, s14))) else (if x2 = (6 : Int32) then (bnd (p_X12_reachOf 66 x1 s5) fun v17 s18 => some (v17, s18)) else (if x2 = (7 : Int32) then (bnd (p_X12_of x1 (0 : Int32) s5) fun v21 s22 => (if v21 < 0 ∨ 100 ≤ (v21).toNatClampNeg then none else lt (s22 66 (v21).toNatClampNeg) fun v24 => (bnd (p_X12_of x1 (1 : Int32) s22) fun v25 s26 => (if v25 < 0 ∨ 100 ≤ (v25).toNatClampNeg then none else lt (s26 66 (v25).toNatClampNeg) fun v28 => (bnd (p_X12_pay v24 v28 s26) fun v29 s30 => some (v29, s30)))))) else (bnd (p_X12_of x1 x2 s5) fun v32 s33 => (if v32 < 0 ∨ 100 ≤ (v32).toNatClampNeg then none else lt (s33 66 (v32).toNatClampNeg) fun v35 => some (v35, s33)))))))))))
set_option maxHeartbeats 4000000 in
set_option maxRecDepth 100000 in
theorem c_X12_sailor {G : Gl} {x1 : Int32} {x2 : Int32} {σ : Mem} {res : Int32 × Mem}  (h : p_X12_sailor x1 x2 σ = some res) : MetX G yX12_sailor cX12_sailor 3 (some .int) 3 [.ref (ga G 65), .int x1, .int x2] σ (some (.int res.1)) res.2 := by
  refine met_V (by decide +kernel) (Nat.le_of_ble_eq_true rfl) (fun X hC => ?_)
  have hC : Ok G 3 3 X cX12_sailor RX12 (some .int) := hC
  unfold p_X12_sailor at h
  show V G 3 3 X ((some (.int res.1)), res.2) σ [(0, .ref (ga G 65)), (1, .int x1), (2, .int x2)] [] 0
  refine v_blk hC (is := [(.aload_n 0, 0), (.iload_n 1, 0)]) (pc' := 2) (ls' := [(0, .ref (ga G 65)), (1, .int x1), (2, .int x2)]) (st' := [.int x1, .ref (ga G 65)]) (by decide +kernel) rfl ?_
  obtain ⟨v1, s2, e3, h⟩ := bndI h
  refine v_cV (idx := 53) hC ⟨tt_at 1150 (by decide +kernel) rfl, tiX12_isMan, tvX12_isMan, tnX12_isMan, tcX12_isMan, tmX12_isMan⟩ isO_X12 rfl (c_X12_isMan e3) (by decide) (by decide) (by decide +kernel) (rest := []) rfl rfl (Nat.le_of_ble_eq_true rfl) rfl ?_
  refine v_if_eq hC (off := 13) (tgt := 18) (by decide +kernel) (by decide) h (fun hq h => ?_) (fun hq h => ?_)
  · refine v_blk hC (is := [(.iconst (-1), (-1 : Int32))]) (pc' := 19) (ls' := [(0, .ref (ga G 65)), (1, .int x1), (2, .int x2)]) (st' := [.int (-1 : Int32)]) (by decide +kernel) rfl ?_
    exact v_iret hC h (by decide +kernel)
  · refine v_blk hC (is := [(.iload_n 2, 0), (.iconst 0, (0 : Int32)), (.bipush 7, (7 : Int32))]) (pc' := 12) (ls' := [(0, .ref (ga G 65)), (1, .int x1), (2, .int x2)]) (st' := [.int (7 : Int32), .int (0 : Int32), .int x2]) (by decide +kernel) rfl ?_
    obtain ⟨v4, s5, e6, h⟩ := bndI h
    refine v_cS (idx := 49) hC ⟨tt_at 1118 (by decide +kernel) rfl, tsX12_isIn, tnX12_isIn, tcX12_isIn, tmX12_isIn⟩ (c_X12_isIn e6) (by decide) (by decide) (by decide +kernel) (rest := []) rfl rfl (Nat.le_of_ble_eq_true rfl) rfl ?_
    refine v_if_ne hC (off := 5) (tgt := 20) (by decide +kernel) (by decide) h (fun hq h => ?_) (fun hq h => ?_)
    · refine v_blk hC (is := [(.iload_n 2, 0)]) (pc' := 21) (ls' := [(0, .ref (ga G 65)), (1, .int x1), (2, .int x2)]) (st' := [.int x2]) (by decide +kernel) rfl ?_
      by_cases q7 : x2 = (4 : Int32)
      · replace h := br_pos h q7
        refine v_tin hC (dflt := 88) (lo := 4) (hi := 7) (offs := #[31, 40, 55, 64]) (len := 31) (off := 31) (tgt := 52) (by decide +kernel) (by rw [q7]; decide) (by rw [q7]; decide) (by rw [q7]; decide) (by decide) ?_
        refine v_blk hC (is := [(.aload_n 0, 0)]) (pc' := 53) (ls' := [(0, .ref (ga G 65)), (1, .int x1), (2, .int x2)]) (st' := [.ref (ga G 65)]) (by decide +kernel) rfl ?_
        refine gX12_0 hC lfX12_9 (by decide +kernel) ?_
        refine v_blk hC (is := [(.iload_n 1, 0)]) (pc' := 57) (ls' := [(0, .ref (ga G 65)), (1, .int x1), (2, .int x2)]) (st' := [.int x1, .ref (ga G 66)]) (by decide +kernel) rfl ?_
        obtain ⟨v8, s9, e10, h⟩ := bndI h
        refine v_cS (idx := 171) hC ⟨tt_at 1209 (by decide +kernel) rfl, tsX12_skillOf, tnX12_skillOf, tcX12_skillOf, tmX12_skillOf⟩ (c_X12_skillOf row66 e10) (by decide) (by decide) (by decide +kernel) (rest := []) rfl rfl (Nat.le_of_ble_eq_true rfl) rfl ?_
        exact v_iret hC h (by decide +kernel)
      replace h := br_neg h q7
      by_cases q11 : x2 = (5 : Int32)
      · replace h := br_pos h q11
        refine v_tin hC (dflt := 88) (lo := 4) (hi := 7) (offs := #[31, 40, 55, 64]) (len := 31) (off := 40) (tgt := 61) (by decide +kernel) (by rw [q11]; decide) (by rw [q11]; decide) (by rw [q11]; decide) (by decide) ?_
        refine v_blk hC (is := [(.aload_n 0, 0)]) (pc' := 62) (ls' := [(0, .ref (ga G 65)), (1, .int x1), (2, .int x2)]) (st' := [.ref (ga G 65)]) (by decide +kernel) rfl ?_
        refine gX12_0 hC lfX12_9 (by decide +kernel) ?_
        refine v_blk hC (is := [(.iload_n 1, 0), (.aload_n 0, 0)]) (pc' := 67) (ls' := [(0, .ref (ga G 65)), (1, .int x1), (2, .int x2)]) (st' := [.ref (ga G 65), .int x1, .ref (ga G 66)]) (by decide +kernel) rfl ?_
        refine gX12_0 hC lfX12_9 (by decide +kernel) ?_
        refine v_blk hC (is := [(.iconst 3, (3 : Int32))]) (pc' := 71) (ls' := [(0, .ref (ga G 65)), (1, .int x1), (2, .int x2)]) (st' := [.int (3 : Int32), .ref (ga G 66), .int x1, .ref (ga G 66)]) (by decide +kernel) rfl ?_
        refine v_iald hC isA_66 rfl (by decide +kernel) h (fun v12 h => ?_)
        obtain ⟨v13, s14, e15, h⟩ := bndI h
        refine v_cS (idx := 97) hC ⟨tt_at 1178 (by decide +kernel) rfl, tsX12_riskOf, tnX12_riskOf, tcX12_riskOf, tmX12_riskOf⟩ (c_X12_riskOf row66 e15) (by decide) (by decide) (by decide +kernel) (rest := []) rfl rfl (Nat.le_of_ble_eq_true rfl) rfl ?_
        exact v_iret hC h (by decide +kernel)
      replace h := br_neg h q11
      by_cases q16 : x2 = (6 : Int32)
      · replace h := br_pos h q16
        refine v_tin hC (dflt := 88) (lo := 4) (hi := 7) (offs := #[31, 40, 55, 64]) (len := 31) (off := 55) (tgt := 76) (by decide +kernel) (by rw [q16]; decide) (by rw [q16]; decide) (by rw [q16]; decide) (by decide) ?_
        refine v_blk hC (is := [(.aload_n 0, 0)]) (pc' := 77) (ls' := [(0, .ref (ga G 65)), (1, .int x1), (2, .int x2)]) (st' := [.ref (ga G 65)]) (by decide +kernel) rfl ?_
        refine gX12_0 hC lfX12_9 (by decide +kernel) ?_
        refine v_blk hC (is := [(.iload_n 1, 0)]) (pc' := 81) (ls' := [(0, .ref (ga G 65)), (1, .int x1), (2, .int x2)]) (st' := [.int x1, .ref (ga G 66)]) (by decide +kernel) rfl ?_
        obtain ⟨v17, s18, e19, h⟩ := bndI h
        refine v_cS (idx := 101) hC ⟨tt_at 1187 (by decide +kernel) rfl, tsX12_reachOf, tnX12_reachOf, tcX12_reachOf, tmX12_reachOf⟩ (c_X12_reachOf row66 e19) (by decide) (by decide) (by decide +kernel) (rest := []) rfl rfl (Nat.le_of_ble_eq_true rfl) rfl ?_
        exact v_iret hC h (by decide +kernel)
      replace h := br_neg h q16
      by_cases q20 : x2 = (7 : Int32)
      · replace h := br_pos h q20
        refine v_tin hC (dflt := 88) (lo := 4) (hi := 7) (offs := #[31, 40, 55, 64]) (len := 31) (off := 64) (tgt := 85) (by decide +kernel) (by rw [q20]; decide) (by rw [q20]; decide) (by rw [q20]; decide) (by decide) ?_
        refine v_blk hC (is := [(.aload_n 0, 0)]) (pc' := 86) (ls' := [(0, .ref (ga G 65)), (1, .int x1), (2, .int x2)]) (st' := [.ref (ga G 65)]) (by decide +kernel) rfl ?_
        refine gX12_0 hC lfX12_9 (by decide +kernel) ?_
        refine v_blk hC (is := [(.iload_n 1, 0), (.iconst 0, (0 : Int32))]) (pc' := 91) (ls' := [(0, .ref (ga G 65)), (1, .int x1), (2, .int x2)]) (st' := [.int (0 : Int32), .int x1, .ref (ga G 66)]) (by decide +kernel) rfl ?_
        obtain ⟨v21, s22, e23, h⟩ := bndI h
        refine v_cS (idx := 57) hC ⟨tt_at 1143 (by decide +kernel) rfl, tsX12_of, tnX12_of, tcX12_of, tmX12_of⟩ (c_X12_of e23) (by decide) (by decide) (by decide +kernel) (rest := [.ref (ga G 66)]) rfl rfl (Nat.le_of_ble_eq_true rfl) rfl ?_
        refine v_iald hC isA_66 rfl (by decide +kernel) h (fun v24 h => ?_)
        refine v_blk hC (is := [(.aload_n 0, 0)]) (pc' := 96) (ls' := [(0, .ref (ga G 65)), (1, .int x1), (2, .int x2)]) (st' := [.ref (ga G 65), .int v24]) (by decide +kernel) rfl ?_
        refine gX12_0 hC lfX12_9 (by decide +kernel) ?_
        refine v_blk hC (is := [(.iload_n 1, 0), (.iconst 1, (1 : Int32))]) (pc' := 101) (ls' := [(0, .ref (ga G 65)), (1, .int x1), (2, .int x2)]) (st' := [.int (1 : Int32), .int x1, .ref (ga G 66), .int v24]) (by decide +kernel) rfl ?_
        obtain ⟨v25, s26, e27, h⟩ := bndI h
        refine v_cS (idx := 57) hC ⟨tt_at 1143 (by decide +kernel) rfl, tsX12_of, tnX12_of, tcX12_of, tmX12_of⟩ (c_X12_of e27) (by decide) (by decide) (by decide +kernel) (rest := [.ref (ga G 66), .int v24]) rfl rfl (Nat.le_of_ble_eq_true rfl) rfl ?_
        refine v_iald hC isA_66 rfl (by decide +kernel) h (fun v28 h => ?_)
        obtain ⟨v29, s30, e31, h⟩ := bndI h
        refine v_cS (idx := 174) hC ⟨tt_at 1215 (by decide +kernel) rfl, tsX12_pay, tnX12_pay, tcX12_pay, tmX12_pay⟩ (c_X12_pay e31) (by decide) (by decide) (by decide +kernel) (rest := []) rfl rfl (Nat.le_of_ble_eq_true rfl) rfl ?_
        exact v_iret hC h (by decide +kernel)
      replace h := br_neg h q20
      refine v_tout hC (dflt := 88) (lo := 4) (hi := 7) (offs := #[31, 40, 55, 64]) (len := 31) (tgt := 109) (by decide +kernel) (by have wq7 := lv_neT q7 (a := 4) (by decide); have wq11 := lv_neT q11 (a := 5) (by decide); have wq16 := lv_neT q16 (a := 6) (by decide); have wq20 := lv_neT q20 (a := 7) (by decide); omega) (by decide) ?_
      refine v_blk hC (is := [(.aload_n 0, 0)]) (pc' := 110) (ls' := [(0, .ref (ga G 65)), (1, .int x1), (2, .int x2)]) (st' := [.ref (ga G 65)]) (by decide +kernel) rfl ?_
      refine gX12_0 hC lfX12_9 (by decide +kernel) ?_
      refine v_blk hC (is := [(.iload_n 1, 0), (.iload_n 2, 0)]) (pc' := 115) (ls' := [(0, .ref (ga G 65)), (1, .int x1), (2, .int x2)]) (st' := [.int x2, .int x1, .ref (ga G 66)]) (by decide +kernel) rfl ?_
      obtain ⟨v32, s33, e34, h⟩ := bndI h
      refine v_cS (idx := 57) hC ⟨tt_at 1143 (by decide +kernel) rfl, tsX12_of, tnX12_of, tcX12_of, tmX12_of⟩ (c_X12_of e34) (by decide) (by decide) (by decide +kernel) (rest := [.ref (ga G 66)]) rfl rfl (Nat.le_of_ble_eq_true rfl) rfl ?_
      refine v_iald hC isA_66 rfl (by decide +kernel) h (fun v35 h => ?_)
      exact v_iret hC h (by decide +kernel)
    · refine v_blk hC (is := [(.iconst (-1), (-1 : Int32))]) (pc' := 19) (ls' := [(0, .ref (ga G 65)), (1, .int x1), (2, .int x2)]) (st' := [.int (-1 : Int32)]) (by decide +kernel) rfl ?_
      exact v_iret hC h (by decide +kernel)

def p_X12_saved (x1 : Int32) (x2 : Int32) (σ : Mem) : Option (Int32 × Mem) := (bnd (p_X12_areTwo x1 x2 σ) fun v1 s2 => (if v1 = 0 then some ((-1 : Int32), s2) else (bnd (p_X12_by x1 x2 s2) fun v4 s5 => (if v4 < 0 ∨ 100 ≤ (v4).toNatClampNeg then none else lt (s5 66 (v4).toNatClampNeg) fun v7 => some (v7, s5)))))
set_option maxHeartbeats 4000000 in
set_option maxRecDepth 100000 in
theorem c_X12_saved {G : Gl} {x1 : Int32} {x2 : Int32} {σ : Mem} {res : Int32 × Mem}  (h : p_X12_saved x1 x2 σ = some res) : MetX G yX12_saved cX12_saved 3 (some .int) 4 [.ref (ga G 65), .int x1, .int x2] σ (some (.int res.1)) res.2 := by
  refine met_V (by decide +kernel) (Nat.le_of_ble_eq_true rfl) (fun X hC => ?_)
  have hC : Ok G 4 3 X cX12_saved RX12 (some .int) := hC
  unfold p_X12_saved at h
  show V G 4 3 X ((some (.int res.1)), res.2) σ [(0, .ref (ga G 65)), (1, .int x1), (2, .int x2)] [] 0
  refine v_blk hC (is := [(.aload_n 0, 0), (.iload_n 1, 0), (.iload_n 2, 0)]) (pc' := 3) (ls' := [(0, .ref (ga G 65)), (1, .int x1), (2, .int x2)]) (st' := [.int x2, .int x1, .ref (ga G 65)]) (by decide +kernel) rfl ?_
  obtain ⟨v1, s2, e3, h⟩ := bndI h
  refine v_cV (idx := 151) hC ⟨tt_at 1146 (by decide +kernel) rfl, tiX12_areTwo, tvX12_areTwo, tnX12_areTwo, tcX12_areTwo, tmX12_areTwo⟩ isO_X12 rfl (c_X12_areTwo e3) (by decide) (by decide) (by decide +kernel) (rest := []) rfl rfl (Nat.le_of_ble_eq_true rfl) rfl ?_
  refine v_if_eq hC (off := 16) (tgt := 22) (by decide +kernel) (by decide) h (fun hq h => ?_) (fun hq h => ?_)
  · refine v_blk hC (is := [(.iconst (-1), (-1 : Int32))]) (pc' := 23) (ls' := [(0, .ref (ga G 65)), (1, .int x1), (2, .int x2)]) (st' := [.int (-1 : Int32)]) (by decide +kernel) rfl ?_
    exact v_iret hC h (by decide +kernel)
  · refine v_blk hC (is := [(.aload_n 0, 0)]) (pc' := 10) (ls' := [(0, .ref (ga G 65)), (1, .int x1), (2, .int x2)]) (st' := [.ref (ga G 65)]) (by decide +kernel) rfl ?_
    refine gX12_0 hC lfX12_9 (by decide +kernel) ?_
    refine v_blk hC (is := [(.iload_n 1, 0), (.iload_n 2, 0)]) (pc' := 15) (ls' := [(0, .ref (ga G 65)), (1, .int x1), (2, .int x2)]) (st' := [.int x2, .int x1, .ref (ga G 66)]) (by decide +kernel) rfl ?_
    obtain ⟨v4, s5, e6, h⟩ := bndI h
    refine v_cS (idx := 71) hC ⟨tt_at 1154 (by decide +kernel) rfl, tsX12_by, tnX12_by, tcX12_by, tmX12_by⟩ (c_X12_by e6) (by decide) (by decide) (by decide +kernel) (rest := [.ref (ga G 66)]) rfl rfl (Nat.le_of_ble_eq_true rfl) rfl ?_
    refine v_iald hC isA_66 rfl (by decide +kernel) h (fun v7 h => ?_)
    refine v_goto hC (off := 4) (tgt := 23) (by decide +kernel) (by decide) ?_
    exact v_iret hC h (by decide +kernel)

def p_X12_wrongKept (x1 : Int32) (σ : Mem) : Option (Int32 × Mem) := (bnd (p_X12_isShelf x1 σ) fun v1 s2 => (if v1 = 0 then some ((-1 : Int32), s2) else (if x1 < 0 ∨ 8 ≤ (x1).toNatClampNeg then none else lt (s2 73 (x1).toNatClampNeg) fun v4 => (if v4 = 0 then some ((-11 : Int32), s2) else (if x1 < 0 ∨ 8 ≤ (x1).toNatClampNeg then none else lt (s2 73 (x1).toNatClampNeg) fun v5 => (if v5 = (2 : Int32) then some ((-12 : Int32), s2) else some ((0 : Int32), s2)))))))
set_option maxHeartbeats 4000000 in
set_option maxRecDepth 100000 in
theorem c_X12_wrongKept {G : Gl} {x1 : Int32} {σ : Mem} {res : Int32 × Mem}  (h : p_X12_wrongKept x1 σ = some res) : MetX G yX12_wrongKept cX12_wrongKept 2 (some .int) 3 [.ref (ga G 65), .int x1] σ (some (.int res.1)) res.2 := by
  refine met_V (by decide +kernel) (Nat.le_of_ble_eq_true rfl) (fun X hC => ?_)
  have hC : Ok G 3 2 X cX12_wrongKept RX12 (some .int) := hC
  unfold p_X12_wrongKept at h
  show V G 3 2 X ((some (.int res.1)), res.2) σ [(0, .ref (ga G 65)), (1, .int x1)] [] 0
  refine v_blk hC (is := [(.iload_n 1, 0)]) (pc' := 1) (ls' := [(0, .ref (ga G 65)), (1, .int x1)]) (st' := [.int x1]) (by decide +kernel) rfl ?_
  obtain ⟨v1, s2, e3, h⟩ := bndI h
  refine v_cS (idx := 248) hC ⟨tt_at 1115 (by decide +kernel) rfl, tsX12_isShelf, tnX12_isShelf, tcX12_isShelf, tmX12_isShelf⟩ (c_X12_isShelf e3) (by decide) (by decide) (by decide +kernel) (rest := []) rfl rfl (Nat.le_of_ble_eq_true rfl) rfl ?_
  refine v_if_ne hC (off := 7) (tgt := 11) (by decide +kernel) (by decide) h (fun hq h => ?_) (fun hq h => ?_)
  · refine v_blk hC (is := [(.aload_n 0, 0)]) (pc' := 12) (ls' := [(0, .ref (ga G 65)), (1, .int x1)]) (st' := [.ref (ga G 65)]) (by decide +kernel) rfl ?_
    refine gX12_12 hC lfX12_31 (by decide +kernel) ?_
    refine v_blk hC (is := [(.iload_n 1, 0)]) (pc' := 16) (ls' := [(0, .ref (ga G 65)), (1, .int x1)]) (st' := [.int x1, .ref (ga G 73)]) (by decide +kernel) rfl ?_
    refine v_iald hC isA_73 rfl (by decide +kernel) h (fun v4 h => ?_)
    refine v_if_ne hC (off := 8) (tgt := 25) (by decide +kernel) (by decide) h (fun hq h => ?_) (fun hq h => ?_)
    · refine v_blk hC (is := [(.aload_n 0, 0)]) (pc' := 26) (ls' := [(0, .ref (ga G 65)), (1, .int x1)]) (st' := [.ref (ga G 65)]) (by decide +kernel) rfl ?_
      refine gX12_12 hC lfX12_31 (by decide +kernel) ?_
      refine v_blk hC (is := [(.iload_n 1, 0)]) (pc' := 30) (ls' := [(0, .ref (ga G 65)), (1, .int x1)]) (st' := [.int x1, .ref (ga G 73)]) (by decide +kernel) rfl ?_
      refine v_iald hC isA_73 rfl (by decide +kernel) h (fun v5 h => ?_)
      refine v_blk hC (is := [(.iconst 2, (2 : Int32))]) (pc' := 32) (ls' := [(0, .ref (ga G 65)), (1, .int x1)]) (st' := [.int (2 : Int32), .int v5]) (by decide +kernel) rfl ?_
      refine v_icmp_ne hC (off := 8) (tgt := 40) (by decide +kernel) (by decide) h (fun hq h => ?_) (fun hq h => ?_)
      · refine v_blk hC (is := [(.iconst 0, (0 : Int32))]) (pc' := 41) (ls' := [(0, .ref (ga G 65)), (1, .int x1)]) (st' := [.int (0 : Int32)]) (by decide +kernel) rfl ?_
        exact v_iret hC h (by decide +kernel)
      · refine v_blk hC (is := [(.bipush (-12), (-12 : Int32))]) (pc' := 37) (ls' := [(0, .ref (ga G 65)), (1, .int x1)]) (st' := [.int (-12 : Int32)]) (by decide +kernel) rfl ?_
        refine v_goto hC (off := 4) (tgt := 41) (by decide +kernel) (by decide) ?_
        exact v_iret hC h (by decide +kernel)
    · refine v_blk hC (is := [(.bipush (-11), (-11 : Int32))]) (pc' := 22) (ls' := [(0, .ref (ga G 65)), (1, .int x1)]) (st' := [.int (-11 : Int32)]) (by decide +kernel) rfl ?_
      refine v_goto hC (off := 19) (tgt := 41) (by decide +kernel) (by decide) ?_
      exact v_iret hC h (by decide +kernel)
  · refine v_blk hC (is := [(.iconst (-1), (-1 : Int32))]) (pc' := 8) (ls' := [(0, .ref (ga G 65)), (1, .int x1)]) (st' := [.int (-1 : Int32)]) (by decide +kernel) rfl ?_
    refine v_goto hC (off := 33) (tgt := 41) (by decide +kernel) (by decide) ?_
    exact v_iret hC h (by decide +kernel)

def p_X12_comes (x1 : Int32) (σ : Mem) : Option (Int32 × Mem) := (bnd (p_X12_wrongKept x1 σ) fun v1 s2 => (if v1 = 0 then (if (0 : Int32) < 0 ∨ 100 ≤ ((0 : Int32)).toNatClampNeg then none else lt (s2 66 ((0 : Int32)).toNatClampNeg) fun v4 => (if v4 = (8 : Int32) then some ((-2 : Int32), s2) else (if x1 < 0 ∨ 8 ≤ (x1).toNatClampNeg then none else lt (s2 74 (x1).toNatClampNeg) fun v5 => (if x1 < 0 ∨ 8 ≤ (x1).toNatClampNeg then none else lt (s2 75 (x1).toNatClampNeg) fun v6 => (bnd (p_X12_adds 66 v5 v6 (9 : Int32) s2) fun (v7 : Unit) s8 => (if (0 : Int32) < 0 ∨ 100 ≤ ((0 : Int32)).toNatClampNeg then none else lt (s8 66 ((0 : Int32)).toNatClampNeg) fun v10 => some ((v10 - (1 : Int32)), s8))))))) else some (v1, s2)))
set_option maxHeartbeats 4000000 in
set_option maxRecDepth 100000 in
theorem c_X12_comes {G : Gl} {x1 : Int32} {σ : Mem} {res : Int32 × Mem}  (h : p_X12_comes x1 σ = some res) : MetX G yX12_comes cX12_comes 3 (some .int) 4 [.ref (ga G 65), .int x1] σ (some (.int res.1)) res.2 := by
  refine met_V (by decide +kernel) (Nat.le_of_ble_eq_true rfl) (fun X hC => ?_)
  have hC : Ok G 4 3 X cX12_comes RX12 (some .int) := hC
  unfold p_X12_comes at h
  show V G 4 3 X ((some (.int res.1)), res.2) σ [(0, .ref (ga G 65)), (1, .int x1)] [] 0
  refine v_blk hC (is := [(.aload_n 0, 0), (.iload_n 1, 0)]) (pc' := 2) (ls' := [(0, .ref (ga G 65)), (1, .int x1)]) (st' := [.int x1, .ref (ga G 65)]) (by decide +kernel) rfl ?_
  obtain ⟨v1, s2, e3, h⟩ := bndI h
  refine v_cV (idx := 177) hC ⟨tt_at 1226 (by decide +kernel) rfl, tiX12_wrongKept, tvX12_wrongKept, tnX12_wrongKept, tcX12_wrongKept, tmX12_wrongKept⟩ isO_X12 rfl (c_X12_wrongKept e3) (by decide) (by decide) (by decide +kernel) (rest := []) rfl rfl (Nat.le_of_ble_eq_true rfl) rfl ?_
  refine v_blk hC (is := [(.istore_n 2, 0), (.iload_n 2, 0)]) (pc' := 7) (ls' := [(2, .int v1), (0, .ref (ga G 65)), (1, .int x1)]) (st' := [.int v1]) (by decide +kernel) rfl ?_
  refine v_if_eq hC (off := 5) (tgt := 12) (by decide +kernel) (by decide) h (fun hq h => ?_) (fun hq h => ?_)
  · refine v_blk hC (is := [(.aload_n 0, 0)]) (pc' := 13) (ls' := [(2, .int v1), (0, .ref (ga G 65)), (1, .int x1)]) (st' := [.ref (ga G 65)]) (by decide +kernel) rfl ?_
    refine gX12_0 hC lfX12_9 (by decide +kernel) ?_
    refine v_blk hC (is := [(.iconst 0, (0 : Int32))]) (pc' := 17) (ls' := [(2, .int v1), (0, .ref (ga G 65)), (1, .int x1)]) (st' := [.int (0 : Int32), .ref (ga G 66)]) (by decide +kernel) rfl ?_
    refine v_iald hC isA_66 rfl (by decide +kernel) h (fun v4 h => ?_)
    refine v_blk hC (is := [(.bipush 8, (8 : Int32))]) (pc' := 20) (ls' := [(2, .int v1), (0, .ref (ga G 65)), (1, .int x1)]) (st' := [.int (8 : Int32), .int v4]) (by decide +kernel) rfl ?_
    refine v_icmp_ne hC (off := 6) (tgt := 26) (by decide +kernel) (by decide) h (fun hq h => ?_) (fun hq h => ?_)
    · refine v_blk hC (is := [(.aload_n 0, 0)]) (pc' := 27) (ls' := [(2, .int v1), (0, .ref (ga G 65)), (1, .int x1)]) (st' := [.ref (ga G 65)]) (by decide +kernel) rfl ?_
      refine gX12_0 hC lfX12_9 (by decide +kernel) ?_
      refine v_blk hC (is := [(.aload_n 0, 0)]) (pc' := 31) (ls' := [(2, .int v1), (0, .ref (ga G 65)), (1, .int x1)]) (st' := [.ref (ga G 65), .ref (ga G 66)]) (by decide +kernel) rfl ?_
      refine gX12_13 hC lfX12_34 (by decide +kernel) ?_
      refine v_blk hC (is := [(.iload_n 1, 0)]) (pc' := 35) (ls' := [(2, .int v1), (0, .ref (ga G 65)), (1, .int x1)]) (st' := [.int x1, .ref (ga G 74), .ref (ga G 66)]) (by decide +kernel) rfl ?_
      refine v_iald hC isA_74 rfl (by decide +kernel) h (fun v5 h => ?_)
      refine v_blk hC (is := [(.aload_n 0, 0)]) (pc' := 37) (ls' := [(2, .int v1), (0, .ref (ga G 65)), (1, .int x1)]) (st' := [.ref (ga G 65), .int v5, .ref (ga G 66)]) (by decide +kernel) rfl ?_
      refine gX12_14 hC lfX12_37 (by decide +kernel) ?_
      refine v_blk hC (is := [(.iload_n 1, 0)]) (pc' := 41) (ls' := [(2, .int v1), (0, .ref (ga G 65)), (1, .int x1)]) (st' := [.int x1, .ref (ga G 75), .int v5, .ref (ga G 66)]) (by decide +kernel) rfl ?_
      refine v_iald hC isA_75 rfl (by decide +kernel) h (fun v6 h => ?_)
      refine v_blk hC (is := [(.bipush 9, (9 : Int32))]) (pc' := 44) (ls' := [(2, .int v1), (0, .ref (ga G 65)), (1, .int x1)]) (st' := [.int (9 : Int32), .int v6, .int v5, .ref (ga G 66)]) (by decide +kernel) rfl ?_
      obtain ⟨v7, s8, e9, h⟩ := bndI h
      refine v_cS (idx := 147) hC ⟨tt_at 1140 (by decide +kernel) rfl, tsX12_adds, tnX12_adds, tcX12_adds, tmX12_adds⟩ (c_X12_adds row66 e9) (by decide) (by decide) (by decide +kernel) (rest := []) rfl rfl (Nat.le_of_ble_eq_true rfl) rfl ?_
      refine v_blk hC (is := [(.aload_n 0, 0)]) (pc' := 48) (ls' := [(2, .int v1), (0, .ref (ga G 65)), (1, .int x1)]) (st' := [.ref (ga G 65)]) (by decide +kernel) rfl ?_
      refine gX12_0 hC lfX12_9 (by decide +kernel) ?_
      refine v_blk hC (is := [(.iconst 0, (0 : Int32))]) (pc' := 52) (ls' := [(2, .int v1), (0, .ref (ga G 65)), (1, .int x1)]) (st' := [.int (0 : Int32), .ref (ga G 66)]) (by decide +kernel) rfl ?_
      refine v_iald hC isA_66 rfl (by decide +kernel) h (fun v10 h => ?_)
      refine v_blk hC (is := [(.iconst 1, (1 : Int32)), (.isub, 0)]) (pc' := 55) (ls' := [(2, .int v1), (0, .ref (ga G 65)), (1, .int x1)]) (st' := [.int (v10 - (1 : Int32))]) (by decide +kernel) rfl ?_
      exact v_iret hC h (by decide +kernel)
    · refine v_blk hC (is := [(.bipush (-2), (-2 : Int32))]) (pc' := 25) (ls' := [(2, .int v1), (0, .ref (ga G 65)), (1, .int x1)]) (st' := [.int (-2 : Int32)]) (by decide +kernel) rfl ?_
      exact v_iret hC h (by decide +kernel)
  · refine v_blk hC (is := [(.iload_n 2, 0)]) (pc' := 11) (ls' := [(2, .int v1), (0, .ref (ga G 65)), (1, .int x1)]) (st' := [.int v1]) (by decide +kernel) rfl ?_
    exact v_iret hC h (by decide +kernel)

def p_X12_saves (x1 : Int32) (x2 : Int32) (x3 : Int32) (σ : Mem) : Option (Int32 × Mem) := (bnd (p_X12_areTwo x1 x2 σ) fun v1 s2 => (if v1 = 0 then some ((-1 : Int32), s2) else (bnd (p_X12_isIn x3 (0 : Int32) (3 : Int32) s2) fun v4 s5 => (if v4 = 0 then some ((-1 : Int32), s5) else (bnd (p_X12_by x1 x2 s5) fun v7 s8 => (if v7 < 0 ∨ 100 ≤ (v7).toNatClampNeg then none else lt (s8 66 (v7).toNatClampNeg) fun v10 => (bnd (p_X12_by x1 x2 s8) fun v11 s12 => (if v11 < 0 ∨ 100 ≤ (v11).toNatClampNeg then none else wr s12 66 (v11).toNatClampNeg x3 fun s14 => some (v10, s14)))))))))
set_option maxHeartbeats 4000000 in
set_option maxRecDepth 100000 in
theorem c_X12_saves {G : Gl} {x1 : Int32} {x2 : Int32} {x3 : Int32} {σ : Mem} {res : Int32 × Mem}  (h : p_X12_saves x1 x2 x3 σ = some res) : MetX G yX12_saves cX12_saves 5 (some .int) 4 [.ref (ga G 65), .int x1, .int x2, .int x3] σ (some (.int res.1)) res.2 := by
  refine met_V (by decide +kernel) (Nat.le_of_ble_eq_true rfl) (fun X hC => ?_)
  have hC : Ok G 4 5 X cX12_saves RX12 (some .int) := hC
  unfold p_X12_saves at h
  show V G 4 5 X ((some (.int res.1)), res.2) σ [(0, .ref (ga G 65)), (1, .int x1), (2, .int x2), (3, .int x3)] [] 0
  refine v_blk hC (is := [(.aload_n 0, 0), (.iload_n 1, 0), (.iload_n 2, 0)]) (pc' := 3) (ls' := [(0, .ref (ga G 65)), (1, .int x1), (2, .int x2), (3, .int x3)]) (st' := [.int x2, .int x1, .ref (ga G 65)]) (by decide +kernel) rfl ?_
  obtain ⟨v1, s2, e3, h⟩ := bndI h
  refine v_cV (idx := 151) hC ⟨tt_at 1146 (by decide +kernel) rfl, tiX12_areTwo, tvX12_areTwo, tnX12_areTwo, tcX12_areTwo, tmX12_areTwo⟩ isO_X12 rfl (c_X12_areTwo e3) (by decide) (by decide) (by decide +kernel) (rest := []) rfl rfl (Nat.le_of_ble_eq_true rfl) rfl ?_
  refine v_if_eq hC (off := 12) (tgt := 18) (by decide +kernel) (by decide) h (fun hq h => ?_) (fun hq h => ?_)
  · refine v_blk hC (is := [(.iconst (-1), (-1 : Int32))]) (pc' := 19) (ls' := [(0, .ref (ga G 65)), (1, .int x1), (2, .int x2), (3, .int x3)]) (st' := [.int (-1 : Int32)]) (by decide +kernel) rfl ?_
    exact v_iret hC h (by decide +kernel)
  · refine v_blk hC (is := [(.iload_n 3, 0), (.iconst 0, (0 : Int32)), (.iconst 3, (3 : Int32))]) (pc' := 12) (ls' := [(0, .ref (ga G 65)), (1, .int x1), (2, .int x2), (3, .int x3)]) (st' := [.int (3 : Int32), .int (0 : Int32), .int x3]) (by decide +kernel) rfl ?_
    obtain ⟨v4, s5, e6, h⟩ := bndI h
    refine v_cS (idx := 49) hC ⟨tt_at 1118 (by decide +kernel) rfl, tsX12_isIn, tnX12_isIn, tcX12_isIn, tmX12_isIn⟩ (c_X12_isIn e6) (by decide) (by decide) (by decide +kernel) (rest := []) rfl rfl (Nat.le_of_ble_eq_true rfl) rfl ?_
    refine v_if_ne hC (off := 5) (tgt := 20) (by decide +kernel) (by decide) h (fun hq h => ?_) (fun hq h => ?_)
    · refine v_blk hC (is := [(.aload_n 0, 0)]) (pc' := 21) (ls' := [(0, .ref (ga G 65)), (1, .int x1), (2, .int x2), (3, .int x3)]) (st' := [.ref (ga G 65)]) (by decide +kernel) rfl ?_
      refine gX12_0 hC lfX12_9 (by decide +kernel) ?_
      refine v_blk hC (is := [(.iload_n 1, 0), (.iload_n 2, 0)]) (pc' := 26) (ls' := [(0, .ref (ga G 65)), (1, .int x1), (2, .int x2), (3, .int x3)]) (st' := [.int x2, .int x1, .ref (ga G 66)]) (by decide +kernel) rfl ?_
      obtain ⟨v7, s8, e9, h⟩ := bndI h
      refine v_cS (idx := 71) hC ⟨tt_at 1154 (by decide +kernel) rfl, tsX12_by, tnX12_by, tcX12_by, tmX12_by⟩ (c_X12_by e9) (by decide) (by decide) (by decide +kernel) (rest := [.ref (ga G 66)]) rfl rfl (Nat.le_of_ble_eq_true rfl) rfl ?_
      refine v_iald hC isA_66 rfl (by decide +kernel) h (fun v10 h => ?_)
      refine v_blk hC (is := [(.istore 4, 0), (.aload_n 0, 0)]) (pc' := 33) (ls' := [(4, .int v10), (0, .ref (ga G 65)), (1, .int x1), (2, .int x2), (3, .int x3)]) (st' := [.ref (ga G 65)]) (by decide +kernel) rfl ?_
      refine gX12_0 hC lfX12_9 (by decide +kernel) ?_
      refine v_blk hC (is := [(.iload_n 1, 0), (.iload_n 2, 0)]) (pc' := 38) (ls' := [(4, .int v10), (0, .ref (ga G 65)), (1, .int x1), (2, .int x2), (3, .int x3)]) (st' := [.int x2, .int x1, .ref (ga G 66)]) (by decide +kernel) rfl ?_
      obtain ⟨v11, s12, e13, h⟩ := bndI h
      refine v_cS (idx := 71) hC ⟨tt_at 1154 (by decide +kernel) rfl, tsX12_by, tnX12_by, tcX12_by, tmX12_by⟩ (c_X12_by e13) (by decide) (by decide) (by decide +kernel) (rest := [.ref (ga G 66)]) rfl rfl (Nat.le_of_ble_eq_true rfl) rfl ?_
      refine v_blk hC (is := [(.iload_n 3, 0)]) (pc' := 42) (ls' := [(4, .int v10), (0, .ref (ga G 65)), (1, .int x1), (2, .int x2), (3, .int x3)]) (st' := [.int x3, .int v11, .ref (ga G 66)]) (by decide +kernel) rfl ?_
      refine v_iast hC isA_66 rfl (by decide +kernel) h (fun s14 h => ?_)
      refine v_blk hC (is := [(.iload 4, 0)]) (pc' := 45) (ls' := [(4, .int v10), (0, .ref (ga G 65)), (1, .int x1), (2, .int x2), (3, .int x3)]) (st' := [.int v10]) (by decide +kernel) rfl ?_
      exact v_iret hC h (by decide +kernel)
    · refine v_blk hC (is := [(.iconst (-1), (-1 : Int32))]) (pc' := 19) (ls' := [(0, .ref (ga G 65)), (1, .int x1), (2, .int x2), (3, .int x3)]) (st' := [.int (-1 : Int32)]) (by decide +kernel) rfl ?_
      exact v_iret hC h (by decide +kernel)

def p_X12_boards_B23  (x1 : Int32) (x2 : Int32)  (σ : Mem) : Option (Int32 × Mem) := (bnd (p_X12_of x1 (3 : Int32) σ) fun v1 s2 => (if v1 < 0 ∨ 100 ≤ (v1).toNatClampNeg then none else lt (s2 66 (v1).toNatClampNeg) fun v4 => (if v4 = (1 : Int32) then some ((-3 : Int32), s2) else (bnd (p_X12_of x1 (2 : Int32) s2) fun v5 s6 => (if v5 < 0 ∨ 100 ≤ (v5).toNatClampNeg then none else lt (s6 66 (v5).toNatClampNeg) fun v8 => (bnd (p_X12_of x1 (2 : Int32) s6) fun v9 s10 => (if v9 < 0 ∨ 100 ≤ (v9).toNatClampNeg then none else wr s10 66 (v9).toNatClampNeg x2 fun s12 => some (v8, s12))))))))
def p_X12_boards (x1 : Int32) (x2 : Int32) (σ : Mem) : Option (Int32 × Mem) := (bnd (p_X12_isMan x1 σ) fun v13 s14 => (if v13 = 0 then some ((-1 : Int32), s14) else (bnd (p_X12_isBoat x2 s14) fun v16 s17 => (if v16 = 0 then (if x2 = (9 : Int32) then (p_X12_boards_B23 x1 x2) s17 else some ((-1 : Int32), s17)) else (p_X12_boards_B23 x1 x2) s17))))
set_option maxHeartbeats 4000000 in
set_option maxRecDepth 100000 in
theorem c_X12_boards {G : Gl} {x1 : Int32} {x2 : Int32} {σ : Mem} {res : Int32 × Mem}  (h : p_X12_boards x1 x2 σ = some res) : MetX G yX12_boards cX12_boards 4 (some .int) 3 [.ref (ga G 65), .int x1, .int x2] σ (some (.int res.1)) res.2 := by
  refine met_V (by decide +kernel) (Nat.le_of_ble_eq_true rfl) (fun X hC => ?_)
  have hC : Ok G 3 4 X cX12_boards RX12 (some .int) := hC
  have hB23 : ∀ σ : Mem, p_X12_boards_B23 x1 x2 σ = some res → V G 3 4 X ((some (.int res.1)), res.2) σ [(0, .ref (ga G 65)), (1, .int x1), (2, .int x2)] [] 23 := by
    intro  σ h
    unfold p_X12_boards_B23 at h
    refine v_blk hC (is := [(.aload_n 0, 0)]) (pc' := 24) (ls' := [(0, .ref (ga G 65)), (1, .int x1), (2, .int x2)]) (st' := [.ref (ga G 65)]) (by decide +kernel) rfl ?_
    refine gX12_0 hC lfX12_9 (by decide +kernel) ?_
    refine v_blk hC (is := [(.iload_n 1, 0), (.iconst 3, (3 : Int32))]) (pc' := 29) (ls' := [(0, .ref (ga G 65)), (1, .int x1), (2, .int x2)]) (st' := [.int (3 : Int32), .int x1, .ref (ga G 66)]) (by decide +kernel) rfl ?_
    obtain ⟨v1, s2, e3, h⟩ := bndI h
    refine v_cS (idx := 57) hC ⟨tt_at 1143 (by decide +kernel) rfl, tsX12_of, tnX12_of, tcX12_of, tmX12_of⟩ (c_X12_of e3) (by decide) (by decide) (by decide +kernel) (rest := [.ref (ga G 66)]) rfl rfl (Nat.le_of_ble_eq_true rfl) rfl ?_
    refine v_iald hC isA_66 rfl (by decide +kernel) h (fun v4 h => ?_)
    refine v_blk hC (is := [(.iconst 1, (1 : Int32))]) (pc' := 34) (ls' := [(0, .ref (ga G 65)), (1, .int x1), (2, .int x2)]) (st' := [.int (1 : Int32), .int v4]) (by decide +kernel) rfl ?_
    refine v_icmp_ne hC (off := 6) (tgt := 40) (by decide +kernel) (by decide) h (fun hq h => ?_) (fun hq h => ?_)
    · refine v_blk hC (is := [(.aload_n 0, 0)]) (pc' := 41) (ls' := [(0, .ref (ga G 65)), (1, .int x1), (2, .int x2)]) (st' := [.ref (ga G 65)]) (by decide +kernel) rfl ?_
      refine gX12_0 hC lfX12_9 (by decide +kernel) ?_
      refine v_blk hC (is := [(.iload_n 1, 0), (.iconst 2, (2 : Int32))]) (pc' := 46) (ls' := [(0, .ref (ga G 65)), (1, .int x1), (2, .int x2)]) (st' := [.int (2 : Int32), .int x1, .ref (ga G 66)]) (by decide +kernel) rfl ?_
      obtain ⟨v5, s6, e7, h⟩ := bndI h
      refine v_cS (idx := 57) hC ⟨tt_at 1143 (by decide +kernel) rfl, tsX12_of, tnX12_of, tcX12_of, tmX12_of⟩ (c_X12_of e7) (by decide) (by decide) (by decide +kernel) (rest := [.ref (ga G 66)]) rfl rfl (Nat.le_of_ble_eq_true rfl) rfl ?_
      refine v_iald hC isA_66 rfl (by decide +kernel) h (fun v8 h => ?_)
      refine v_blk hC (is := [(.istore_n 3, 0), (.aload_n 0, 0)]) (pc' := 52) (ls' := [(3, .int v8), (0, .ref (ga G 65)), (1, .int x1), (2, .int x2)]) (st' := [.ref (ga G 65)]) (by decide +kernel) rfl ?_
      refine gX12_0 hC lfX12_9 (by decide +kernel) ?_
      refine v_blk hC (is := [(.iload_n 1, 0), (.iconst 2, (2 : Int32))]) (pc' := 57) (ls' := [(3, .int v8), (0, .ref (ga G 65)), (1, .int x1), (2, .int x2)]) (st' := [.int (2 : Int32), .int x1, .ref (ga G 66)]) (by decide +kernel) rfl ?_
      obtain ⟨v9, s10, e11, h⟩ := bndI h
      refine v_cS (idx := 57) hC ⟨tt_at 1143 (by decide +kernel) rfl, tsX12_of, tnX12_of, tcX12_of, tmX12_of⟩ (c_X12_of e11) (by decide) (by decide) (by decide +kernel) (rest := [.ref (ga G 66)]) rfl rfl (Nat.le_of_ble_eq_true rfl) rfl ?_
      refine v_blk hC (is := [(.iload_n 2, 0)]) (pc' := 61) (ls' := [(3, .int v8), (0, .ref (ga G 65)), (1, .int x1), (2, .int x2)]) (st' := [.int x2, .int v9, .ref (ga G 66)]) (by decide +kernel) rfl ?_
      refine v_iast hC isA_66 rfl (by decide +kernel) h (fun s12 h => ?_)
      refine v_blk hC (is := [(.iload_n 3, 0)]) (pc' := 63) (ls' := [(3, .int v8), (0, .ref (ga G 65)), (1, .int x1), (2, .int x2)]) (st' := [.int v8]) (by decide +kernel) rfl ?_
      exact v_iret hC h (by decide +kernel)
    · refine v_blk hC (is := [(.bipush (-3), (-3 : Int32))]) (pc' := 39) (ls' := [(0, .ref (ga G 65)), (1, .int x1), (2, .int x2)]) (st' := [.int (-3 : Int32)]) (by decide +kernel) rfl ?_
      exact v_iret hC h (by decide +kernel)
  unfold p_X12_boards at h
  show V G 3 4 X ((some (.int res.1)), res.2) σ [(0, .ref (ga G 65)), (1, .int x1), (2, .int x2)] [] 0
  refine v_blk hC (is := [(.aload_n 0, 0), (.iload_n 1, 0)]) (pc' := 2) (ls' := [(0, .ref (ga G 65)), (1, .int x1), (2, .int x2)]) (st' := [.int x1, .ref (ga G 65)]) (by decide +kernel) rfl ?_
  obtain ⟨v13, s14, e15, h⟩ := bndI h
  refine v_cV (idx := 53) hC ⟨tt_at 1150 (by decide +kernel) rfl, tiX12_isMan, tvX12_isMan, tnX12_isMan, tcX12_isMan, tmX12_isMan⟩ isO_X12 rfl (c_X12_isMan e15) (by decide) (by decide) (by decide +kernel) (rest := []) rfl rfl (Nat.le_of_ble_eq_true rfl) rfl ?_
  refine v_if_eq hC (off := 16) (tgt := 21) (by decide +kernel) (by decide) h (fun hq h => ?_) (fun hq h => ?_)
  · refine v_blk hC (is := [(.iconst (-1), (-1 : Int32))]) (pc' := 22) (ls' := [(0, .ref (ga G 65)), (1, .int x1), (2, .int x2)]) (st' := [.int (-1 : Int32)]) (by decide +kernel) rfl ?_
    exact v_iret hC h (by decide +kernel)
  · refine v_blk hC (is := [(.iload_n 2, 0)]) (pc' := 9) (ls' := [(0, .ref (ga G 65)), (1, .int x1), (2, .int x2)]) (st' := [.int x2]) (by decide +kernel) rfl ?_
    obtain ⟨v16, s17, e18, h⟩ := bndI h
    refine v_cS (idx := 154) hC ⟨tt_at 1157 (by decide +kernel) rfl, tsX12_isBoat, tnX12_isBoat, tcX12_isBoat, tmX12_isBoat⟩ (c_X12_isBoat e18) (by decide) (by decide) (by decide +kernel) (rest := []) rfl rfl (Nat.le_of_ble_eq_true rfl) rfl ?_
    refine v_if_ne hC (off := 11) (tgt := 23) (by decide +kernel) (by decide) h (fun hq h => ?_) (fun hq h => ?_)
    · exact (hB23 ) _ h
    · refine v_blk hC (is := [(.iload_n 2, 0), (.bipush 9, (9 : Int32))]) (pc' := 18) (ls' := [(0, .ref (ga G 65)), (1, .int x1), (2, .int x2)]) (st' := [.int (9 : Int32), .int x2]) (by decide +kernel) rfl ?_
      refine v_icmp_eq hC (off := 5) (tgt := 23) (by decide +kernel) (by decide) h (fun hq h => ?_) (fun hq h => ?_)
      · exact (hB23 ) _ h
      · refine v_blk hC (is := [(.iconst (-1), (-1 : Int32))]) (pc' := 22) (ls' := [(0, .ref (ga G 65)), (1, .int x1), (2, .int x2)]) (st' := [.int (-1 : Int32)]) (by decide +kernel) rfl ?_
        exact v_iret hC h (by decide +kernel)

def p_X12_sets_B21  (x1 : Int32) (x2 : Int32) (t0 : Int32) (t1 : Int32) (t2 : Int32) (σ : Mem) : Option (Int32 × Mem) := (bnd (p_X12_isIn t0 t1 t2 σ) fun v1 s2 => (if v1 = 0 then some ((-1 : Int32), s2) else (if ((1 : Int32) + x1) < 0 ∨ 100 ≤ (((1 : Int32) + x1)).toNatClampNeg then none else lt (s2 66 (((1 : Int32) + x1)).toNatClampNeg) fun v4 => (if ((1 : Int32) + x1) < 0 ∨ 100 ≤ (((1 : Int32) + x1)).toNatClampNeg then none else wr s2 66 (((1 : Int32) + x1)).toNatClampNeg x2 fun s5 => some (v4, s5)))))
def p_X12_sets (x1 : Int32) (x2 : Int32) (σ : Mem) : Option (Int32 × Mem) := (bnd (p_X12_isIn x1 (0 : Int32) (1 : Int32) σ) fun v6 s7 => (if v6 = 0 then some ((-1 : Int32), s7) else (if x1 = 0 then (p_X12_sets_B21 x1 x2) x2 (0 : Int32) (3 : Int32) s7 else (p_X12_sets_B21 x1 x2) x2 (0 : Int32) (9 : Int32) s7)))
set_option maxHeartbeats 4000000 in
set_option maxRecDepth 100000 in
theorem c_X12_sets {G : Gl} {x1 : Int32} {x2 : Int32} {σ : Mem} {res : Int32 × Mem}  (h : p_X12_sets x1 x2 σ = some res) : MetX G yX12_sets cX12_sets 4 (some .int) 2 [.ref (ga G 65), .int x1, .int x2] σ (some (.int res.1)) res.2 := by
  refine met_V (by decide +kernel) (Nat.le_of_ble_eq_true rfl) (fun X hC => ?_)
  have hC : Ok G 2 4 X cX12_sets RX12 (some .int) := hC
  have hB21 : ∀ (t0 : Int32), ∀ (t1 : Int32), ∀ (t2 : Int32), ∀ σ : Mem, p_X12_sets_B21 x1 x2 t0 t1 t2 σ = some res → V G 2 4 X ((some (.int res.1)), res.2) σ [(0, .ref (ga G 65)), (1, .int x1), (2, .int x2)] [.int t2, .int t1, .int t0] 21 := by
    intro t0 t1 t2 σ h
    unfold p_X12_sets_B21 at h
    obtain ⟨v1, s2, e3, h⟩ := bndI h
    refine v_cS (idx := 49) hC ⟨tt_at 1118 (by decide +kernel) rfl, tsX12_isIn, tnX12_isIn, tcX12_isIn, tmX12_isIn⟩ (c_X12_isIn e3) (by decide) (by decide) (by decide +kernel) (rest := []) rfl rfl (Nat.le_of_ble_eq_true rfl) rfl ?_
    refine v_if_ne hC (off := 5) (tgt := 29) (by decide +kernel) (by decide) h (fun hq h => ?_) (fun hq h => ?_)
    · refine v_blk hC (is := [(.aload_n 0, 0)]) (pc' := 30) (ls' := [(0, .ref (ga G 65)), (1, .int x1), (2, .int x2)]) (st' := [.ref (ga G 65)]) (by decide +kernel) rfl ?_
      refine gX12_0 hC lfX12_9 (by decide +kernel) ?_
      refine v_blk hC (is := [(.iconst 1, (1 : Int32)), (.iload_n 1, 0), (.iadd, 0)]) (pc' := 36) (ls' := [(0, .ref (ga G 65)), (1, .int x1), (2, .int x2)]) (st' := [.int ((1 : Int32) + x1), .ref (ga G 66)]) (by decide +kernel) rfl ?_
      refine v_iald hC isA_66 rfl (by decide +kernel) h (fun v4 h => ?_)
      refine v_blk hC (is := [(.istore_n 3, 0), (.aload_n 0, 0)]) (pc' := 39) (ls' := [(3, .int v4), (0, .ref (ga G 65)), (1, .int x1), (2, .int x2)]) (st' := [.ref (ga G 65)]) (by decide +kernel) rfl ?_
      refine gX12_0 hC lfX12_9 (by decide +kernel) ?_
      refine v_blk hC (is := [(.iconst 1, (1 : Int32)), (.iload_n 1, 0), (.iadd, 0), (.iload_n 2, 0)]) (pc' := 46) (ls' := [(3, .int v4), (0, .ref (ga G 65)), (1, .int x1), (2, .int x2)]) (st' := [.int x2, .int ((1 : Int32) + x1), .ref (ga G 66)]) (by decide +kernel) rfl ?_
      refine v_iast hC isA_66 rfl (by decide +kernel) h (fun s5 h => ?_)
      refine v_blk hC (is := [(.iload_n 3, 0)]) (pc' := 48) (ls' := [(3, .int v4), (0, .ref (ga G 65)), (1, .int x1), (2, .int x2)]) (st' := [.int v4]) (by decide +kernel) rfl ?_
      exact v_iret hC h (by decide +kernel)
    · refine v_blk hC (is := [(.iconst (-1), (-1 : Int32))]) (pc' := 28) (ls' := [(0, .ref (ga G 65)), (1, .int x1), (2, .int x2)]) (st' := [.int (-1 : Int32)]) (by decide +kernel) rfl ?_
      exact v_iret hC h (by decide +kernel)
  unfold p_X12_sets at h
  show V G 2 4 X ((some (.int res.1)), res.2) σ [(0, .ref (ga G 65)), (1, .int x1), (2, .int x2)] [] 0
  refine v_blk hC (is := [(.iload_n 1, 0), (.iconst 0, (0 : Int32)), (.iconst 1, (1 : Int32))]) (pc' := 3) (ls' := [(0, .ref (ga G 65)), (1, .int x1), (2, .int x2)]) (st' := [.int (1 : Int32), .int (0 : Int32), .int x1]) (by decide +kernel) rfl ?_
  obtain ⟨v6, s7, e8, h⟩ := bndI h
  refine v_cS (idx := 49) hC ⟨tt_at 1118 (by decide +kernel) rfl, tsX12_isIn, tnX12_isIn, tcX12_isIn, tmX12_isIn⟩ (c_X12_isIn e8) (by decide) (by decide) (by decide +kernel) (rest := []) rfl rfl (Nat.le_of_ble_eq_true rfl) rfl ?_
  refine v_if_eq hC (off := 21) (tgt := 27) (by decide +kernel) (by decide) h (fun hq h => ?_) (fun hq h => ?_)
  · refine v_blk hC (is := [(.iconst (-1), (-1 : Int32))]) (pc' := 28) (ls' := [(0, .ref (ga G 65)), (1, .int x1), (2, .int x2)]) (st' := [.int (-1 : Int32)]) (by decide +kernel) rfl ?_
    exact v_iret hC h (by decide +kernel)
  · refine v_blk hC (is := [(.iload_n 2, 0), (.iconst 0, (0 : Int32)), (.iload_n 1, 0)]) (pc' := 12) (ls' := [(0, .ref (ga G 65)), (1, .int x1), (2, .int x2)]) (st' := [.int x1, .int (0 : Int32), .int x2]) (by decide +kernel) rfl ?_
    refine v_if_ne hC (off := 7) (tgt := 19) (by decide +kernel) (by decide) h (fun hq h => ?_) (fun hq h => ?_)
    · refine v_blk hC (is := [(.bipush 9, (9 : Int32))]) (pc' := 21) (ls' := [(0, .ref (ga G 65)), (1, .int x1), (2, .int x2)]) (st' := [.int (9 : Int32), .int (0 : Int32), .int x2]) (by decide +kernel) rfl ?_
      exact (hB21 ) _ _ _ _ h
    · refine v_blk hC (is := [(.iconst 3, (3 : Int32))]) (pc' := 16) (ls' := [(0, .ref (ga G 65)), (1, .int x1), (2, .int x2)]) (st' := [.int (3 : Int32), .int (0 : Int32), .int x2]) (by decide +kernel) rfl ?_
      refine v_goto hC (off := 5) (tgt := 21) (by decide +kernel) (by decide) ?_
      exact (hB21 ) _ _ _ _ h

def p_X12_seasons (x1 : Int32) (σ : Mem) : Option (Int32 × Mem) := (bnd (p_X12_isIn x1 (1 : Int32) (60 : Int32) σ) fun v1 s2 => (if v1 = 0 then some ((-1 : Int32), s2) else (if (3 : Int32) < 0 ∨ 100 ≤ ((3 : Int32)).toNatClampNeg then none else lt (s2 66 ((3 : Int32)).toNatClampNeg) fun v4 => (if (v4 + x1) ≤ (999 : Int32) then (bnd (p_X12_seasonsOn 66 x1 s2) fun (v5 : Unit) s6 => (bnd (p_X12_lostSet 66 s6) fun v8 s9 => (bnd (p_X12_bits v8 s9) fun v11 s12 => some (v11, s12)))) else some ((-3 : Int32), s2)))))
set_option maxHeartbeats 4000000 in
set_option maxRecDepth 100000 in
theorem c_X12_seasons {G : Gl} {x1 : Int32} {σ : Mem} {res : Int32 × Mem}  (h : p_X12_seasons x1 σ = some res) : MetX G yX12_seasons cX12_seasons 2 (some .int) 8 [.ref (ga G 65), .int x1] σ (some (.int res.1)) res.2 := by
  refine met_V (by decide +kernel) (Nat.le_of_ble_eq_true rfl) (fun X hC => ?_)
  have hC : Ok G 8 2 X cX12_seasons RX12 (some .int) := hC
  unfold p_X12_seasons at h
  show V G 8 2 X ((some (.int res.1)), res.2) σ [(0, .ref (ga G 65)), (1, .int x1)] [] 0
  refine v_blk hC (is := [(.iload_n 1, 0), (.iconst 1, (1 : Int32)), (.bipush 60, (60 : Int32))]) (pc' := 4) (ls' := [(0, .ref (ga G 65)), (1, .int x1)]) (st' := [.int (60 : Int32), .int (1 : Int32), .int x1]) (by decide +kernel) rfl ?_
  obtain ⟨v1, s2, e3, h⟩ := bndI h
  refine v_cS (idx := 49) hC ⟨tt_at 1118 (by decide +kernel) rfl, tsX12_isIn, tnX12_isIn, tcX12_isIn, tmX12_isIn⟩ (c_X12_isIn e3) (by decide) (by decide) (by decide +kernel) (rest := []) rfl rfl (Nat.le_of_ble_eq_true rfl) rfl ?_
  refine v_if_ne hC (off := 5) (tgt := 12) (by decide +kernel) (by decide) h (fun hq h => ?_) (fun hq h => ?_)
  · refine v_blk hC (is := [(.aload_n 0, 0)]) (pc' := 13) (ls' := [(0, .ref (ga G 65)), (1, .int x1)]) (st' := [.ref (ga G 65)]) (by decide +kernel) rfl ?_
    refine gX12_0 hC lfX12_9 (by decide +kernel) ?_
    refine v_blk hC (is := [(.iconst 3, (3 : Int32))]) (pc' := 17) (ls' := [(0, .ref (ga G 65)), (1, .int x1)]) (st' := [.int (3 : Int32), .ref (ga G 66)]) (by decide +kernel) rfl ?_
    refine v_iald hC isA_66 rfl (by decide +kernel) h (fun v4 h => ?_)
    refine v_blk hC (is := [(.iload_n 1, 0), (.iadd, 0), (.sipush 999, (999 : Int32))]) (pc' := 23) (ls' := [(0, .ref (ga G 65)), (1, .int x1)]) (st' := [.int (999 : Int32), .int (v4 + x1)]) (by decide +kernel) rfl ?_
    refine v_icmp_le hC (off := 6) (tgt := 29) (by decide +kernel) (by decide) h (fun hq h => ?_) (fun hq h => ?_)
    · refine v_blk hC (is := [(.aload_n 0, 0)]) (pc' := 30) (ls' := [(0, .ref (ga G 65)), (1, .int x1)]) (st' := [.ref (ga G 65)]) (by decide +kernel) rfl ?_
      refine gX12_0 hC lfX12_9 (by decide +kernel) ?_
      refine v_blk hC (is := [(.iload_n 1, 0)]) (pc' := 34) (ls' := [(0, .ref (ga G 65)), (1, .int x1)]) (st' := [.int x1, .ref (ga G 66)]) (by decide +kernel) rfl ?_
      obtain ⟨v5, s6, e7, h⟩ := bndI h
      refine v_cS (idx := 123) hC ⟨tt_at 1160 (by decide +kernel) rfl, tsX12_seasonsOn, tnX12_seasonsOn, tcX12_seasonsOn, tmX12_seasonsOn⟩ (c_X12_seasonsOn row66 e7) (by decide) (by decide) (by decide +kernel) (rest := []) rfl rfl (Nat.le_of_ble_eq_true rfl) rfl ?_
      refine v_blk hC (is := [(.aload_n 0, 0)]) (pc' := 38) (ls' := [(0, .ref (ga G 65)), (1, .int x1)]) (st' := [.ref (ga G 65)]) (by decide +kernel) rfl ?_
      refine gX12_0 hC lfX12_9 (by decide +kernel) ?_
      obtain ⟨v8, s9, e10, h⟩ := bndI h
      refine v_cS (idx := 89) hC ⟨tt_at 1246 (by decide +kernel) rfl, tsX12_lostSet, tnX12_lostSet, tcX12_lostSet, tmX12_lostSet⟩ (c_X12_lostSet row66 e10) (by decide) (by decide) (by decide +kernel) (rest := []) rfl rfl (Nat.le_of_ble_eq_true rfl) rfl ?_
      obtain ⟨v11, s12, e13, h⟩ := bndI h
      refine v_cS (idx := 126) hC ⟨tt_at 1249 (by decide +kernel) rfl, tsX12_bits, tnX12_bits, tcX12_bits, tmX12_bits⟩ (c_X12_bits e13) (by decide) (by decide) (by decide +kernel) (rest := []) rfl rfl (Nat.le_of_ble_eq_true rfl) rfl ?_
      exact v_iret hC h (by decide +kernel)
    · refine v_blk hC (is := [(.bipush (-3), (-3 : Int32))]) (pc' := 28) (ls' := [(0, .ref (ga G 65)), (1, .int x1)]) (st' := [.int (-3 : Int32)]) (by decide +kernel) rfl ?_
      exact v_iret hC h (by decide +kernel)
  · refine v_blk hC (is := [(.iconst (-1), (-1 : Int32))]) (pc' := 11) (ls' := [(0, .ref (ga G 65)), (1, .int x1)]) (st' := [.int (-1 : Int32)]) (by decide +kernel) rfl ?_
    exact v_iret hC h (by decide +kernel)

def p_X12_may (x1 : Int32) (x2 : Int32) (σ : Mem) : Option (Int32 × Mem) := (bnd (p_X12_areTwo x1 x2 σ) fun v1 s2 => (if v1 = 0 then some ((-1 : Int32), s2) else (bnd (p_X12_mayIn 66 x1 x2 s2) fun v4 s5 => (if v4 = 0 then some ((0 : Int32), s5) else some ((1 : Int32), s5)))))
set_option maxHeartbeats 4000000 in
set_option maxRecDepth 100000 in
theorem c_X12_may {G : Gl} {x1 : Int32} {x2 : Int32} {σ : Mem} {res : Int32 × Mem}  (h : p_X12_may x1 x2 σ = some res) : MetX G yX12_may cX12_may 3 (some .int) 5 [.ref (ga G 65), .int x1, .int x2] σ (some (.int res.1)) res.2 := by
  refine met_V (by decide +kernel) (Nat.le_of_ble_eq_true rfl) (fun X hC => ?_)
  have hC : Ok G 5 3 X cX12_may RX12 (some .int) := hC
  unfold p_X12_may at h
  show V G 5 3 X ((some (.int res.1)), res.2) σ [(0, .ref (ga G 65)), (1, .int x1), (2, .int x2)] [] 0
  refine v_blk hC (is := [(.aload_n 0, 0), (.iload_n 1, 0), (.iload_n 2, 0)]) (pc' := 3) (ls' := [(0, .ref (ga G 65)), (1, .int x1), (2, .int x2)]) (st' := [.int x2, .int x1, .ref (ga G 65)]) (by decide +kernel) rfl ?_
  obtain ⟨v1, s2, e3, h⟩ := bndI h
  refine v_cV (idx := 151) hC ⟨tt_at 1146 (by decide +kernel) rfl, tiX12_areTwo, tvX12_areTwo, tnX12_areTwo, tcX12_areTwo, tmX12_areTwo⟩ isO_X12 rfl (c_X12_areTwo e3) (by decide) (by decide) (by decide +kernel) (rest := []) rfl rfl (Nat.le_of_ble_eq_true rfl) rfl ?_
  refine v_if_ne hC (off := 7) (tgt := 13) (by decide +kernel) (by decide) h (fun hq h => ?_) (fun hq h => ?_)
  · refine v_blk hC (is := [(.aload_n 0, 0)]) (pc' := 14) (ls' := [(0, .ref (ga G 65)), (1, .int x1), (2, .int x2)]) (st' := [.ref (ga G 65)]) (by decide +kernel) rfl ?_
    refine gX12_0 hC lfX12_9 (by decide +kernel) ?_
    refine v_blk hC (is := [(.iload_n 1, 0), (.iload_n 2, 0)]) (pc' := 19) (ls' := [(0, .ref (ga G 65)), (1, .int x1), (2, .int x2)]) (st' := [.int x2, .int x1, .ref (ga G 66)]) (by decide +kernel) rfl ?_
    obtain ⟨v4, s5, e6, h⟩ := bndI h
    refine v_cS (idx := 111) hC ⟨tt_at 1193 (by decide +kernel) rfl, tsX12_mayIn, tnX12_mayIn, tcX12_mayIn, tmX12_mayIn⟩ (c_X12_mayIn row66 e6) (by decide) (by decide) (by decide +kernel) (rest := []) rfl rfl (Nat.le_of_ble_eq_true rfl) rfl ?_
    refine v_if_eq hC (off := 7) (tgt := 29) (by decide +kernel) (by decide) h (fun hq h => ?_) (fun hq h => ?_)
    · refine v_blk hC (is := [(.iconst 0, (0 : Int32))]) (pc' := 30) (ls' := [(0, .ref (ga G 65)), (1, .int x1), (2, .int x2)]) (st' := [.int (0 : Int32)]) (by decide +kernel) rfl ?_
      exact v_iret hC h (by decide +kernel)
    · refine v_blk hC (is := [(.iconst 1, (1 : Int32))]) (pc' := 26) (ls' := [(0, .ref (ga G 65)), (1, .int x1), (2, .int x2)]) (st' := [.int (1 : Int32)]) (by decide +kernel) rfl ?_
      refine v_goto hC (off := 4) (tgt := 30) (by decide +kernel) (by decide) ?_
      exact v_iret hC h (by decide +kernel)
  · refine v_blk hC (is := [(.iconst (-1), (-1 : Int32))]) (pc' := 10) (ls' := [(0, .ref (ga G 65)), (1, .int x1), (2, .int x2)]) (st' := [.int (-1 : Int32)]) (by decide +kernel) rfl ?_
    refine v_goto hC (off := 20) (tgt := 30) (by decide +kernel) (by decide) ?_
    exact v_iret hC h (by decide +kernel)

def p_X12_with_B49 (k14 : Int32 → Int32 → Mem → Option (Int32 × Mem)) (x1 : Int32) (x3 : Int32) (t0 : Int32) (t1 : Int32) (σ : Mem) : Option (Int32 × Mem) := k14 (t0 ||| t1) (x3 + (1 : Int32)) σ
def p_X12_with_B48 (k14 : Int32 → Int32 → Mem → Option (Int32 × Mem)) (x1 : Int32) (x3 : Int32) (t0 : Int32) (σ : Mem) : Option (Int32 × Mem) := (p_X12_with_B49 k14 x1) x3 t0 (0 : Int32) σ
def p_X12_with_B14 (k14 : Int32 → Int32 → Mem → Option (Int32 × Mem)) (k57 : Int32 → Mem → Option (Int32 × Mem)) (x1 : Int32) (x2 : Int32) (x3 : Int32) (σ : Mem) : Option (Int32 × Mem) := (if (0 : Int32) < 0 ∨ 100 ≤ ((0 : Int32)).toNatClampNeg then none else lt (σ 66 ((0 : Int32)).toNatClampNeg) fun v1 => (if v1 ≤ x3 then k57 x2 σ else (if x3 = x1 then (p_X12_with_B48 k14 x1) x3 x2 σ else (bnd (p_X12_mayIn 66 x1 x3 σ) fun v2 s3 => (if v2 = 0 then (p_X12_with_B48 k14 x1) x3 x2 s3 else (p_X12_with_B49 k14 x1) x3 x2 ((1 : Int32) <<< (x3 &&& 31)) s3)))))
def p_X12_with_L14 (k57 : Int32 → Mem → Option (Int32 × Mem)) (x1 : Int32) : Nat → Int32 → Int32 → Mem → Option (Int32 × Mem)
  | 0 => fun _ _ _ => none
  | f + 1 => p_X12_with_B14 (p_X12_with_L14 k57 x1 f) k57 x1
def p_X12_with (x1 : Int32) (σ : Mem) : Option (Int32 × Mem) := (bnd (p_X12_isMan x1 σ) fun v5 s6 => (if v5 = 0 then some ((-1 : Int32), s6) else (p_X12_with_L14 (fun (x2 : Int32) (m8 : Mem) => (bnd (p_X12_aliveSet 66 m8) fun v9 s10 => some ((x2 &&& v9), s10))) x1 1000) (0 : Int32) (0 : Int32) s6))
set_option maxHeartbeats 4000000 in
set_option maxRecDepth 100000 in
theorem c_X12_with {G : Gl} {x1 : Int32} {σ : Mem} {res : Int32 × Mem}  (h : p_X12_with x1 σ = some res) : MetX G yX12_with cX12_with 4 (some .int) 5 [.ref (ga G 65), .int x1] σ (some (.int res.1)) res.2 := by
  refine met_V (by decide +kernel) (Nat.le_of_ble_eq_true rfl) (fun X hC => ?_)
  have hC : Ok G 5 4 X cX12_with RX12 (some .int) := hC
  have hB49 : ∀ (k14 : Int32 → Int32 → Mem → Option (Int32 × Mem)), (∀ (x2 : Int32), ∀ (x3 : Int32), ∀ σ : Mem, k14 x2 x3 σ = some res → V G 5 4 X ((some (.int res.1)), res.2) σ [(0, .ref (ga G 65)), (1, .int x1), (2, .int x2), (3, .int x3)] [] 14) → ∀ (x3 : Int32), ∀ (t0 : Int32), ∀ (t1 : Int32), ∀ σ : Mem, p_X12_with_B49 k14 x1 x3 t0 t1 σ = some res → V G 5 4 X ((some (.int res.1)), res.2) σ [(0, .ref (ga G 65)), (1, .int x1), (3, .int x3)] [.int t1, .int t0] 49 := by
    intro k14 hk14 x3 t0 t1 σ h
    unfold p_X12_with_B49 at h
    refine v_blk hC (is := [(.ior, 0), (.istore_n 2, 0), (.iinc 3 1, (1 : Int32))]) (pc' := 54) (ls' := [(3, .int (x3 + (1 : Int32))), (2, .int (t0 ||| t1)), (0, .ref (ga G 65)), (1, .int x1)]) (st' := []) (by decide +kernel) rfl ?_
    refine v_goto hC (off := (-40)) (tgt := 14) (by decide +kernel) (by decide) ?_
    refine v_sub [2, 3, 1, 0] (ls' := [(0, .ref (ga G 65)), (1, .int x1), (2, .int (t0 ||| t1)), (3, .int (x3 + (1 : Int32)))]) rfl ?_
    exact hk14 _ _ _ h
  have hB48 : ∀ (k14 : Int32 → Int32 → Mem → Option (Int32 × Mem)), (∀ (x2 : Int32), ∀ (x3 : Int32), ∀ σ : Mem, k14 x2 x3 σ = some res → V G 5 4 X ((some (.int res.1)), res.2) σ [(0, .ref (ga G 65)), (1, .int x1), (2, .int x2), (3, .int x3)] [] 14) → ∀ (x3 : Int32), ∀ (t0 : Int32), ∀ σ : Mem, p_X12_with_B48 k14 x1 x3 t0 σ = some res → V G 5 4 X ((some (.int res.1)), res.2) σ [(0, .ref (ga G 65)), (1, .int x1), (3, .int x3)] [.int t0] 48 := by
    intro k14 hk14 x3 t0 σ h
    unfold p_X12_with_B48 at h
    refine v_blk hC (is := [(.iconst 0, (0 : Int32))]) (pc' := 49) (ls' := [(0, .ref (ga G 65)), (1, .int x1), (3, .int x3)]) (st' := [.int (0 : Int32), .int t0]) (by decide +kernel) rfl ?_
    exact (hB49 _ hk14) _ _ _ _ h
  have hB14 : ∀ (k14 : Int32 → Int32 → Mem → Option (Int32 × Mem)), ∀ (k57 : Int32 → Mem → Option (Int32 × Mem)), (∀ (x2 : Int32), ∀ (x3 : Int32), ∀ σ : Mem, k14 x2 x3 σ = some res → V G 5 4 X ((some (.int res.1)), res.2) σ [(0, .ref (ga G 65)), (1, .int x1), (2, .int x2), (3, .int x3)] [] 14) → (∀ (x2 : Int32), ∀ σ : Mem, k57 x2 σ = some res → V G 5 4 X ((some (.int res.1)), res.2) σ [(0, .ref (ga G 65)), (2, .int x2)] [] 57) → ∀ (x2 : Int32), ∀ (x3 : Int32), ∀ σ : Mem, p_X12_with_B14 k14 k57 x1 x2 x3 σ = some res → V G 5 4 X ((some (.int res.1)), res.2) σ [(0, .ref (ga G 65)), (1, .int x1), (2, .int x2), (3, .int x3)] [] 14 := by
    intro k14 k57 hk14 hk57 x2 x3 σ h
    unfold p_X12_with_B14 at h
    refine v_blk hC (is := [(.iload_n 3, 0), (.aload_n 0, 0)]) (pc' := 16) (ls' := [(0, .ref (ga G 65)), (1, .int x1), (2, .int x2), (3, .int x3)]) (st' := [.ref (ga G 65), .int x3]) (by decide +kernel) rfl ?_
    refine gX12_0 hC lfX12_9 (by decide +kernel) ?_
    refine v_blk hC (is := [(.iconst 0, (0 : Int32))]) (pc' := 20) (ls' := [(0, .ref (ga G 65)), (1, .int x1), (2, .int x2), (3, .int x3)]) (st' := [.int (0 : Int32), .ref (ga G 66), .int x3]) (by decide +kernel) rfl ?_
    refine v_iald hC isA_66 rfl (by decide +kernel) h (fun v1 h => ?_)
    refine v_icmp_ge hC (off := 36) (tgt := 57) (by decide +kernel) (by decide) h (fun hq h => ?_) (fun hq h => ?_)
    · refine v_sub [0, 2] (ls' := [(0, .ref (ga G 65)), (2, .int x2)]) rfl ?_
      exact hk57 _ _ h
    · refine v_blk hC (is := [(.iload_n 2, 0), (.iload_n 3, 0), (.iload_n 1, 0)]) (pc' := 27) (ls' := [(0, .ref (ga G 65)), (1, .int x1), (2, .int x2), (3, .int x3)]) (st' := [.int x1, .int x3, .int x2]) (by decide +kernel) rfl ?_
      refine v_icmp_eq hC (off := 21) (tgt := 48) (by decide +kernel) (by decide) h (fun hq h => ?_) (fun hq h => ?_)
      · refine v_sub [0, 1, 3] (ls' := [(0, .ref (ga G 65)), (1, .int x1), (3, .int x3)]) rfl ?_
        exact (hB48 _ hk14) _ _ _ h
      · refine v_blk hC (is := [(.aload_n 0, 0)]) (pc' := 31) (ls' := [(0, .ref (ga G 65)), (1, .int x1), (2, .int x2), (3, .int x3)]) (st' := [.ref (ga G 65), .int x2]) (by decide +kernel) rfl ?_
        refine gX12_0 hC lfX12_9 (by decide +kernel) ?_
        refine v_blk hC (is := [(.iload_n 1, 0), (.iload_n 3, 0)]) (pc' := 36) (ls' := [(0, .ref (ga G 65)), (1, .int x1), (2, .int x2), (3, .int x3)]) (st' := [.int x3, .int x1, .ref (ga G 66), .int x2]) (by decide +kernel) rfl ?_
        obtain ⟨v2, s3, e4, h⟩ := bndI h
        refine v_cS (idx := 111) hC ⟨tt_at 1193 (by decide +kernel) rfl, tsX12_mayIn, tnX12_mayIn, tcX12_mayIn, tmX12_mayIn⟩ (c_X12_mayIn row66 e4) (by decide) (by decide) (by decide +kernel) (rest := [.int x2]) rfl rfl (Nat.le_of_ble_eq_true rfl) rfl ?_
        refine v_if_eq hC (off := 9) (tgt := 48) (by decide +kernel) (by decide) h (fun hq h => ?_) (fun hq h => ?_)
        · refine v_sub [0, 1, 3] (ls' := [(0, .ref (ga G 65)), (1, .int x1), (3, .int x3)]) rfl ?_
          exact (hB48 _ hk14) _ _ _ h
        · refine v_blk hC (is := [(.iconst 1, (1 : Int32)), (.iload_n 3, 0), (.ishl, 0)]) (pc' := 45) (ls' := [(0, .ref (ga G 65)), (1, .int x1), (2, .int x2), (3, .int x3)]) (st' := [.int ((1 : Int32) <<< (x3 &&& 31)), .int x2]) (by decide +kernel) rfl ?_
          refine v_goto hC (off := 4) (tgt := 49) (by decide +kernel) (by decide) ?_
          refine v_sub [0, 1, 3] (ls' := [(0, .ref (ga G 65)), (1, .int x1), (3, .int x3)]) rfl ?_
          exact (hB49 _ hk14) _ _ _ _ h
  have hL14 : ∀ (k57 : Int32 → Mem → Option (Int32 × Mem)), (∀ (x2 : Int32), ∀ σ : Mem, k57 x2 σ = some res → V G 5 4 X ((some (.int res.1)), res.2) σ [(0, .ref (ga G 65)), (2, .int x2)] [] 57) → ∀ f : Nat, ∀ (x2 : Int32), ∀ (x3 : Int32), ∀ σ : Mem, p_X12_with_L14 k57 x1 f x2 x3 σ = some res → V G 5 4 X ((some (.int res.1)), res.2) σ [(0, .ref (ga G 65)), (1, .int x1), (2, .int x2), (3, .int x3)] [] 14 := by
    intro k57 hk57 f
    induction f with
    | zero => intro x2 x3 σ h; exact none_some h
    | succ f ih => intro x2 x3 σ h; exact hB14 (p_X12_with_L14 k57 x1 f) k57 ih hk57 x2 x3 σ h
  unfold p_X12_with at h
  show V G 5 4 X ((some (.int res.1)), res.2) σ [(0, .ref (ga G 65)), (1, .int x1)] [] 0
  refine v_blk hC (is := [(.aload_n 0, 0), (.iload_n 1, 0)]) (pc' := 2) (ls' := [(0, .ref (ga G 65)), (1, .int x1)]) (st' := [.int x1, .ref (ga G 65)]) (by decide +kernel) rfl ?_
  obtain ⟨v5, s6, e7, h⟩ := bndI h
  refine v_cV (idx := 53) hC ⟨tt_at 1150 (by decide +kernel) rfl, tiX12_isMan, tvX12_isMan, tnX12_isMan, tcX12_isMan, tmX12_isMan⟩ isO_X12 rfl (c_X12_isMan e7) (by decide) (by decide) (by decide +kernel) (rest := []) rfl rfl (Nat.le_of_ble_eq_true rfl) rfl ?_
  refine v_if_ne hC (off := 5) (tgt := 10) (by decide +kernel) (by decide) h (fun hq h => ?_) (fun hq h => ?_)
  · refine v_blk hC (is := [(.iconst 0, (0 : Int32)), (.istore_n 2, 0), (.iconst 0, (0 : Int32)), (.istore_n 3, 0)]) (pc' := 14) (ls' := [(3, .int (0 : Int32)), (2, .int (0 : Int32)), (0, .ref (ga G 65)), (1, .int x1)]) (st' := []) (by decide +kernel) rfl ?_
    refine v_sub [2, 3, 1, 0] (ls' := [(0, .ref (ga G 65)), (1, .int x1), (2, .int (0 : Int32)), (3, .int (0 : Int32))]) rfl ?_
    exact (hL14 _ (fun x2  m8 h => by
        refine v_blk hC (is := [(.iload_n 2, 0), (.aload_n 0, 0)]) (pc' := 59) (ls' := [(0, .ref (ga G 65)), (2, .int x2)]) (st' := [.ref (ga G 65), .int x2]) (by decide +kernel) rfl ?_
        refine gX12_0 hC lfX12_9 (by decide +kernel) ?_
        obtain ⟨v9, s10, e11, h⟩ := bndI h
        refine v_cS (idx := 180) hC ⟨tt_at 1260 (by decide +kernel) rfl, tsX12_aliveSet, tnX12_aliveSet, tcX12_aliveSet, tmX12_aliveSet⟩ (c_X12_aliveSet row66 e11) (by decide) (by decide) (by decide +kernel) (rest := [.int x2]) rfl rfl (Nat.le_of_ble_eq_true rfl) rfl ?_
        refine v_blk hC (is := [(.iand, 0)]) (pc' := 66) (ls' := [(0, .ref (ga G 65)), (2, .int x2)]) (st' := [.int (x2 &&& v9)]) (by decide +kernel) rfl ?_
        exact v_iret hC h (by decide +kernel)) 1000) _ _ _ h
  · refine v_blk hC (is := [(.iconst (-1), (-1 : Int32))]) (pc' := 9) (ls' := [(0, .ref (ga G 65)), (1, .int x1)]) (st' := [.int (-1 : Int32)]) (by decide +kernel) rfl ?_
    exact v_iret hC h (by decide +kernel)

def p_X12_lawful (x1 : Int32) (σ : Mem) : Option (Int32 × Mem) := (bnd (p_X12_isBoat x1 σ) fun v1 s2 => (if v1 = 0 then some ((-1 : Int32), s2) else (bnd (p_X12_crew 66 x1 s2) fun v4 s5 => (if (1 : Int32) < 0 ∨ 100 ≤ ((1 : Int32)).toNatClampNeg then none else lt (s5 66 ((1 : Int32)).toNatClampNeg) fun v7 => (bnd (p_X12_areLawful 66 v4 v7 s5) fun v8 s9 => (if v8 = 0 then some ((0 : Int32), s9) else some ((1 : Int32), s9)))))))
set_option maxHeartbeats 4000000 in
set_option maxRecDepth 100000 in
theorem c_X12_lawful {G : Gl} {x1 : Int32} {σ : Mem} {res : Int32 × Mem}  (h : p_X12_lawful x1 σ = some res) : MetX G yX12_lawful cX12_lawful 2 (some .int) 5 [.ref (ga G 65), .int x1] σ (some (.int res.1)) res.2 := by
  refine met_V (by decide +kernel) (Nat.le_of_ble_eq_true rfl) (fun X hC => ?_)
  have hC : Ok G 5 2 X cX12_lawful RX12 (some .int) := hC
  unfold p_X12_lawful at h
  show V G 5 2 X ((some (.int res.1)), res.2) σ [(0, .ref (ga G 65)), (1, .int x1)] [] 0
  refine v_blk hC (is := [(.iload_n 1, 0)]) (pc' := 1) (ls' := [(0, .ref (ga G 65)), (1, .int x1)]) (st' := [.int x1]) (by decide +kernel) rfl ?_
  obtain ⟨v1, s2, e3, h⟩ := bndI h
  refine v_cS (idx := 154) hC ⟨tt_at 1157 (by decide +kernel) rfl, tsX12_isBoat, tnX12_isBoat, tcX12_isBoat, tmX12_isBoat⟩ (c_X12_isBoat e3) (by decide) (by decide) (by decide +kernel) (rest := []) rfl rfl (Nat.le_of_ble_eq_true rfl) rfl ?_
  refine v_if_ne hC (off := 7) (tgt := 11) (by decide +kernel) (by decide) h (fun hq h => ?_) (fun hq h => ?_)
  · refine v_blk hC (is := [(.aload_n 0, 0)]) (pc' := 12) (ls' := [(0, .ref (ga G 65)), (1, .int x1)]) (st' := [.ref (ga G 65)]) (by decide +kernel) rfl ?_
    refine gX12_0 hC lfX12_9 (by decide +kernel) ?_
    refine v_blk hC (is := [(.aload_n 0, 0)]) (pc' := 16) (ls' := [(0, .ref (ga G 65)), (1, .int x1)]) (st' := [.ref (ga G 65), .ref (ga G 66)]) (by decide +kernel) rfl ?_
    refine gX12_0 hC lfX12_9 (by decide +kernel) ?_
    refine v_blk hC (is := [(.iload_n 1, 0)]) (pc' := 20) (ls' := [(0, .ref (ga G 65)), (1, .int x1)]) (st' := [.int x1, .ref (ga G 66), .ref (ga G 66)]) (by decide +kernel) rfl ?_
    obtain ⟨v4, s5, e6, h⟩ := bndI h
    refine v_cS (idx := 93) hC ⟨tt_at 1172 (by decide +kernel) rfl, tsX12_crew, tnX12_crew, tcX12_crew, tmX12_crew⟩ (c_X12_crew row66 e6) (by decide) (by decide) (by decide +kernel) (rest := [.ref (ga G 66)]) rfl rfl (Nat.le_of_ble_eq_true rfl) rfl ?_
    refine v_blk hC (is := [(.aload_n 0, 0)]) (pc' := 24) (ls' := [(0, .ref (ga G 65)), (1, .int x1)]) (st' := [.ref (ga G 65), .int v4, .ref (ga G 66)]) (by decide +kernel) rfl ?_
    refine gX12_0 hC lfX12_9 (by decide +kernel) ?_
    refine v_blk hC (is := [(.iconst 1, (1 : Int32))]) (pc' := 28) (ls' := [(0, .ref (ga G 65)), (1, .int x1)]) (st' := [.int (1 : Int32), .ref (ga G 66), .int v4, .ref (ga G 66)]) (by decide +kernel) rfl ?_
    refine v_iald hC isA_66 rfl (by decide +kernel) h (fun v7 h => ?_)
    obtain ⟨v8, s9, e10, h⟩ := bndI h
    refine v_cS (idx := 183) hC ⟨tt_at 1267 (by decide +kernel) rfl, tsX12_areLawful, tnX12_areLawful, tcX12_areLawful, tmX12_areLawful⟩ (c_X12_areLawful row66 e10) (by decide) (by decide) (by decide +kernel) (rest := []) rfl rfl (Nat.le_of_ble_eq_true rfl) rfl ?_
    refine v_if_eq hC (off := 7) (tgt := 39) (by decide +kernel) (by decide) h (fun hq h => ?_) (fun hq h => ?_)
    · refine v_blk hC (is := [(.iconst 0, (0 : Int32))]) (pc' := 40) (ls' := [(0, .ref (ga G 65)), (1, .int x1)]) (st' := [.int (0 : Int32)]) (by decide +kernel) rfl ?_
      exact v_iret hC h (by decide +kernel)
    · refine v_blk hC (is := [(.iconst 1, (1 : Int32))]) (pc' := 36) (ls' := [(0, .ref (ga G 65)), (1, .int x1)]) (st' := [.int (1 : Int32)]) (by decide +kernel) rfl ?_
      refine v_goto hC (off := 4) (tgt := 40) (by decide +kernel) (by decide) ?_
      exact v_iret hC h (by decide +kernel)
  · refine v_blk hC (is := [(.iconst (-1), (-1 : Int32))]) (pc' := 8) (ls' := [(0, .ref (ga G 65)), (1, .int x1)]) (st' := [.int (-1 : Int32)]) (by decide +kernel) rfl ?_
    refine v_goto hC (off := 32) (tgt := 40) (by decide +kernel) (by decide) ?_
    exact v_iret hC h (by decide +kernel)

def p_X12_largestBy_B56 (k13 : Int32 → Int32 → Int32 → Mem → Option (Int32 × Mem)) (x1 : Int32) (x2 : Int32) (x3 : Int32) (x4 : Int32) (σ : Mem) : Option (Int32 × Mem) := k13 x2 x3 (x4 + (1 : Int32)) σ
def p_X12_largestBy_B13 (k13 : Int32 → Int32 → Int32 → Mem → Option (Int32 × Mem)) (x1 : Int32) (x2 : Int32) (x3 : Int32) (x4 : Int32) (σ : Mem) : Option (Int32 × Mem) := (if x2 < x4 then some (x3, σ) else (if (x4 &&& (x2 ^^^ (-1 : Int32))) = 0 then (bnd (p_X12_bits x4 σ) fun v1 s2 => (bnd (p_X12_bits x3 s2) fun v4 s5 => (if v1 ≤ v4 then (p_X12_largestBy_B56 k13 x1) x2 x3 x4 s5 else (bnd (p_X12_areLawful 66 x4 x1 s5) fun v7 s8 => (if v7 = 0 then (p_X12_largestBy_B56 k13 x1) x2 x3 x4 s8 else (p_X12_largestBy_B56 k13 x1) x2 x4 x4 s8))))) else (p_X12_largestBy_B56 k13 x1) x2 x3 x4 σ))
def p_X12_largestBy_L13  (x1 : Int32) : Nat → Int32 → Int32 → Int32 → Mem → Option (Int32 × Mem)
  | 0 => fun _ _ _ _ => none
  | f + 1 => p_X12_largestBy_B13 (p_X12_largestBy_L13 x1 f) x1
def p_X12_largestBy (x1 : Int32) (σ : Mem) : Option (Int32 × Mem) := (bnd (p_X12_aliveSet 66 σ) fun v10 s11 => (p_X12_largestBy_L13 x1 1000) v10 (0 : Int32) (0 : Int32) s11)
set_option maxHeartbeats 4000000 in
set_option maxRecDepth 100000 in
theorem c_X12_largestBy {G : Gl} {x1 : Int32} {σ : Mem} {res : Int32 × Mem}  (h : p_X12_largestBy x1 σ = some res) : MetX G yX12_largestBy cX12_largestBy 5 (some .int) 5 [.ref (ga G 65), .int x1] σ (some (.int res.1)) res.2 := by
  refine met_V (by decide +kernel) (Nat.le_of_ble_eq_true rfl) (fun X hC => ?_)
  have hC : Ok G 5 5 X cX12_largestBy RX12 (some .int) := hC
  have hB56 : ∀ (k13 : Int32 → Int32 → Int32 → Mem → Option (Int32 × Mem)), (∀ (x2 : Int32), ∀ (x3 : Int32), ∀ (x4 : Int32), ∀ σ : Mem, k13 x2 x3 x4 σ = some res → V G 5 5 X ((some (.int res.1)), res.2) σ [(0, .ref (ga G 65)), (1, .int x1), (2, .int x2), (3, .int x3), (4, .int x4)] [] 13) → ∀ (x2 : Int32), ∀ (x3 : Int32), ∀ (x4 : Int32), ∀ σ : Mem, p_X12_largestBy_B56 k13 x1 x2 x3 x4 σ = some res → V G 5 5 X ((some (.int res.1)), res.2) σ [(0, .ref (ga G 65)), (1, .int x1), (2, .int x2), (3, .int x3), (4, .int x4)] [] 56 := by
    intro k13 hk13 x2 x3 x4 σ h
    unfold p_X12_largestBy_B56 at h
    refine v_blk hC (is := [(.iinc 4 1, (1 : Int32))]) (pc' := 59) (ls' := [(4, .int (x4 + (1 : Int32))), (0, .ref (ga G 65)), (1, .int x1), (2, .int x2), (3, .int x3)]) (st' := []) (by decide +kernel) rfl ?_
    refine v_goto hC (off := (-46)) (tgt := 13) (by decide +kernel) (by decide) ?_
    refine v_sub [1, 2, 3, 4, 0] (ls' := [(0, .ref (ga G 65)), (1, .int x1), (2, .int x2), (3, .int x3), (4, .int (x4 + (1 : Int32)))]) rfl ?_
    exact hk13 _ _ _ _ h
  have hB13 : ∀ (k13 : Int32 → Int32 → Int32 → Mem → Option (Int32 × Mem)), (∀ (x2 : Int32), ∀ (x3 : Int32), ∀ (x4 : Int32), ∀ σ : Mem, k13 x2 x3 x4 σ = some res → V G 5 5 X ((some (.int res.1)), res.2) σ [(0, .ref (ga G 65)), (1, .int x1), (2, .int x2), (3, .int x3), (4, .int x4)] [] 13) → ∀ (x2 : Int32), ∀ (x3 : Int32), ∀ (x4 : Int32), ∀ σ : Mem, p_X12_largestBy_B13 k13 x1 x2 x3 x4 σ = some res → V G 5 5 X ((some (.int res.1)), res.2) σ [(0, .ref (ga G 65)), (1, .int x1), (2, .int x2), (3, .int x3), (4, .int x4)] [] 13 := by
    intro k13 hk13 x2 x3 x4 σ h
    unfold p_X12_largestBy_B13 at h
    refine v_blk hC (is := [(.iload 4, 0), (.iload_n 2, 0)]) (pc' := 16) (ls' := [(0, .ref (ga G 65)), (1, .int x1), (2, .int x2), (3, .int x3), (4, .int x4)]) (st' := [.int x2, .int x4]) (by decide +kernel) rfl ?_
    refine v_icmp_gt hC (off := 46) (tgt := 62) (by decide +kernel) (by decide) h (fun hq h => ?_) (fun hq h => ?_)
    · refine v_blk hC (is := [(.iload_n 3, 0)]) (pc' := 63) (ls' := [(0, .ref (ga G 65)), (1, .int x1), (2, .int x2), (3, .int x3), (4, .int x4)]) (st' := [.int x3]) (by decide +kernel) rfl ?_
      exact v_iret hC h (by decide +kernel)
    · refine v_blk hC (is := [(.iload 4, 0), (.iload_n 2, 0), (.iconst (-1), (-1 : Int32)), (.ixor, 0), (.iand, 0)]) (pc' := 25) (ls' := [(0, .ref (ga G 65)), (1, .int x1), (2, .int x2), (3, .int x3), (4, .int x4)]) (st' := [.int (x4 &&& (x2 ^^^ (-1 : Int32)))]) (by decide +kernel) rfl ?_
      refine v_if_ne hC (off := 31) (tgt := 56) (by decide +kernel) (by decide) h (fun hq h => ?_) (fun hq h => ?_)
      · exact (hB56 _ hk13) _ _ _ _ h
      · refine v_blk hC (is := [(.iload 4, 0)]) (pc' := 30) (ls' := [(0, .ref (ga G 65)), (1, .int x1), (2, .int x2), (3, .int x3), (4, .int x4)]) (st' := [.int x4]) (by decide +kernel) rfl ?_
        obtain ⟨v1, s2, e3, h⟩ := bndI h
        refine v_cS (idx := 126) hC ⟨tt_at 1249 (by decide +kernel) rfl, tsX12_bits, tnX12_bits, tcX12_bits, tmX12_bits⟩ (c_X12_bits e3) (by decide) (by decide) (by decide +kernel) (rest := []) rfl rfl (Nat.le_of_ble_eq_true rfl) rfl ?_
        refine v_blk hC (is := [(.iload_n 3, 0)]) (pc' := 34) (ls' := [(0, .ref (ga G 65)), (1, .int x1), (2, .int x2), (3, .int x3), (4, .int x4)]) (st' := [.int x3, .int v1]) (by decide +kernel) rfl ?_
        obtain ⟨v4, s5, e6, h⟩ := bndI h
        refine v_cS (idx := 126) hC ⟨tt_at 1249 (by decide +kernel) rfl, tsX12_bits, tnX12_bits, tcX12_bits, tmX12_bits⟩ (c_X12_bits e6) (by decide) (by decide) (by decide +kernel) (rest := [.int v1]) rfl rfl (Nat.le_of_ble_eq_true rfl) rfl ?_
        refine v_icmp_le hC (off := 19) (tgt := 56) (by decide +kernel) (by decide) h (fun hq h => ?_) (fun hq h => ?_)
        · exact (hB56 _ hk13) _ _ _ _ h
        · refine v_blk hC (is := [(.aload_n 0, 0)]) (pc' := 41) (ls' := [(0, .ref (ga G 65)), (1, .int x1), (2, .int x2), (3, .int x3), (4, .int x4)]) (st' := [.ref (ga G 65)]) (by decide +kernel) rfl ?_
          refine gX12_0 hC lfX12_9 (by decide +kernel) ?_
          refine v_blk hC (is := [(.iload 4, 0), (.iload_n 1, 0)]) (pc' := 47) (ls' := [(0, .ref (ga G 65)), (1, .int x1), (2, .int x2), (3, .int x3), (4, .int x4)]) (st' := [.int x1, .int x4, .ref (ga G 66)]) (by decide +kernel) rfl ?_
          obtain ⟨v7, s8, e9, h⟩ := bndI h
          refine v_cS (idx := 183) hC ⟨tt_at 1267 (by decide +kernel) rfl, tsX12_areLawful, tnX12_areLawful, tcX12_areLawful, tmX12_areLawful⟩ (c_X12_areLawful row66 e9) (by decide) (by decide) (by decide +kernel) (rest := []) rfl rfl (Nat.le_of_ble_eq_true rfl) rfl ?_
          refine v_if_eq hC (off := 6) (tgt := 56) (by decide +kernel) (by decide) h (fun hq h => ?_) (fun hq h => ?_)
          · exact (hB56 _ hk13) _ _ _ _ h
          · refine v_blk hC (is := [(.iload 4, 0), (.istore_n 3, 0)]) (pc' := 56) (ls' := [(3, .int x4), (0, .ref (ga G 65)), (1, .int x1), (2, .int x2), (4, .int x4)]) (st' := []) (by decide +kernel) rfl ?_
            refine v_sub [1, 2, 3, 0, 4] (ls' := [(0, .ref (ga G 65)), (1, .int x1), (2, .int x2), (3, .int x4), (4, .int x4)]) rfl ?_
            exact (hB56 _ hk13) _ _ _ _ h
  have hL13 : ∀ f : Nat, ∀ (x2 : Int32), ∀ (x3 : Int32), ∀ (x4 : Int32), ∀ σ : Mem, p_X12_largestBy_L13 x1 f x2 x3 x4 σ = some res → V G 5 5 X ((some (.int res.1)), res.2) σ [(0, .ref (ga G 65)), (1, .int x1), (2, .int x2), (3, .int x3), (4, .int x4)] [] 13 := by
    intro  f
    induction f with
    | zero => intro x2 x3 x4 σ h; exact none_some h
    | succ f ih => intro x2 x3 x4 σ h; exact hB13 (p_X12_largestBy_L13 x1 f)  ih  x2 x3 x4 σ h
  unfold p_X12_largestBy at h
  show V G 5 5 X ((some (.int res.1)), res.2) σ [(0, .ref (ga G 65)), (1, .int x1)] [] 0
  refine v_blk hC (is := [(.aload_n 0, 0)]) (pc' := 1) (ls' := [(0, .ref (ga G 65)), (1, .int x1)]) (st' := [.ref (ga G 65)]) (by decide +kernel) rfl ?_
  refine gX12_0 hC lfX12_9 (by decide +kernel) ?_
  obtain ⟨v10, s11, e12, h⟩ := bndI h
  refine v_cS (idx := 180) hC ⟨tt_at 1260 (by decide +kernel) rfl, tsX12_aliveSet, tnX12_aliveSet, tcX12_aliveSet, tmX12_aliveSet⟩ (c_X12_aliveSet row66 e12) (by decide) (by decide) (by decide +kernel) (rest := []) rfl rfl (Nat.le_of_ble_eq_true rfl) rfl ?_
  refine v_blk hC (is := [(.istore_n 2, 0), (.iconst 0, (0 : Int32)), (.istore_n 3, 0), (.iconst 0, (0 : Int32)), (.istore 4, 0)]) (pc' := 13) (ls' := [(4, .int (0 : Int32)), (3, .int (0 : Int32)), (2, .int v10), (0, .ref (ga G 65)), (1, .int x1)]) (st' := []) (by decide +kernel) rfl ?_
  refine v_sub [3, 4, 2, 1, 0] (ls' := [(0, .ref (ga G 65)), (1, .int x1), (2, .int v10), (3, .int (0 : Int32)), (4, .int (0 : Int32))]) rfl ?_
  exact (hL13 1000) _ _ _ _ h

def p_X12_largest (x1 : Int32) (σ : Mem) : Option (Int32 × Mem) := (bnd (p_X12_isIn x1 (0 : Int32) (1 : Int32) σ) fun v1 s2 => (if v1 = 0 then some ((-1 : Int32), s2) else (if x1 = 0 then (if (1 : Int32) < 0 ∨ 100 ≤ ((1 : Int32)).toNatClampNeg then none else lt (s2 66 ((1 : Int32)).toNatClampNeg) fun v11 => (bnd (p_X12_largestBy v11 s2) fun v12 s13 => some (v12, s13))) else (if (1 : Int32) < 0 ∨ 100 ≤ ((1 : Int32)).toNatClampNeg then none else lt (s2 66 ((1 : Int32)).toNatClampNeg) fun v4 => (bnd (p_X12_largestBy v4 s2) fun v5 s6 => (bnd (p_X12_bits v5 s6) fun v8 s9 => some (v8, s9)))))))
set_option maxHeartbeats 4000000 in
set_option maxRecDepth 100000 in
theorem c_X12_largest {G : Gl} {x1 : Int32} {σ : Mem} {res : Int32 × Mem}  (h : p_X12_largest x1 σ = some res) : MetX G yX12_largest cX12_largest 2 (some .int) 6 [.ref (ga G 65), .int x1] σ (some (.int res.1)) res.2 := by
  refine met_V (by decide +kernel) (Nat.le_of_ble_eq_true rfl) (fun X hC => ?_)
  have hC : Ok G 6 2 X cX12_largest RX12 (some .int) := hC
  unfold p_X12_largest at h
  show V G 6 2 X ((some (.int res.1)), res.2) σ [(0, .ref (ga G 65)), (1, .int x1)] [] 0
  refine v_blk hC (is := [(.iload_n 1, 0), (.iconst 0, (0 : Int32)), (.iconst 1, (1 : Int32))]) (pc' := 3) (ls' := [(0, .ref (ga G 65)), (1, .int x1)]) (st' := [.int (1 : Int32), .int (0 : Int32), .int x1]) (by decide +kernel) rfl ?_
  obtain ⟨v1, s2, e3, h⟩ := bndI h
  refine v_cS (idx := 49) hC ⟨tt_at 1118 (by decide +kernel) rfl, tsX12_isIn, tnX12_isIn, tcX12_isIn, tmX12_isIn⟩ (c_X12_isIn e3) (by decide) (by decide) (by decide +kernel) (rest := []) rfl rfl (Nat.le_of_ble_eq_true rfl) rfl ?_
  refine v_if_ne hC (off := 5) (tgt := 11) (by decide +kernel) (by decide) h (fun hq h => ?_) (fun hq h => ?_)
  · refine v_blk hC (is := [(.iload_n 1, 0)]) (pc' := 12) (ls' := [(0, .ref (ga G 65)), (1, .int x1)]) (st' := [.int x1]) (by decide +kernel) rfl ?_
    refine v_if_ne hC (off := 16) (tgt := 28) (by decide +kernel) (by decide) h (fun hq h => ?_) (fun hq h => ?_)
    · refine v_blk hC (is := [(.aload_n 0, 0), (.aload_n 0, 0)]) (pc' := 30) (ls' := [(0, .ref (ga G 65)), (1, .int x1)]) (st' := [.ref (ga G 65), .ref (ga G 65)]) (by decide +kernel) rfl ?_
      refine gX12_0 hC lfX12_9 (by decide +kernel) ?_
      refine v_blk hC (is := [(.iconst 1, (1 : Int32))]) (pc' := 34) (ls' := [(0, .ref (ga G 65)), (1, .int x1)]) (st' := [.int (1 : Int32), .ref (ga G 66), .ref (ga G 65)]) (by decide +kernel) rfl ?_
      refine v_iald hC isA_66 rfl (by decide +kernel) h (fun v4 h => ?_)
      obtain ⟨v5, s6, e7, h⟩ := bndI h
      refine v_cV (idx := 186) hC ⟨tt_at 1274 (by decide +kernel) rfl, tiX12_largestBy, tvX12_largestBy, tnX12_largestBy, tcX12_largestBy, tmX12_largestBy⟩ isO_X12 rfl (c_X12_largestBy e7) (by decide) (by decide) (by decide +kernel) (rest := []) rfl rfl (Nat.le_of_ble_eq_true rfl) rfl ?_
      obtain ⟨v8, s9, e10, h⟩ := bndI h
      refine v_cS (idx := 126) hC ⟨tt_at 1249 (by decide +kernel) rfl, tsX12_bits, tnX12_bits, tcX12_bits, tmX12_bits⟩ (c_X12_bits e10) (by decide) (by decide) (by decide +kernel) (rest := []) rfl rfl (Nat.le_of_ble_eq_true rfl) rfl ?_
      exact v_iret hC h (by decide +kernel)
    · refine v_blk hC (is := [(.aload_n 0, 0), (.aload_n 0, 0)]) (pc' := 17) (ls' := [(0, .ref (ga G 65)), (1, .int x1)]) (st' := [.ref (ga G 65), .ref (ga G 65)]) (by decide +kernel) rfl ?_
      refine gX12_0 hC lfX12_9 (by decide +kernel) ?_
      refine v_blk hC (is := [(.iconst 1, (1 : Int32))]) (pc' := 21) (ls' := [(0, .ref (ga G 65)), (1, .int x1)]) (st' := [.int (1 : Int32), .ref (ga G 66), .ref (ga G 65)]) (by decide +kernel) rfl ?_
      refine v_iald hC isA_66 rfl (by decide +kernel) h (fun v11 h => ?_)
      obtain ⟨v12, s13, e14, h⟩ := bndI h
      refine v_cV (idx := 186) hC ⟨tt_at 1274 (by decide +kernel) rfl, tiX12_largestBy, tvX12_largestBy, tnX12_largestBy, tcX12_largestBy, tmX12_largestBy⟩ isO_X12 rfl (c_X12_largestBy e14) (by decide) (by decide) (by decide +kernel) (rest := []) rfl rfl (Nat.le_of_ble_eq_true rfl) rfl ?_
      refine v_goto hC (off := 16) (tgt := 41) (by decide +kernel) (by decide) ?_
      exact v_iret hC h (by decide +kernel)
  · refine v_blk hC (is := [(.iconst (-1), (-1 : Int32))]) (pc' := 10) (ls' := [(0, .ref (ga G 65)), (1, .int x1)]) (st' := [.int (-1 : Int32)]) (by decide +kernel) rfl ?_
    exact v_iret hC h (by decide +kernel)

def p_X12_isPlaced_B93 (k56 : Int32 → Int32 → Int32 → Mem → Option (Int32 × Mem)) (rc : Int32 → Int32 → Mem → Option (Int32 × Mem)) (x1 : Int32) (x2 : Int32) (x3 : Int32) (x5 : Int32) (t0 : Int32) (t1 : Int32) (σ : Mem) : Option (Int32 × Mem) := k56 x3 (t0 &&& t1) (x5 + (1 : Int32)) σ
def p_X12_isPlaced_B88 (k56 : Int32 → Int32 → Int32 → Mem → Option (Int32 × Mem)) (rc : Int32 → Int32 → Mem → Option (Int32 × Mem)) (x1 : Int32) (x2 : Int32) (x3 : Int32) (x5 : Int32) (t0 : Int32) (σ : Mem) : Option (Int32 × Mem) := (p_X12_isPlaced_B93 k56 rc x1 x2) x3 x5 t0 (1 : Int32) σ
def p_X12_isPlaced_B127 (k45 : Int32 → Mem → Option (Int32 × Mem)) (rc : Int32 → Int32 → Mem → Option (Int32 × Mem)) (x1 : Int32) (x2 : Int32) (x3 : Int32) (σ : Mem) : Option (Int32 × Mem) := k45 (x3 + (1 : Int32)) σ
def p_X12_isPlaced_B56 (k56 : Int32 → Int32 → Int32 → Mem → Option (Int32 × Mem)) (k102 : Int32 → Int32 → Mem → Option (Int32 × Mem)) (rc : Int32 → Int32 → Mem → Option (Int32 × Mem)) (x1 : Int32) (x2 : Int32) (x3 : Int32) (x4 : Int32) (x5 : Int32) (σ : Mem) : Option (Int32 × Mem) := (if x1 ≤ x5 then k102 x3 x4 σ else (if x5 < 0 ∨ 8 ≤ (x5).toNatClampNeg then none else lt (σ 71 (x5).toNatClampNeg) fun v1 => (if v1 = x3 then (bnd (p_X12_mayIn 66 x1 x5 σ) fun v2 s3 => (if v2 = 0 then (p_X12_isPlaced_B93 k56 rc x1 x2) x3 x5 x4 (0 : Int32) s3 else (p_X12_isPlaced_B88 k56 rc x1 x2) x3 x5 x4 s3)) else (p_X12_isPlaced_B88 k56 rc x1 x2) x3 x5 x4 σ)))
def p_X12_isPlaced_L56 (k102 : Int32 → Int32 → Mem → Option (Int32 × Mem)) (rc : Int32 → Int32 → Mem → Option (Int32 × Mem)) (x1 : Int32) (x2 : Int32) : Nat → Int32 → Int32 → Int32 → Mem → Option (Int32 × Mem)
  | 0 => fun _ _ _ _ => none
  | f + 1 => p_X12_isPlaced_B56 (p_X12_isPlaced_L56 k102 rc x1 x2 f) k102 rc x1 x2
def p_X12_isPlaced_B45 (k45 : Int32 → Mem → Option (Int32 × Mem)) (rc : Int32 → Int32 → Mem → Option (Int32 × Mem)) (x1 : Int32) (x2 : Int32) (x3 : Int32) (σ : Mem) : Option (Int32 × Mem) := (if x2 ≤ x3 then some ((0 : Int32), σ) else (p_X12_isPlaced_L56 (fun (x3 : Int32) (x4 : Int32) (m5 : Mem) => (if x1 < 0 ∨ 8 ≤ (x1).toNatClampNeg then none else wr m5 71 (x1).toNatClampNeg x3 fun s6 => (if x4 = 0 then (p_X12_isPlaced_B127 k45 rc x1 x2) x3 s6 else (bnd (rc (x1 + (1 : Int32)) x2 s6) fun v7 s8 => (if v7 = 0 then (p_X12_isPlaced_B127 k45 rc x1 x2) x3 s8 else some ((1 : Int32), s8)))))) rc x1 x2 1000) x3 (1 : Int32) (0 : Int32) σ)
def p_X12_isPlaced_L45  (rc : Int32 → Int32 → Mem → Option (Int32 × Mem)) (x1 : Int32) (x2 : Int32) : Nat → Int32 → Mem → Option (Int32 × Mem)
  | 0 => fun _ _ => none
  | f + 1 => p_X12_isPlaced_B45 (p_X12_isPlaced_L45 rc x1 x2 f) rc x1 x2
def p_X12_isPlaced_E (rc : Int32 → Int32 → Mem → Option (Int32 × Mem)) (x1 : Int32) (x2 : Int32) (σ : Mem) : Option (Int32 × Mem) := (if (0 : Int32) < 0 ∨ 100 ≤ ((0 : Int32)).toNatClampNeg then none else lt (σ 66 ((0 : Int32)).toNatClampNeg) fun v10 => (if x1 = v10 then some ((1 : Int32), σ) else (bnd (p_X12_of x1 (3 : Int32) σ) fun v11 s12 => (if v11 < 0 ∨ 100 ≤ (v11).toNatClampNeg then none else lt (s12 66 (v11).toNatClampNeg) fun v14 => (if v14 = (1 : Int32) then (if x1 < 0 ∨ 8 ≤ (x1).toNatClampNeg then none else wr s12 71 (x1).toNatClampNeg (-4 : Int32) fun s15 => (bnd (rc (x1 + (1 : Int32)) x2 s15) fun v16 s17 => rz v16 s17)) else (p_X12_isPlaced_L45 rc x1 x2 1000) (0 : Int32) s12)))))
def p_X12_isPlaced : Nat → Int32 → Int32 → Mem → Option (Int32 × Mem)
  | 0 => fun _ _ _ => none
  | d + 1 => p_X12_isPlaced_E (p_X12_isPlaced d)
set_option maxHeartbeats 4000000 in
set_option maxRecDepth 100000 in
theorem c_X12_isPlaced {G : Gl} : ∀ (d : Nat) {x1 : Int32} {x2 : Int32} {σ : Mem} {res : Int32 × Mem} , p_X12_isPlaced d x1 x2 σ = some res → MetX G yX12_isPlaced cX12_isPlaced 6 (some .boolean) (5 + d) [.ref (ga G 65), .int x1, .int x2] σ (some (.int res.1)) res.2 := by
  intro d
  induction d with
  | zero => intro x1 x2 σ res h; exact none_some h
  | succ d ih =>
    intro x1 x2 σ res h
    refine met_V (by decide +kernel) (Nat.le_of_ble_eq_true rfl) (fun X hC => ?_)
    have hC : Ok G (5 + d + 1) 6 X cX12_isPlaced RX12 (some .boolean) := hC
    have hB93 : ∀ (k56 : Int32 → Int32 → Int32 → Mem → Option (Int32 × Mem)), (∀ (x3 : Int32), ∀ (x4 : Int32), ∀ (x5 : Int32), ∀ σ : Mem, k56 x3 x4 x5 σ = some res → V G (5 + d + 1) 6 X ((some (.int res.1)), res.2) σ [(0, .ref (ga G 65)), (1, .int x1), (2, .int x2), (3, .int x3), (4, .int x4), (5, .int x5)] [] 56) → ∀ (x3 : Int32), ∀ (x5 : Int32), ∀ (t0 : Int32), ∀ (t1 : Int32), ∀ σ : Mem, p_X12_isPlaced_B93 k56 (p_X12_isPlaced d) x1 x2 x3 x5 t0 t1 σ = some res → V G (5 + d + 1) 6 X ((some (.int res.1)), res.2) σ [(0, .ref (ga G 65)), (1, .int x1), (2, .int x2), (3, .int x3), (5, .int x5)] [.int t1, .int t0] 93 := by
      intro k56 hk56 x3 x5 t0 t1 σ h
      unfold p_X12_isPlaced_B93 at h
      refine v_blk hC (is := [(.iand, 0), (.istore 4, 0), (.iinc 5 1, (1 : Int32))]) (pc' := 99) (ls' := [(5, .int (x5 + (1 : Int32))), (4, .int (t0 &&& t1)), (0, .ref (ga G 65)), (1, .int x1), (2, .int x2), (3, .int x3)]) (st' := []) (by decide +kernel) rfl ?_
      refine v_goto hC (off := (-43)) (tgt := 56) (by decide +kernel) (by decide) ?_
      refine v_sub [2, 3, 4, 5, 1, 0] (ls' := [(0, .ref (ga G 65)), (1, .int x1), (2, .int x2), (3, .int x3), (4, .int (t0 &&& t1)), (5, .int (x5 + (1 : Int32)))]) rfl ?_
      exact hk56 _ _ _ _ h
    have hB88 : ∀ (k56 : Int32 → Int32 → Int32 → Mem → Option (Int32 × Mem)), (∀ (x3 : Int32), ∀ (x4 : Int32), ∀ (x5 : Int32), ∀ σ : Mem, k56 x3 x4 x5 σ = some res → V G (5 + d + 1) 6 X ((some (.int res.1)), res.2) σ [(0, .ref (ga G 65)), (1, .int x1), (2, .int x2), (3, .int x3), (4, .int x4), (5, .int x5)] [] 56) → ∀ (x3 : Int32), ∀ (x5 : Int32), ∀ (t0 : Int32), ∀ σ : Mem, p_X12_isPlaced_B88 k56 (p_X12_isPlaced d) x1 x2 x3 x5 t0 σ = some res → V G (5 + d + 1) 6 X ((some (.int res.1)), res.2) σ [(0, .ref (ga G 65)), (1, .int x1), (2, .int x2), (3, .int x3), (5, .int x5)] [.int t0] 88 := by
      intro k56 hk56 x3 x5 t0 σ h
      unfold p_X12_isPlaced_B88 at h
      refine v_blk hC (is := [(.iconst 1, (1 : Int32))]) (pc' := 89) (ls' := [(0, .ref (ga G 65)), (1, .int x1), (2, .int x2), (3, .int x3), (5, .int x5)]) (st' := [.int (1 : Int32), .int t0]) (by decide +kernel) rfl ?_
      refine v_goto hC (off := 4) (tgt := 93) (by decide +kernel) (by decide) ?_
      exact (hB93 _ hk56) _ _ _ _ _ h
    have hB127 : ∀ (k45 : Int32 → Mem → Option (Int32 × Mem)), (∀ (x3 : Int32), ∀ σ : Mem, k45 x3 σ = some res → V G (5 + d + 1) 6 X ((some (.int res.1)), res.2) σ [(0, .ref (ga G 65)), (1, .int x1), (2, .int x2), (3, .int x3)] [] 45) → ∀ (x3 : Int32), ∀ σ : Mem, p_X12_isPlaced_B127 k45 (p_X12_isPlaced d) x1 x2 x3 σ = some res → V G (5 + d + 1) 6 X ((some (.int res.1)), res.2) σ [(0, .ref (ga G 65)), (1, .int x1), (2, .int x2), (3, .int x3)] [] 127 := by
      intro k45 hk45 x3 σ h
      unfold p_X12_isPlaced_B127 at h
      refine v_blk hC (is := [(.iinc 3 1, (1 : Int32))]) (pc' := 130) (ls' := [(3, .int (x3 + (1 : Int32))), (0, .ref (ga G 65)), (1, .int x1), (2, .int x2)]) (st' := []) (by decide +kernel) rfl ?_
      refine v_goto hC (off := (-85)) (tgt := 45) (by decide +kernel) (by decide) ?_
      refine v_sub [1, 2, 3, 0] (ls' := [(0, .ref (ga G 65)), (1, .int x1), (2, .int x2), (3, .int (x3 + (1 : Int32)))]) rfl ?_
      exact hk45 _ _ h
    have hB56 : ∀ (k56 : Int32 → Int32 → Int32 → Mem → Option (Int32 × Mem)), ∀ (k102 : Int32 → Int32 → Mem → Option (Int32 × Mem)), (∀ (x3 : Int32), ∀ (x4 : Int32), ∀ (x5 : Int32), ∀ σ : Mem, k56 x3 x4 x5 σ = some res → V G (5 + d + 1) 6 X ((some (.int res.1)), res.2) σ [(0, .ref (ga G 65)), (1, .int x1), (2, .int x2), (3, .int x3), (4, .int x4), (5, .int x5)] [] 56) → (∀ (x3 : Int32), ∀ (x4 : Int32), ∀ σ : Mem, k102 x3 x4 σ = some res → V G (5 + d + 1) 6 X ((some (.int res.1)), res.2) σ [(0, .ref (ga G 65)), (1, .int x1), (2, .int x2), (3, .int x3), (4, .int x4)] [] 102) → ∀ (x3 : Int32), ∀ (x4 : Int32), ∀ (x5 : Int32), ∀ σ : Mem, p_X12_isPlaced_B56 k56 k102 (p_X12_isPlaced d) x1 x2 x3 x4 x5 σ = some res → V G (5 + d + 1) 6 X ((some (.int res.1)), res.2) σ [(0, .ref (ga G 65)), (1, .int x1), (2, .int x2), (3, .int x3), (4, .int x4), (5, .int x5)] [] 56 := by
      intro k56 k102 hk56 hk102 x3 x4 x5 σ h
      unfold p_X12_isPlaced_B56 at h
      refine v_blk hC (is := [(.iload 5, 0), (.iload_n 1, 0)]) (pc' := 59) (ls' := [(0, .ref (ga G 65)), (1, .int x1), (2, .int x2), (3, .int x3), (4, .int x4), (5, .int x5)]) (st' := [.int x1, .int x5]) (by decide +kernel) rfl ?_
      refine v_icmp_ge hC (off := 43) (tgt := 102) (by decide +kernel) (by decide) h (fun hq h => ?_) (fun hq h => ?_)
      · refine v_sub [0, 1, 2, 3, 4] (ls' := [(0, .ref (ga G 65)), (1, .int x1), (2, .int x2), (3, .int x3), (4, .int x4)]) rfl ?_
        exact hk102 _ _ _ h
      · refine v_blk hC (is := [(.iload 4, 0), (.aload_n 0, 0)]) (pc' := 65) (ls' := [(0, .ref (ga G 65)), (1, .int x1), (2, .int x2), (3, .int x3), (4, .int x4), (5, .int x5)]) (st' := [.ref (ga G 65), .int x4]) (by decide +kernel) rfl ?_
        refine gX12_9 hC lfX12_25 (by decide +kernel) ?_
        refine v_blk hC (is := [(.iload 5, 0)]) (pc' := 70) (ls' := [(0, .ref (ga G 65)), (1, .int x1), (2, .int x2), (3, .int x3), (4, .int x4), (5, .int x5)]) (st' := [.int x5, .ref (ga G 71), .int x4]) (by decide +kernel) rfl ?_
        refine v_iald hC isA_71 rfl (by decide +kernel) h (fun v1 h => ?_)
        refine v_blk hC (is := [(.iload_n 3, 0)]) (pc' := 72) (ls' := [(0, .ref (ga G 65)), (1, .int x1), (2, .int x2), (3, .int x3), (4, .int x4), (5, .int x5)]) (st' := [.int x3, .int v1, .int x4]) (by decide +kernel) rfl ?_
        refine v_icmp_ne hC (off := 16) (tgt := 88) (by decide +kernel) (by decide) h (fun hq h => ?_) (fun hq h => ?_)
        · refine v_sub [0, 1, 2, 3, 5] (ls' := [(0, .ref (ga G 65)), (1, .int x1), (2, .int x2), (3, .int x3), (5, .int x5)]) rfl ?_
          exact (hB88 _ hk56) _ _ _ _ h
        · refine v_blk hC (is := [(.aload_n 0, 0)]) (pc' := 76) (ls' := [(0, .ref (ga G 65)), (1, .int x1), (2, .int x2), (3, .int x3), (4, .int x4), (5, .int x5)]) (st' := [.ref (ga G 65), .int x4]) (by decide +kernel) rfl ?_
          refine gX12_0 hC lfX12_9 (by decide +kernel) ?_
          refine v_blk hC (is := [(.iload_n 1, 0), (.iload 5, 0)]) (pc' := 82) (ls' := [(0, .ref (ga G 65)), (1, .int x1), (2, .int x2), (3, .int x3), (4, .int x4), (5, .int x5)]) (st' := [.int x5, .int x1, .ref (ga G 66), .int x4]) (by decide +kernel) rfl ?_
          obtain ⟨v2, s3, e4, h⟩ := bndI h
          refine v_cS (idx := 111) hC ⟨tt_at 1193 (by decide +kernel) rfl, tsX12_mayIn, tnX12_mayIn, tcX12_mayIn, tmX12_mayIn⟩ (c_X12_mayIn row66 e4) (by omega) (by decide) (by decide +kernel) (rest := [.int x4]) rfl rfl (Nat.le_of_ble_eq_true rfl) rfl ?_
          refine v_if_eq hC (off := 7) (tgt := 92) (by decide +kernel) (by decide) h (fun hq h => ?_) (fun hq h => ?_)
          · refine v_blk hC (is := [(.iconst 0, (0 : Int32))]) (pc' := 93) (ls' := [(0, .ref (ga G 65)), (1, .int x1), (2, .int x2), (3, .int x3), (4, .int x4), (5, .int x5)]) (st' := [.int (0 : Int32), .int x4]) (by decide +kernel) rfl ?_
            refine v_sub [0, 1, 2, 3, 5] (ls' := [(0, .ref (ga G 65)), (1, .int x1), (2, .int x2), (3, .int x3), (5, .int x5)]) rfl ?_
            exact (hB93 _ hk56) _ _ _ _ _ h
          · refine v_sub [0, 1, 2, 3, 5] (ls' := [(0, .ref (ga G 65)), (1, .int x1), (2, .int x2), (3, .int x3), (5, .int x5)]) rfl ?_
            exact (hB88 _ hk56) _ _ _ _ h
    have hL56 : ∀ (k102 : Int32 → Int32 → Mem → Option (Int32 × Mem)), (∀ (x3 : Int32), ∀ (x4 : Int32), ∀ σ : Mem, k102 x3 x4 σ = some res → V G (5 + d + 1) 6 X ((some (.int res.1)), res.2) σ [(0, .ref (ga G 65)), (1, .int x1), (2, .int x2), (3, .int x3), (4, .int x4)] [] 102) → ∀ f : Nat, ∀ (x3 : Int32), ∀ (x4 : Int32), ∀ (x5 : Int32), ∀ σ : Mem, p_X12_isPlaced_L56 k102 (p_X12_isPlaced d) x1 x2 f x3 x4 x5 σ = some res → V G (5 + d + 1) 6 X ((some (.int res.1)), res.2) σ [(0, .ref (ga G 65)), (1, .int x1), (2, .int x2), (3, .int x3), (4, .int x4), (5, .int x5)] [] 56 := by
      intro k102 hk102 f
      induction f with
      | zero => intro x3 x4 x5 σ h; exact none_some h
      | succ f ih => intro x3 x4 x5 σ h; exact hB56 (p_X12_isPlaced_L56 k102 (p_X12_isPlaced d) x1 x2 f) k102 ih hk102 x3 x4 x5 σ h
    have hB45 : ∀ (k45 : Int32 → Mem → Option (Int32 × Mem)), (∀ (x3 : Int32), ∀ σ : Mem, k45 x3 σ = some res → V G (5 + d + 1) 6 X ((some (.int res.1)), res.2) σ [(0, .ref (ga G 65)), (1, .int x1), (2, .int x2), (3, .int x3)] [] 45) → ∀ (x3 : Int32), ∀ σ : Mem, p_X12_isPlaced_B45 k45 (p_X12_isPlaced d) x1 x2 x3 σ = some res → V G (5 + d + 1) 6 X ((some (.int res.1)), res.2) σ [(0, .ref (ga G 65)), (1, .int x1), (2, .int x2), (3, .int x3)] [] 45 := by
      intro k45 hk45 x3 σ h
      unfold p_X12_isPlaced_B45 at h
      refine v_blk hC (is := [(.iload_n 3, 0), (.iload_n 2, 0)]) (pc' := 47) (ls' := [(0, .ref (ga G 65)), (1, .int x1), (2, .int x2), (3, .int x3)]) (st' := [.int x2, .int x3]) (by decide +kernel) rfl ?_
      refine v_icmp_ge hC (off := 86) (tgt := 133) (by decide +kernel) (by decide) h (fun hq h => ?_) (fun hq h => ?_)
      · refine v_blk hC (is := [(.iconst 0, (0 : Int32))]) (pc' := 134) (ls' := [(0, .ref (ga G 65)), (1, .int x1), (2, .int x2), (3, .int x3)]) (st' := [.int (0 : Int32)]) (by decide +kernel) rfl ?_
        exact v_zret hC rfl h (by decide +kernel)
      · refine v_blk hC (is := [(.iconst 1, (1 : Int32)), (.istore 4, 0), (.iconst 0, (0 : Int32)), (.istore 5, 0)]) (pc' := 56) (ls' := [(5, .int (0 : Int32)), (4, .int (1 : Int32)), (0, .ref (ga G 65)), (1, .int x1), (2, .int x2), (3, .int x3)]) (st' := []) (by decide +kernel) rfl ?_
        refine v_sub [2, 3, 4, 5, 1, 0] (ls' := [(0, .ref (ga G 65)), (1, .int x1), (2, .int x2), (3, .int x3), (4, .int (1 : Int32)), (5, .int (0 : Int32))]) rfl ?_
        exact (hL56 _ (fun x3 x4  m5 h => by
              refine v_blk hC (is := [(.aload_n 0, 0)]) (pc' := 103) (ls' := [(0, .ref (ga G 65)), (1, .int x1), (2, .int x2), (3, .int x3), (4, .int x4)]) (st' := [.ref (ga G 65)]) (by decide +kernel) rfl ?_
              refine gX12_9 hC lfX12_25 (by decide +kernel) ?_
              refine v_blk hC (is := [(.iload_n 1, 0), (.iload_n 3, 0)]) (pc' := 108) (ls' := [(0, .ref (ga G 65)), (1, .int x1), (2, .int x2), (3, .int x3), (4, .int x4)]) (st' := [.int x3, .int x1, .ref (ga G 71)]) (by decide +kernel) rfl ?_
              refine v_iast hC isA_71 rfl (by decide +kernel) h (fun s6 h => ?_)
              refine v_blk hC (is := [(.iload 4, 0)]) (pc' := 111) (ls' := [(0, .ref (ga G 65)), (1, .int x1), (2, .int x2), (3, .int x3), (4, .int x4)]) (st' := [.int x4]) (by decide +kernel) rfl ?_
              refine v_if_eq hC (off := 16) (tgt := 127) (by decide +kernel) (by decide) h (fun hq h => ?_) (fun hq h => ?_)
              · refine v_sub [0, 1, 2, 3] (ls' := [(0, .ref (ga G 65)), (1, .int x1), (2, .int x2), (3, .int x3)]) rfl ?_
                exact (hB127 _ hk45) _ _ h
              · refine v_blk hC (is := [(.aload_n 0, 0), (.iload_n 1, 0), (.iconst 1, (1 : Int32)), (.iadd, 0), (.iload_n 2, 0)]) (pc' := 119) (ls' := [(0, .ref (ga G 65)), (1, .int x1), (2, .int x2), (3, .int x3), (4, .int x4)]) (st' := [.int x2, .int (x1 + (1 : Int32)), .ref (ga G 65)]) (by decide +kernel) rfl ?_
                obtain ⟨v7, s8, e9, h⟩ := bndI h
                refine v_cV (idx := 189) hC ⟨tt_at 1282 (by decide +kernel) rfl, tiX12_isPlaced, tvX12_isPlaced, tnX12_isPlaced, tcX12_isPlaced, tmX12_isPlaced⟩ isO_X12 rfl (ih e9) (by omega) (by decide) (by decide +kernel) (rest := []) rfl rfl (Nat.le_of_ble_eq_true rfl) rfl ?_
                refine v_if_eq hC (off := 5) (tgt := 127) (by decide +kernel) (by decide) h (fun hq h => ?_) (fun hq h => ?_)
                · refine v_sub [0, 1, 2, 3] (ls' := [(0, .ref (ga G 65)), (1, .int x1), (2, .int x2), (3, .int x3)]) rfl ?_
                  exact (hB127 _ hk45) _ _ h
                · refine v_blk hC (is := [(.iconst 1, (1 : Int32))]) (pc' := 126) (ls' := [(0, .ref (ga G 65)), (1, .int x1), (2, .int x2), (3, .int x3), (4, .int x4)]) (st' := [.int (1 : Int32)]) (by decide +kernel) rfl ?_
                  exact v_zret hC rfl h (by decide +kernel)) 1000) _ _ _ _ h
    have hL45 : ∀ f : Nat, ∀ (x3 : Int32), ∀ σ : Mem, p_X12_isPlaced_L45 (p_X12_isPlaced d) x1 x2 f x3 σ = some res → V G (5 + d + 1) 6 X ((some (.int res.1)), res.2) σ [(0, .ref (ga G 65)), (1, .int x1), (2, .int x2), (3, .int x3)] [] 45 := by
      intro  f
      induction f with
      | zero => intro x3 σ h; exact none_some h
      | succ f ih => intro x3 σ h; exact hB45 (p_X12_isPlaced_L45 (p_X12_isPlaced d) x1 x2 f)  ih  x3 σ h
    have h : p_X12_isPlaced_E (p_X12_isPlaced d) x1 x2 σ = some res := h
    unfold p_X12_isPlaced_E at h
    show V G (5 + d + 1) 6 X ((some (.int res.1)), res.2) σ [(0, .ref (ga G 65)), (1, .int x1), (2, .int x2)] [] 0
    refine v_blk hC (is := [(.iload_n 1, 0), (.aload_n 0, 0)]) (pc' := 2) (ls' := [(0, .ref (ga G 65)), (1, .int x1), (2, .int x2)]) (st' := [.ref (ga G 65), .int x1]) (by decide +kernel) rfl ?_
    refine gX12_0 hC lfX12_9 (by decide +kernel) ?_
    refine v_blk hC (is := [(.iconst 0, (0 : Int32))]) (pc' := 6) (ls' := [(0, .ref (ga G 65)), (1, .int x1), (2, .int x2)]) (st' := [.int (0 : Int32), .ref (ga G 66), .int x1]) (by decide +kernel) rfl ?_
    refine v_iald hC isA_66 rfl (by decide +kernel) h (fun v10 h => ?_)
    refine v_icmp_ne hC (off := 5) (tgt := 12) (by decide +kernel) (by decide) h (fun hq h => ?_) (fun hq h => ?_)
    · refine v_blk hC (is := [(.aload_n 0, 0)]) (pc' := 13) (ls' := [(0, .ref (ga G 65)), (1, .int x1), (2, .int x2)]) (st' := [.ref (ga G 65)]) (by decide +kernel) rfl ?_
      refine gX12_0 hC lfX12_9 (by decide +kernel) ?_
      refine v_blk hC (is := [(.iload_n 1, 0), (.iconst 3, (3 : Int32))]) (pc' := 18) (ls' := [(0, .ref (ga G 65)), (1, .int x1), (2, .int x2)]) (st' := [.int (3 : Int32), .int x1, .ref (ga G 66)]) (by decide +kernel) rfl ?_
      obtain ⟨v11, s12, e13, h⟩ := bndI h
      refine v_cS (idx := 57) hC ⟨tt_at 1143 (by decide +kernel) rfl, tsX12_of, tnX12_of, tcX12_of, tmX12_of⟩ (c_X12_of e13) (by omega) (by decide) (by decide +kernel) (rest := [.ref (ga G 66)]) rfl rfl (Nat.le_of_ble_eq_true rfl) rfl ?_
      refine v_iald hC isA_66 rfl (by decide +kernel) h (fun v14 h => ?_)
      refine v_blk hC (is := [(.iconst 1, (1 : Int32))]) (pc' := 23) (ls' := [(0, .ref (ga G 65)), (1, .int x1), (2, .int x2)]) (st' := [.int (1 : Int32), .int v14]) (by decide +kernel) rfl ?_
      refine v_icmp_ne hC (off := 20) (tgt := 43) (by decide +kernel) (by decide) h (fun hq h => ?_) (fun hq h => ?_)
      · refine v_blk hC (is := [(.iconst 0, (0 : Int32)), (.istore_n 3, 0)]) (pc' := 45) (ls' := [(3, .int (0 : Int32)), (0, .ref (ga G 65)), (1, .int x1), (2, .int x2)]) (st' := []) (by decide +kernel) rfl ?_
        refine v_sub [1, 2, 3, 0] (ls' := [(0, .ref (ga G 65)), (1, .int x1), (2, .int x2), (3, .int (0 : Int32))]) rfl ?_
        exact (hL45 1000) _ _ h
      · refine v_blk hC (is := [(.aload_n 0, 0)]) (pc' := 27) (ls' := [(0, .ref (ga G 65)), (1, .int x1), (2, .int x2)]) (st' := [.ref (ga G 65)]) (by decide +kernel) rfl ?_
        refine gX12_9 hC lfX12_25 (by decide +kernel) ?_
        refine v_blk hC (is := [(.iload_n 1, 0), (.bipush (-4), (-4 : Int32))]) (pc' := 33) (ls' := [(0, .ref (ga G 65)), (1, .int x1), (2, .int x2)]) (st' := [.int (-4 : Int32), .int x1, .ref (ga G 71)]) (by decide +kernel) rfl ?_
        refine v_iast hC isA_71 rfl (by decide +kernel) h (fun s15 h => ?_)
        refine v_blk hC (is := [(.aload_n 0, 0), (.iload_n 1, 0), (.iconst 1, (1 : Int32)), (.iadd, 0), (.iload_n 2, 0)]) (pc' := 39) (ls' := [(0, .ref (ga G 65)), (1, .int x1), (2, .int x2)]) (st' := [.int x2, .int (x1 + (1 : Int32)), .ref (ga G 65)]) (by decide +kernel) rfl ?_
        obtain ⟨v16, s17, e18, h⟩ := bndI h
        refine v_cV (idx := 189) hC ⟨tt_at 1282 (by decide +kernel) rfl, tiX12_isPlaced, tvX12_isPlaced, tnX12_isPlaced, tcX12_isPlaced, tmX12_isPlaced⟩ isO_X12 rfl (ih e18) (by omega) (by decide) (by decide +kernel) (rest := []) rfl rfl (Nat.le_of_ble_eq_true rfl) rfl ?_
        exact v_zretC hC h (by decide +kernel)
    · refine v_blk hC (is := [(.iconst 1, (1 : Int32))]) (pc' := 11) (ls' := [(0, .ref (ga G 65)), (1, .int x1), (2, .int x2)]) (st' := [.int (1 : Int32)]) (by decide +kernel) rfl ?_
      exact v_zret hC rfl h (by decide +kernel)

def p_X12_fewestBoats_B17 (k17 : Int32 → Mem → Option (Int32 × Mem)) (k32 : Int32 → Mem → Option (Int32 × Mem)) (x1 : Int32) (x2 : Int32) (σ : Mem) : Option (Int32 × Mem) := (bnd (p_X12_isPlaced 10 (0 : Int32) x2 σ) fun v1 s2 => (if v1 = 0 then k17 (x2 + (1 : Int32)) s2 else k32 x2 s2))
def p_X12_fewestBoats_L17 (k32 : Int32 → Mem → Option (Int32 × Mem)) (x1 : Int32) : Nat → Int32 → Mem → Option (Int32 × Mem)
  | 0 => fun _ _ => none
  | f + 1 => p_X12_fewestBoats_B17 (p_X12_fewestBoats_L17 k32 x1 f) k32 x1
def p_X12_fewestBoats_B15  (x1 : Int32)  (σ : Mem) : Option (Int32 × Mem) := (p_X12_fewestBoats_L17 (fun (x2 : Int32) (m4 : Mem) => (if 0 ≤ x1 then (if x1 < 0 ∨ 8 ≤ (x1).toNatClampNeg then none else lt (m4 71 (x1).toNatClampNeg) fun v5 => some (v5, m4)) else some (x2, m4))) x1 1000) (0 : Int32) σ
def p_X12_fewestBoats (x1 : Int32) (σ : Mem) : Option (Int32 × Mem) := (if x1 = (-1 : Int32) then (p_X12_fewestBoats_B15 x1) σ else (bnd (p_X12_isMan x1 σ) fun v6 s7 => (if v6 = 0 then some ((-1 : Int32), s7) else (p_X12_fewestBoats_B15 x1) s7)))
set_option maxHeartbeats 4000000 in
set_option maxRecDepth 100000 in
theorem c_X12_fewestBoats {G : Gl} {x1 : Int32} {σ : Mem} {res : Int32 × Mem}  (h : p_X12_fewestBoats x1 σ = some res) : MetX G yX12_fewestBoats cX12_fewestBoats 3 (some .int) 16 [.ref (ga G 65), .int x1] σ (some (.int res.1)) res.2 := by
  refine met_V (by decide +kernel) (Nat.le_of_ble_eq_true rfl) (fun X hC => ?_)
  have hC : Ok G 16 3 X cX12_fewestBoats RX12 (some .int) := hC
  have hB17 : ∀ (k17 : Int32 → Mem → Option (Int32 × Mem)), ∀ (k32 : Int32 → Mem → Option (Int32 × Mem)), (∀ (x2 : Int32), ∀ σ : Mem, k17 x2 σ = some res → V G 16 3 X ((some (.int res.1)), res.2) σ [(0, .ref (ga G 65)), (1, .int x1), (2, .int x2)] [] 17) → (∀ (x2 : Int32), ∀ σ : Mem, k32 x2 σ = some res → V G 16 3 X ((some (.int res.1)), res.2) σ [(0, .ref (ga G 65)), (1, .int x1), (2, .int x2)] [] 32) → ∀ (x2 : Int32), ∀ σ : Mem, p_X12_fewestBoats_B17 k17 k32 x1 x2 σ = some res → V G 16 3 X ((some (.int res.1)), res.2) σ [(0, .ref (ga G 65)), (1, .int x1), (2, .int x2)] [] 17 := by
    intro k17 k32 hk17 hk32 x2 σ h
    unfold p_X12_fewestBoats_B17 at h
    refine v_blk hC (is := [(.aload_n 0, 0), (.iconst 0, (0 : Int32)), (.iload_n 2, 0)]) (pc' := 20) (ls' := [(0, .ref (ga G 65)), (1, .int x1), (2, .int x2)]) (st' := [.int x2, .int (0 : Int32), .ref (ga G 65)]) (by decide +kernel) rfl ?_
    obtain ⟨v1, s2, e3, h⟩ := bndI h
    refine v_cV (idx := 189) hC ⟨tt_at 1282 (by decide +kernel) rfl, tiX12_isPlaced, tvX12_isPlaced, tnX12_isPlaced, tcX12_isPlaced, tmX12_isPlaced⟩ isO_X12 rfl (c_X12_isPlaced 10 e3) (by decide) (by decide) (by decide +kernel) (rest := []) rfl rfl (Nat.le_of_ble_eq_true rfl) rfl ?_
    refine v_if_ne hC (off := 9) (tgt := 32) (by decide +kernel) (by decide) h (fun hq h => ?_) (fun hq h => ?_)
    · exact hk32 _ _ h
    · refine v_blk hC (is := [(.iinc 2 1, (1 : Int32))]) (pc' := 29) (ls' := [(2, .int (x2 + (1 : Int32))), (0, .ref (ga G 65)), (1, .int x1)]) (st' := []) (by decide +kernel) rfl ?_
      refine v_goto hC (off := (-12)) (tgt := 17) (by decide +kernel) (by decide) ?_
      refine v_sub [1, 2, 0] (ls' := [(0, .ref (ga G 65)), (1, .int x1), (2, .int (x2 + (1 : Int32)))]) rfl ?_
      exact hk17 _ _ h
  have hL17 : ∀ (k32 : Int32 → Mem → Option (Int32 × Mem)), (∀ (x2 : Int32), ∀ σ : Mem, k32 x2 σ = some res → V G 16 3 X ((some (.int res.1)), res.2) σ [(0, .ref (ga G 65)), (1, .int x1), (2, .int x2)] [] 32) → ∀ f : Nat, ∀ (x2 : Int32), ∀ σ : Mem, p_X12_fewestBoats_L17 k32 x1 f x2 σ = some res → V G 16 3 X ((some (.int res.1)), res.2) σ [(0, .ref (ga G 65)), (1, .int x1), (2, .int x2)] [] 17 := by
    intro k32 hk32 f
    induction f with
    | zero => intro x2 σ h; exact none_some h
    | succ f ih => intro x2 σ h; exact hB17 (p_X12_fewestBoats_L17 k32 x1 f) k32 ih hk32 x2 σ h
  have hB15 : ∀ σ : Mem, p_X12_fewestBoats_B15 x1 σ = some res → V G 16 3 X ((some (.int res.1)), res.2) σ [(0, .ref (ga G 65)), (1, .int x1)] [] 15 := by
    intro  σ h
    unfold p_X12_fewestBoats_B15 at h
    refine v_blk hC (is := [(.iconst 0, (0 : Int32)), (.istore_n 2, 0)]) (pc' := 17) (ls' := [(2, .int (0 : Int32)), (0, .ref (ga G 65)), (1, .int x1)]) (st' := []) (by decide +kernel) rfl ?_
    refine v_sub [1, 2, 0] (ls' := [(0, .ref (ga G 65)), (1, .int x1), (2, .int (0 : Int32))]) rfl ?_
    exact (hL17 _ (fun x2  m4 h => by
          refine v_blk hC (is := [(.iload_n 1, 0)]) (pc' := 33) (ls' := [(0, .ref (ga G 65)), (1, .int x1), (2, .int x2)]) (st' := [.int x1]) (by decide +kernel) rfl ?_
          refine v_if_ge hC (off := 7) (tgt := 40) (by decide +kernel) (by decide) h (fun hq h => ?_) (fun hq h => ?_)
          · refine v_blk hC (is := [(.aload_n 0, 0)]) (pc' := 41) (ls' := [(0, .ref (ga G 65)), (1, .int x1), (2, .int x2)]) (st' := [.ref (ga G 65)]) (by decide +kernel) rfl ?_
            refine gX12_9 hC lfX12_25 (by decide +kernel) ?_
            refine v_blk hC (is := [(.iload_n 1, 0)]) (pc' := 45) (ls' := [(0, .ref (ga G 65)), (1, .int x1), (2, .int x2)]) (st' := [.int x1, .ref (ga G 71)]) (by decide +kernel) rfl ?_
            refine v_iald hC isA_71 rfl (by decide +kernel) h (fun v5 h => ?_)
            exact v_iret hC h (by decide +kernel)
          · refine v_blk hC (is := [(.iload_n 2, 0)]) (pc' := 37) (ls' := [(0, .ref (ga G 65)), (1, .int x1), (2, .int x2)]) (st' := [.int x2]) (by decide +kernel) rfl ?_
            refine v_goto hC (off := 9) (tgt := 46) (by decide +kernel) (by decide) ?_
            exact v_iret hC h (by decide +kernel)) 1000) _ _ h
  unfold p_X12_fewestBoats at h
  show V G 16 3 X ((some (.int res.1)), res.2) σ [(0, .ref (ga G 65)), (1, .int x1)] [] 0
  refine v_blk hC (is := [(.iload_n 1, 0), (.iconst (-1), (-1 : Int32))]) (pc' := 2) (ls' := [(0, .ref (ga G 65)), (1, .int x1)]) (st' := [.int (-1 : Int32), .int x1]) (by decide +kernel) rfl ?_
  refine v_icmp_eq hC (off := 13) (tgt := 15) (by decide +kernel) (by decide) h (fun hq h => ?_) (fun hq h => ?_)
  · exact (hB15 ) _ h
  · refine v_blk hC (is := [(.aload_n 0, 0), (.iload_n 1, 0)]) (pc' := 7) (ls' := [(0, .ref (ga G 65)), (1, .int x1)]) (st' := [.int x1, .ref (ga G 65)]) (by decide +kernel) rfl ?_
    obtain ⟨v6, s7, e8, h⟩ := bndI h
    refine v_cV (idx := 53) hC ⟨tt_at 1150 (by decide +kernel) rfl, tiX12_isMan, tvX12_isMan, tnX12_isMan, tcX12_isMan, tmX12_isMan⟩ isO_X12 rfl (c_X12_isMan e8) (by decide) (by decide) (by decide +kernel) (rest := []) rfl rfl (Nat.le_of_ble_eq_true rfl) rfl ?_
    refine v_if_ne hC (off := 5) (tgt := 15) (by decide +kernel) (by decide) h (fun hq h => ?_) (fun hq h => ?_)
    · exact (hB15 ) _ h
    · refine v_blk hC (is := [(.iconst (-1), (-1 : Int32))]) (pc' := 14) (ls' := [(0, .ref (ga G 65)), (1, .int x1)]) (st' := [.int (-1 : Int32)]) (by decide +kernel) rfl ?_
      exact v_iret hC h (by decide +kernel)

def p_X12_isManned_B113 (k77 : Int32 → Int32 → Int32 → Mem → Option (Int32 × Mem)) (rc : Int32 → Mem → Option (Int32 × Mem)) (x1 : Int32) (x2 : Int32) (x4 : Int32) (t0 : Int32) (t1 : Int32) (σ : Mem) : Option (Int32 × Mem) := k77 x2 (t0 &&& t1) (x4 + (1 : Int32)) σ
def p_X12_isManned_B108 (k77 : Int32 → Int32 → Int32 → Mem → Option (Int32 × Mem)) (rc : Int32 → Mem → Option (Int32 × Mem)) (x1 : Int32) (x2 : Int32) (x4 : Int32) (t0 : Int32) (σ : Mem) : Option (Int32 × Mem) := (p_X12_isManned_B113 k77 rc x1) x2 x4 t0 (1 : Int32) σ
def p_X12_isManned_B167 (k41 : Int32 → Mem → Option (Int32 × Mem)) (rc : Int32 → Mem → Option (Int32 × Mem)) (x1 : Int32) (x2 : Int32) (σ : Mem) : Option (Int32 × Mem) := k41 (x2 + (1 : Int32)) σ
def p_X12_isManned_B77 (k77 : Int32 → Int32 → Int32 → Mem → Option (Int32 × Mem)) (k121 : Int32 → Int32 → Mem → Option (Int32 × Mem)) (rc : Int32 → Mem → Option (Int32 × Mem)) (x1 : Int32) (x2 : Int32) (x3 : Int32) (x4 : Int32) (σ : Mem) : Option (Int32 × Mem) := (if x1 ≤ x4 then k121 x2 x3 σ else (if x4 < 0 ∨ 8 ≤ (x4).toNatClampNeg then none else lt (σ 71 (x4).toNatClampNeg) fun v1 => (if v1 = x2 then (bnd (p_X12_mayIn 66 x1 x4 σ) fun v2 s3 => (if v2 = 0 then (p_X12_isManned_B113 k77 rc x1) x2 x4 x3 (0 : Int32) s3 else (p_X12_isManned_B108 k77 rc x1) x2 x4 x3 s3)) else (p_X12_isManned_B108 k77 rc x1) x2 x4 x3 σ)))
def p_X12_isManned_L77 (k121 : Int32 → Int32 → Mem → Option (Int32 × Mem)) (rc : Int32 → Mem → Option (Int32 × Mem)) (x1 : Int32) : Nat → Int32 → Int32 → Int32 → Mem → Option (Int32 × Mem)
  | 0 => fun _ _ _ _ => none
  | f + 1 => p_X12_isManned_B77 (p_X12_isManned_L77 k121 rc x1 f) k121 rc x1
def p_X12_isManned_B73 (k41 : Int32 → Mem → Option (Int32 × Mem)) (rc : Int32 → Mem → Option (Int32 × Mem)) (x1 : Int32) (x2 : Int32) (t0 : Int32) (σ : Mem) : Option (Int32 × Mem) := (p_X12_isManned_L77 (fun (x2 : Int32) (x3 : Int32) (m5 : Mem) => (if x3 = 0 then (p_X12_isManned_B167 k41 rc x1) x2 m5 else (if x1 < 0 ∨ 8 ≤ (x1).toNatClampNeg then none else wr m5 71 (x1).toNatClampNeg x2 fun s6 => (if x2 < 0 ∨ 3 ≤ (x2).toNatClampNeg then none else lt (s6 72 (x2).toNatClampNeg) fun v7 => (if x2 < 0 ∨ 3 ≤ (x2).toNatClampNeg then none else wr s6 72 (x2).toNatClampNeg (v7 - (1 : Int32)) fun s8 => (bnd (rc (x1 + (1 : Int32)) s8) fun v9 s10 => (if v9 = 0 then (if x2 < 0 ∨ 3 ≤ (x2).toNatClampNeg then none else lt (s10 72 (x2).toNatClampNeg) fun v12 => (if x2 < 0 ∨ 3 ≤ (x2).toNatClampNeg then none else wr s10 72 (x2).toNatClampNeg (v12 + (1 : Int32)) fun s13 => (p_X12_isManned_B167 k41 rc x1) x2 s13)) else some ((1 : Int32), s10)))))))) rc x1 1000) x2 t0 (0 : Int32) σ
def p_X12_isManned_B173  (rc : Int32 → Mem → Option (Int32 × Mem)) (x1 : Int32)  (σ : Mem) : Option (Int32 × Mem) := (if x1 < 0 ∨ 8 ≤ (x1).toNatClampNeg then none else wr σ 71 (x1).toNatClampNeg (9 : Int32) fun s14 => (bnd (rc (x1 + (1 : Int32)) s14) fun v15 s16 => rz v15 s16))
def p_X12_isManned_B41 (k41 : Int32 → Mem → Option (Int32 × Mem)) (k173 : Mem → Option (Int32 × Mem)) (rc : Int32 → Mem → Option (Int32 × Mem)) (x1 : Int32) (x2 : Int32) (σ : Mem) : Option (Int32 × Mem) := (if (3 : Int32) ≤ x2 then k173 σ else (bnd (p_X12_of x1 (3 : Int32) σ) fun v18 s19 => (if v18 < 0 ∨ 100 ≤ (v18).toNatClampNeg then none else lt (s19 66 (v18).toNatClampNeg) fun v21 => (if v21 = 0 then (if x2 < 0 ∨ 3 ≤ (x2).toNatClampNeg then none else lt (s19 72 (x2).toNatClampNeg) fun v22 => (if v22 ≤ 0 then (p_X12_isManned_B73 k41 rc x1) x2 (0 : Int32) s19 else (p_X12_isManned_B73 k41 rc x1) x2 (1 : Int32) s19)) else k173 s19))))
def p_X12_isManned_L41 (k173 : Mem → Option (Int32 × Mem)) (rc : Int32 → Mem → Option (Int32 × Mem)) (x1 : Int32) : Nat → Int32 → Mem → Option (Int32 × Mem)
  | 0 => fun _ _ => none
  | f + 1 => p_X12_isManned_B41 (p_X12_isManned_L41 k173 rc x1 f) k173 rc x1
def p_X12_isManned_E (rc : Int32 → Mem → Option (Int32 × Mem)) (x1 : Int32) (σ : Mem) : Option (Int32 × Mem) := (if (0 : Int32) < 0 ∨ 100 ≤ ((0 : Int32)).toNatClampNeg then none else lt (σ 66 ((0 : Int32)).toNatClampNeg) fun v23 => (if x1 = v23 then (if (0 : Int32) < 0 ∨ 3 ≤ ((0 : Int32)).toNatClampNeg then none else lt (σ 72 ((0 : Int32)).toNatClampNeg) fun v24 => (if (1 : Int32) < 0 ∨ 3 ≤ ((1 : Int32)).toNatClampNeg then none else lt (σ 72 ((1 : Int32)).toNatClampNeg) fun v25 => (if (2 : Int32) < 0 ∨ 3 ≤ ((2 : Int32)).toNatClampNeg then none else lt (σ 72 ((2 : Int32)).toNatClampNeg) fun v26 => (if ((v24 + v25) + v26) = 0 then some ((1 : Int32), σ) else some ((0 : Int32), σ))))) else (p_X12_isManned_L41 (p_X12_isManned_B173 rc x1) rc x1 1000) (0 : Int32) σ))
def p_X12_isManned : Nat → Int32 → Mem → Option (Int32 × Mem)
  | 0 => fun _ _ => none
  | d + 1 => p_X12_isManned_E (p_X12_isManned d)
set_option maxHeartbeats 4000000 in
set_option maxRecDepth 100000 in
theorem c_X12_isManned {G : Gl} : ∀ (d : Nat) {x1 : Int32} {σ : Mem} {res : Int32 × Mem} , p_X12_isManned d x1 σ = some res → MetX G yX12_isManned cX12_isManned 5 (some .boolean) (5 + d) [.ref (ga G 65), .int x1] σ (some (.int res.1)) res.2 := by
  intro d
  induction d with
  | zero => intro x1 σ res h; exact none_some h
  | succ d ih =>
    intro x1 σ res h
    refine met_V (by decide +kernel) (Nat.le_of_ble_eq_true rfl) (fun X hC => ?_)
    have hC : Ok G (5 + d + 1) 5 X cX12_isManned RX12 (some .boolean) := hC
    have hB113 : ∀ (k77 : Int32 → Int32 → Int32 → Mem → Option (Int32 × Mem)), (∀ (x2 : Int32), ∀ (x3 : Int32), ∀ (x4 : Int32), ∀ σ : Mem, k77 x2 x3 x4 σ = some res → V G (5 + d + 1) 5 X ((some (.int res.1)), res.2) σ [(0, .ref (ga G 65)), (1, .int x1), (2, .int x2), (3, .int x3), (4, .int x4)] [] 77) → ∀ (x2 : Int32), ∀ (x4 : Int32), ∀ (t0 : Int32), ∀ (t1 : Int32), ∀ σ : Mem, p_X12_isManned_B113 k77 (p_X12_isManned d) x1 x2 x4 t0 t1 σ = some res → V G (5 + d + 1) 5 X ((some (.int res.1)), res.2) σ [(0, .ref (ga G 65)), (1, .int x1), (2, .int x2), (4, .int x4)] [.int t1, .int t0] 113 := by
      intro k77 hk77 x2 x4 t0 t1 σ h
      unfold p_X12_isManned_B113 at h
      refine v_blk hC (is := [(.iand, 0), (.istore_n 3, 0), (.iinc 4 1, (1 : Int32))]) (pc' := 118) (ls' := [(4, .int (x4 + (1 : Int32))), (3, .int (t0 &&& t1)), (0, .ref (ga G 65)), (1, .int x1), (2, .int x2)]) (st' := []) (by decide +kernel) rfl ?_
      refine v_goto hC (off := (-41)) (tgt := 77) (by decide +kernel) (by decide) ?_
      refine v_sub [2, 3, 4, 1, 0] (ls' := [(0, .ref (ga G 65)), (1, .int x1), (2, .int x2), (3, .int (t0 &&& t1)), (4, .int (x4 + (1 : Int32)))]) rfl ?_
      exact hk77 _ _ _ _ h
    have hB108 : ∀ (k77 : Int32 → Int32 → Int32 → Mem → Option (Int32 × Mem)), (∀ (x2 : Int32), ∀ (x3 : Int32), ∀ (x4 : Int32), ∀ σ : Mem, k77 x2 x3 x4 σ = some res → V G (5 + d + 1) 5 X ((some (.int res.1)), res.2) σ [(0, .ref (ga G 65)), (1, .int x1), (2, .int x2), (3, .int x3), (4, .int x4)] [] 77) → ∀ (x2 : Int32), ∀ (x4 : Int32), ∀ (t0 : Int32), ∀ σ : Mem, p_X12_isManned_B108 k77 (p_X12_isManned d) x1 x2 x4 t0 σ = some res → V G (5 + d + 1) 5 X ((some (.int res.1)), res.2) σ [(0, .ref (ga G 65)), (1, .int x1), (2, .int x2), (4, .int x4)] [.int t0] 108 := by
      intro k77 hk77 x2 x4 t0 σ h
      unfold p_X12_isManned_B108 at h
      refine v_blk hC (is := [(.iconst 1, (1 : Int32))]) (pc' := 109) (ls' := [(0, .ref (ga G 65)), (1, .int x1), (2, .int x2), (4, .int x4)]) (st' := [.int (1 : Int32), .int t0]) (by decide +kernel) rfl ?_
      refine v_goto hC (off := 4) (tgt := 113) (by decide +kernel) (by decide) ?_
      exact (hB113 _ hk77) _ _ _ _ _ h
    have hB167 : ∀ (k41 : Int32 → Mem → Option (Int32 × Mem)), (∀ (x2 : Int32), ∀ σ : Mem, k41 x2 σ = some res → V G (5 + d + 1) 5 X ((some (.int res.1)), res.2) σ [(0, .ref (ga G 65)), (1, .int x1), (2, .int x2)] [] 41) → ∀ (x2 : Int32), ∀ σ : Mem, p_X12_isManned_B167 k41 (p_X12_isManned d) x1 x2 σ = some res → V G (5 + d + 1) 5 X ((some (.int res.1)), res.2) σ [(0, .ref (ga G 65)), (1, .int x1), (2, .int x2)] [] 167 := by
      intro k41 hk41 x2 σ h
      unfold p_X12_isManned_B167 at h
      refine v_blk hC (is := [(.iinc 2 1, (1 : Int32))]) (pc' := 170) (ls' := [(2, .int (x2 + (1 : Int32))), (0, .ref (ga G 65)), (1, .int x1)]) (st' := []) (by decide +kernel) rfl ?_
      refine v_goto hC (off := (-129)) (tgt := 41) (by decide +kernel) (by decide) ?_
      refine v_sub [1, 2, 0] (ls' := [(0, .ref (ga G 65)), (1, .int x1), (2, .int (x2 + (1 : Int32)))]) rfl ?_
      exact hk41 _ _ h
    have hB77 : ∀ (k77 : Int32 → Int32 → Int32 → Mem → Option (Int32 × Mem)), ∀ (k121 : Int32 → Int32 → Mem → Option (Int32 × Mem)), (∀ (x2 : Int32), ∀ (x3 : Int32), ∀ (x4 : Int32), ∀ σ : Mem, k77 x2 x3 x4 σ = some res → V G (5 + d + 1) 5 X ((some (.int res.1)), res.2) σ [(0, .ref (ga G 65)), (1, .int x1), (2, .int x2), (3, .int x3), (4, .int x4)] [] 77) → (∀ (x2 : Int32), ∀ (x3 : Int32), ∀ σ : Mem, k121 x2 x3 σ = some res → V G (5 + d + 1) 5 X ((some (.int res.1)), res.2) σ [(0, .ref (ga G 65)), (1, .int x1), (2, .int x2), (3, .int x3)] [] 121) → ∀ (x2 : Int32), ∀ (x3 : Int32), ∀ (x4 : Int32), ∀ σ : Mem, p_X12_isManned_B77 k77 k121 (p_X12_isManned d) x1 x2 x3 x4 σ = some res → V G (5 + d + 1) 5 X ((some (.int res.1)), res.2) σ [(0, .ref (ga G 65)), (1, .int x1), (2, .int x2), (3, .int x3), (4, .int x4)] [] 77 := by
      intro k77 k121 hk77 hk121 x2 x3 x4 σ h
      unfold p_X12_isManned_B77 at h
      refine v_blk hC (is := [(.iload 4, 0), (.iload_n 1, 0)]) (pc' := 80) (ls' := [(0, .ref (ga G 65)), (1, .int x1), (2, .int x2), (3, .int x3), (4, .int x4)]) (st' := [.int x1, .int x4]) (by decide +kernel) rfl ?_
      refine v_icmp_ge hC (off := 41) (tgt := 121) (by decide +kernel) (by decide) h (fun hq h => ?_) (fun hq h => ?_)
      · refine v_sub [0, 1, 2, 3] (ls' := [(0, .ref (ga G 65)), (1, .int x1), (2, .int x2), (3, .int x3)]) rfl ?_
        exact hk121 _ _ _ h
      · refine v_blk hC (is := [(.iload_n 3, 0), (.aload_n 0, 0)]) (pc' := 85) (ls' := [(0, .ref (ga G 65)), (1, .int x1), (2, .int x2), (3, .int x3), (4, .int x4)]) (st' := [.ref (ga G 65), .int x3]) (by decide +kernel) rfl ?_
        refine gX12_9 hC lfX12_25 (by decide +kernel) ?_
        refine v_blk hC (is := [(.iload 4, 0)]) (pc' := 90) (ls' := [(0, .ref (ga G 65)), (1, .int x1), (2, .int x2), (3, .int x3), (4, .int x4)]) (st' := [.int x4, .ref (ga G 71), .int x3]) (by decide +kernel) rfl ?_
        refine v_iald hC isA_71 rfl (by decide +kernel) h (fun v1 h => ?_)
        refine v_blk hC (is := [(.iload_n 2, 0)]) (pc' := 92) (ls' := [(0, .ref (ga G 65)), (1, .int x1), (2, .int x2), (3, .int x3), (4, .int x4)]) (st' := [.int x2, .int v1, .int x3]) (by decide +kernel) rfl ?_
        refine v_icmp_ne hC (off := 16) (tgt := 108) (by decide +kernel) (by decide) h (fun hq h => ?_) (fun hq h => ?_)
        · refine v_sub [0, 1, 2, 4] (ls' := [(0, .ref (ga G 65)), (1, .int x1), (2, .int x2), (4, .int x4)]) rfl ?_
          exact (hB108 _ hk77) _ _ _ _ h
        · refine v_blk hC (is := [(.aload_n 0, 0)]) (pc' := 96) (ls' := [(0, .ref (ga G 65)), (1, .int x1), (2, .int x2), (3, .int x3), (4, .int x4)]) (st' := [.ref (ga G 65), .int x3]) (by decide +kernel) rfl ?_
          refine gX12_0 hC lfX12_9 (by decide +kernel) ?_
          refine v_blk hC (is := [(.iload_n 1, 0), (.iload 4, 0)]) (pc' := 102) (ls' := [(0, .ref (ga G 65)), (1, .int x1), (2, .int x2), (3, .int x3), (4, .int x4)]) (st' := [.int x4, .int x1, .ref (ga G 66), .int x3]) (by decide +kernel) rfl ?_
          obtain ⟨v2, s3, e4, h⟩ := bndI h
          refine v_cS (idx := 111) hC ⟨tt_at 1193 (by decide +kernel) rfl, tsX12_mayIn, tnX12_mayIn, tcX12_mayIn, tmX12_mayIn⟩ (c_X12_mayIn row66 e4) (by omega) (by decide) (by decide +kernel) (rest := [.int x3]) rfl rfl (Nat.le_of_ble_eq_true rfl) rfl ?_
          refine v_if_eq hC (off := 7) (tgt := 112) (by decide +kernel) (by decide) h (fun hq h => ?_) (fun hq h => ?_)
          · refine v_blk hC (is := [(.iconst 0, (0 : Int32))]) (pc' := 113) (ls' := [(0, .ref (ga G 65)), (1, .int x1), (2, .int x2), (3, .int x3), (4, .int x4)]) (st' := [.int (0 : Int32), .int x3]) (by decide +kernel) rfl ?_
            refine v_sub [0, 1, 2, 4] (ls' := [(0, .ref (ga G 65)), (1, .int x1), (2, .int x2), (4, .int x4)]) rfl ?_
            exact (hB113 _ hk77) _ _ _ _ _ h
          · refine v_sub [0, 1, 2, 4] (ls' := [(0, .ref (ga G 65)), (1, .int x1), (2, .int x2), (4, .int x4)]) rfl ?_
            exact (hB108 _ hk77) _ _ _ _ h
    have hL77 : ∀ (k121 : Int32 → Int32 → Mem → Option (Int32 × Mem)), (∀ (x2 : Int32), ∀ (x3 : Int32), ∀ σ : Mem, k121 x2 x3 σ = some res → V G (5 + d + 1) 5 X ((some (.int res.1)), res.2) σ [(0, .ref (ga G 65)), (1, .int x1), (2, .int x2), (3, .int x3)] [] 121) → ∀ f : Nat, ∀ (x2 : Int32), ∀ (x3 : Int32), ∀ (x4 : Int32), ∀ σ : Mem, p_X12_isManned_L77 k121 (p_X12_isManned d) x1 f x2 x3 x4 σ = some res → V G (5 + d + 1) 5 X ((some (.int res.1)), res.2) σ [(0, .ref (ga G 65)), (1, .int x1), (2, .int x2), (3, .int x3), (4, .int x4)] [] 77 := by
      intro k121 hk121 f
      induction f with
      | zero => intro x2 x3 x4 σ h; exact none_some h
      | succ f ih => intro x2 x3 x4 σ h; exact hB77 (p_X12_isManned_L77 k121 (p_X12_isManned d) x1 f) k121 ih hk121 x2 x3 x4 σ h
    have hB73 : ∀ (k41 : Int32 → Mem → Option (Int32 × Mem)), (∀ (x2 : Int32), ∀ σ : Mem, k41 x2 σ = some res → V G (5 + d + 1) 5 X ((some (.int res.1)), res.2) σ [(0, .ref (ga G 65)), (1, .int x1), (2, .int x2)] [] 41) → ∀ (x2 : Int32), ∀ (t0 : Int32), ∀ σ : Mem, p_X12_isManned_B73 k41 (p_X12_isManned d) x1 x2 t0 σ = some res → V G (5 + d + 1) 5 X ((some (.int res.1)), res.2) σ [(0, .ref (ga G 65)), (1, .int x1), (2, .int x2)] [.int t0] 73 := by
      intro k41 hk41 x2 t0 σ h
      unfold p_X12_isManned_B73 at h
      refine v_blk hC (is := [(.istore_n 3, 0), (.iconst 0, (0 : Int32)), (.istore 4, 0)]) (pc' := 77) (ls' := [(4, .int (0 : Int32)), (3, .int t0), (0, .ref (ga G 65)), (1, .int x1), (2, .int x2)]) (st' := []) (by decide +kernel) rfl ?_
      refine v_sub [2, 3, 4, 1, 0] (ls' := [(0, .ref (ga G 65)), (1, .int x1), (2, .int x2), (3, .int t0), (4, .int (0 : Int32))]) rfl ?_
      exact (hL77 _ (fun x2 x3  m5 h => by
            refine v_blk hC (is := [(.iload_n 3, 0)]) (pc' := 122) (ls' := [(0, .ref (ga G 65)), (1, .int x1), (2, .int x2), (3, .int x3)]) (st' := [.int x3]) (by decide +kernel) rfl ?_
            refine v_if_ne hC (off := 6) (tgt := 128) (by decide +kernel) (by decide) h (fun hq h => ?_) (fun hq h => ?_)
            · refine v_blk hC (is := [(.aload_n 0, 0)]) (pc' := 129) (ls' := [(0, .ref (ga G 65)), (1, .int x1), (2, .int x2), (3, .int x3)]) (st' := [.ref (ga G 65)]) (by decide +kernel) rfl ?_
              refine gX12_9 hC lfX12_25 (by decide +kernel) ?_
              refine v_blk hC (is := [(.iload_n 1, 0), (.iload_n 2, 0)]) (pc' := 134) (ls' := [(0, .ref (ga G 65)), (1, .int x1), (2, .int x2), (3, .int x3)]) (st' := [.int x2, .int x1, .ref (ga G 71)]) (by decide +kernel) rfl ?_
              refine v_iast hC isA_71 rfl (by decide +kernel) h (fun s6 h => ?_)
              refine v_blk hC (is := [(.aload_n 0, 0)]) (pc' := 136) (ls' := [(0, .ref (ga G 65)), (1, .int x1), (2, .int x2), (3, .int x3)]) (st' := [.ref (ga G 65)]) (by decide +kernel) rfl ?_
              refine gX12_10 hC lfX12_28 (by decide +kernel) ?_
              refine v_blk hC (is := [(.iload_n 2, 0), (.dup2, 0)]) (pc' := 141) (ls' := [(0, .ref (ga G 65)), (1, .int x1), (2, .int x2), (3, .int x3)]) (st' := [.int x2, .ref (ga G 72), .int x2, .ref (ga G 72)]) (by decide +kernel) rfl ?_
              refine v_iald hC isA_72 rfl (by decide +kernel) h (fun v7 h => ?_)
              refine v_blk hC (is := [(.iconst 1, (1 : Int32)), (.isub, 0)]) (pc' := 144) (ls' := [(0, .ref (ga G 65)), (1, .int x1), (2, .int x2), (3, .int x3)]) (st' := [.int (v7 - (1 : Int32)), .int x2, .ref (ga G 72)]) (by decide +kernel) rfl ?_
              refine v_iast hC isA_72 rfl (by decide +kernel) h (fun s8 h => ?_)
              refine v_blk hC (is := [(.aload_n 0, 0), (.iload_n 1, 0), (.iconst 1, (1 : Int32)), (.iadd, 0)]) (pc' := 149) (ls' := [(0, .ref (ga G 65)), (1, .int x1), (2, .int x2), (3, .int x3)]) (st' := [.int (x1 + (1 : Int32)), .ref (ga G 65)]) (by decide +kernel) rfl ?_
              obtain ⟨v9, s10, e11, h⟩ := bndI h
              refine v_cV (idx := 192) hC ⟨tt_at 1290 (by decide +kernel) rfl, tiX12_isManned, tvX12_isManned, tnX12_isManned, tcX12_isManned, tmX12_isManned⟩ isO_X12 rfl (ih e11) (by omega) (by decide) (by decide +kernel) (rest := []) rfl rfl (Nat.le_of_ble_eq_true rfl) rfl ?_
              refine v_if_eq hC (off := 5) (tgt := 157) (by decide +kernel) (by decide) h (fun hq h => ?_) (fun hq h => ?_)
              · refine v_blk hC (is := [(.aload_n 0, 0)]) (pc' := 158) (ls' := [(0, .ref (ga G 65)), (1, .int x1), (2, .int x2), (3, .int x3)]) (st' := [.ref (ga G 65)]) (by decide +kernel) rfl ?_
                refine gX12_10 hC lfX12_28 (by decide +kernel) ?_
                refine v_blk hC (is := [(.iload_n 2, 0), (.dup2, 0)]) (pc' := 163) (ls' := [(0, .ref (ga G 65)), (1, .int x1), (2, .int x2), (3, .int x3)]) (st' := [.int x2, .ref (ga G 72), .int x2, .ref (ga G 72)]) (by decide +kernel) rfl ?_
                refine v_iald hC isA_72 rfl (by decide +kernel) h (fun v12 h => ?_)
                refine v_blk hC (is := [(.iconst 1, (1 : Int32)), (.iadd, 0)]) (pc' := 166) (ls' := [(0, .ref (ga G 65)), (1, .int x1), (2, .int x2), (3, .int x3)]) (st' := [.int (v12 + (1 : Int32)), .int x2, .ref (ga G 72)]) (by decide +kernel) rfl ?_
                refine v_iast hC isA_72 rfl (by decide +kernel) h (fun s13 h => ?_)
                refine v_sub [0, 1, 2] (ls' := [(0, .ref (ga G 65)), (1, .int x1), (2, .int x2)]) rfl ?_
                exact (hB167 _ hk41) _ _ h
              · refine v_blk hC (is := [(.iconst 1, (1 : Int32))]) (pc' := 156) (ls' := [(0, .ref (ga G 65)), (1, .int x1), (2, .int x2), (3, .int x3)]) (st' := [.int (1 : Int32)]) (by decide +kernel) rfl ?_
                exact v_zret hC rfl h (by decide +kernel)
            · refine v_goto hC (off := 42) (tgt := 167) (by decide +kernel) (by decide) ?_
              refine v_sub [0, 1, 2] (ls' := [(0, .ref (ga G 65)), (1, .int x1), (2, .int x2)]) rfl ?_
              exact (hB167 _ hk41) _ _ h) 1000) _ _ _ _ h
    have hB173 : ∀ σ : Mem, p_X12_isManned_B173 (p_X12_isManned d) x1 σ = some res → V G (5 + d + 1) 5 X ((some (.int res.1)), res.2) σ [(0, .ref (ga G 65)), (1, .int x1)] [] 173 := by
      intro  σ h
      unfold p_X12_isManned_B173 at h
      refine v_blk hC (is := [(.aload_n 0, 0)]) (pc' := 174) (ls' := [(0, .ref (ga G 65)), (1, .int x1)]) (st' := [.ref (ga G 65)]) (by decide +kernel) rfl ?_
      refine gX12_9 hC lfX12_25 (by decide +kernel) ?_
      refine v_blk hC (is := [(.iload_n 1, 0), (.bipush 9, (9 : Int32))]) (pc' := 180) (ls' := [(0, .ref (ga G 65)), (1, .int x1)]) (st' := [.int (9 : Int32), .int x1, .ref (ga G 71)]) (by decide +kernel) rfl ?_
      refine v_iast hC isA_71 rfl (by decide +kernel) h (fun s14 h => ?_)
      refine v_blk hC (is := [(.aload_n 0, 0), (.iload_n 1, 0), (.iconst 1, (1 : Int32)), (.iadd, 0)]) (pc' := 185) (ls' := [(0, .ref (ga G 65)), (1, .int x1)]) (st' := [.int (x1 + (1 : Int32)), .ref (ga G 65)]) (by decide +kernel) rfl ?_
      obtain ⟨v15, s16, e17, h⟩ := bndI h
      refine v_cV (idx := 192) hC ⟨tt_at 1290 (by decide +kernel) rfl, tiX12_isManned, tvX12_isManned, tnX12_isManned, tcX12_isManned, tmX12_isManned⟩ isO_X12 rfl (ih e17) (by omega) (by decide) (by decide +kernel) (rest := []) rfl rfl (Nat.le_of_ble_eq_true rfl) rfl ?_
      exact v_zretC hC h (by decide +kernel)
    have hB41 : ∀ (k41 : Int32 → Mem → Option (Int32 × Mem)), ∀ (k173 : Mem → Option (Int32 × Mem)), (∀ (x2 : Int32), ∀ σ : Mem, k41 x2 σ = some res → V G (5 + d + 1) 5 X ((some (.int res.1)), res.2) σ [(0, .ref (ga G 65)), (1, .int x1), (2, .int x2)] [] 41) → (∀ σ : Mem, k173 σ = some res → V G (5 + d + 1) 5 X ((some (.int res.1)), res.2) σ [(0, .ref (ga G 65)), (1, .int x1)] [] 173) → ∀ (x2 : Int32), ∀ σ : Mem, p_X12_isManned_B41 k41 k173 (p_X12_isManned d) x1 x2 σ = some res → V G (5 + d + 1) 5 X ((some (.int res.1)), res.2) σ [(0, .ref (ga G 65)), (1, .int x1), (2, .int x2)] [] 41 := by
      intro k41 k173 hk41 hk173 x2 σ h
      unfold p_X12_isManned_B41 at h
      refine v_blk hC (is := [(.iload_n 2, 0), (.iconst 3, (3 : Int32))]) (pc' := 43) (ls' := [(0, .ref (ga G 65)), (1, .int x1), (2, .int x2)]) (st' := [.int (3 : Int32), .int x2]) (by decide +kernel) rfl ?_
      refine v_icmp_ge hC (off := 130) (tgt := 173) (by decide +kernel) (by decide) h (fun hq h => ?_) (fun hq h => ?_)
      · refine v_sub [0, 1] (ls' := [(0, .ref (ga G 65)), (1, .int x1)]) rfl ?_
        exact hk173 _ h
      · refine v_blk hC (is := [(.aload_n 0, 0)]) (pc' := 47) (ls' := [(0, .ref (ga G 65)), (1, .int x1), (2, .int x2)]) (st' := [.ref (ga G 65)]) (by decide +kernel) rfl ?_
        refine gX12_0 hC lfX12_9 (by decide +kernel) ?_
        refine v_blk hC (is := [(.iload_n 1, 0), (.iconst 3, (3 : Int32))]) (pc' := 52) (ls' := [(0, .ref (ga G 65)), (1, .int x1), (2, .int x2)]) (st' := [.int (3 : Int32), .int x1, .ref (ga G 66)]) (by decide +kernel) rfl ?_
        obtain ⟨v18, s19, e20, h⟩ := bndI h
        refine v_cS (idx := 57) hC ⟨tt_at 1143 (by decide +kernel) rfl, tsX12_of, tnX12_of, tcX12_of, tmX12_of⟩ (c_X12_of e20) (by omega) (by decide) (by decide +kernel) (rest := [.ref (ga G 66)]) rfl rfl (Nat.le_of_ble_eq_true rfl) rfl ?_
        refine v_iald hC isA_66 rfl (by decide +kernel) h (fun v21 h => ?_)
        refine v_if_ne hC (off := 117) (tgt := 173) (by decide +kernel) (by decide) h (fun hq h => ?_) (fun hq h => ?_)
        · refine v_sub [0, 1] (ls' := [(0, .ref (ga G 65)), (1, .int x1)]) rfl ?_
          exact hk173 _ h
        · refine v_blk hC (is := [(.aload_n 0, 0)]) (pc' := 60) (ls' := [(0, .ref (ga G 65)), (1, .int x1), (2, .int x2)]) (st' := [.ref (ga G 65)]) (by decide +kernel) rfl ?_
          refine gX12_10 hC lfX12_28 (by decide +kernel) ?_
          refine v_blk hC (is := [(.iload_n 2, 0)]) (pc' := 64) (ls' := [(0, .ref (ga G 65)), (1, .int x1), (2, .int x2)]) (st' := [.int x2, .ref (ga G 72)]) (by decide +kernel) rfl ?_
          refine v_iald hC isA_72 rfl (by decide +kernel) h (fun v22 h => ?_)
          refine v_if_le hC (off := 7) (tgt := 72) (by decide +kernel) (by decide) h (fun hq h => ?_) (fun hq h => ?_)
          · refine v_blk hC (is := [(.iconst 0, (0 : Int32))]) (pc' := 73) (ls' := [(0, .ref (ga G 65)), (1, .int x1), (2, .int x2)]) (st' := [.int (0 : Int32)]) (by decide +kernel) rfl ?_
            exact (hB73 _ hk41) _ _ _ h
          · refine v_blk hC (is := [(.iconst 1, (1 : Int32))]) (pc' := 69) (ls' := [(0, .ref (ga G 65)), (1, .int x1), (2, .int x2)]) (st' := [.int (1 : Int32)]) (by decide +kernel) rfl ?_
            refine v_goto hC (off := 4) (tgt := 73) (by decide +kernel) (by decide) ?_
            exact (hB73 _ hk41) _ _ _ h
    have hL41 : ∀ (k173 : Mem → Option (Int32 × Mem)), (∀ σ : Mem, k173 σ = some res → V G (5 + d + 1) 5 X ((some (.int res.1)), res.2) σ [(0, .ref (ga G 65)), (1, .int x1)] [] 173) → ∀ f : Nat, ∀ (x2 : Int32), ∀ σ : Mem, p_X12_isManned_L41 k173 (p_X12_isManned d) x1 f x2 σ = some res → V G (5 + d + 1) 5 X ((some (.int res.1)), res.2) σ [(0, .ref (ga G 65)), (1, .int x1), (2, .int x2)] [] 41 := by
      intro k173 hk173 f
      induction f with
      | zero => intro x2 σ h; exact none_some h
      | succ f ih => intro x2 σ h; exact hB41 (p_X12_isManned_L41 k173 (p_X12_isManned d) x1 f) k173 ih hk173 x2 σ h
    have h : p_X12_isManned_E (p_X12_isManned d) x1 σ = some res := h
    unfold p_X12_isManned_E at h
    show V G (5 + d + 1) 5 X ((some (.int res.1)), res.2) σ [(0, .ref (ga G 65)), (1, .int x1)] [] 0
    refine v_blk hC (is := [(.iload_n 1, 0), (.aload_n 0, 0)]) (pc' := 2) (ls' := [(0, .ref (ga G 65)), (1, .int x1)]) (st' := [.ref (ga G 65), .int x1]) (by decide +kernel) rfl ?_
    refine gX12_0 hC lfX12_9 (by decide +kernel) ?_
    refine v_blk hC (is := [(.iconst 0, (0 : Int32))]) (pc' := 6) (ls' := [(0, .ref (ga G 65)), (1, .int x1)]) (st' := [.int (0 : Int32), .ref (ga G 66), .int x1]) (by decide +kernel) rfl ?_
    refine v_iald hC isA_66 rfl (by decide +kernel) h (fun v23 h => ?_)
    refine v_icmp_ne hC (off := 32) (tgt := 39) (by decide +kernel) (by decide) h (fun hq h => ?_) (fun hq h => ?_)
    · refine v_blk hC (is := [(.iconst 0, (0 : Int32)), (.istore_n 2, 0)]) (pc' := 41) (ls' := [(2, .int (0 : Int32)), (0, .ref (ga G 65)), (1, .int x1)]) (st' := []) (by decide +kernel) rfl ?_
      refine v_sub [1, 2, 0] (ls' := [(0, .ref (ga G 65)), (1, .int x1), (2, .int (0 : Int32))]) rfl ?_
      exact (hL41 _ (hB173 ) 1000) _ _ h
    · refine v_blk hC (is := [(.aload_n 0, 0)]) (pc' := 11) (ls' := [(0, .ref (ga G 65)), (1, .int x1)]) (st' := [.ref (ga G 65)]) (by decide +kernel) rfl ?_
      refine gX12_10 hC lfX12_28 (by decide +kernel) ?_
      refine v_blk hC (is := [(.iconst 0, (0 : Int32))]) (pc' := 15) (ls' := [(0, .ref (ga G 65)), (1, .int x1)]) (st' := [.int (0 : Int32), .ref (ga G 72)]) (by decide +kernel) rfl ?_
      refine v_iald hC isA_72 rfl (by decide +kernel) h (fun v24 h => ?_)
      refine v_blk hC (is := [(.aload_n 0, 0)]) (pc' := 17) (ls' := [(0, .ref (ga G 65)), (1, .int x1)]) (st' := [.ref (ga G 65), .int v24]) (by decide +kernel) rfl ?_
      refine gX12_10 hC lfX12_28 (by decide +kernel) ?_
      refine v_blk hC (is := [(.iconst 1, (1 : Int32))]) (pc' := 21) (ls' := [(0, .ref (ga G 65)), (1, .int x1)]) (st' := [.int (1 : Int32), .ref (ga G 72), .int v24]) (by decide +kernel) rfl ?_
      refine v_iald hC isA_72 rfl (by decide +kernel) h (fun v25 h => ?_)
      refine v_blk hC (is := [(.iadd, 0), (.aload_n 0, 0)]) (pc' := 24) (ls' := [(0, .ref (ga G 65)), (1, .int x1)]) (st' := [.ref (ga G 65), .int (v24 + v25)]) (by decide +kernel) rfl ?_
      refine gX12_10 hC lfX12_28 (by decide +kernel) ?_
      refine v_blk hC (is := [(.iconst 2, (2 : Int32))]) (pc' := 28) (ls' := [(0, .ref (ga G 65)), (1, .int x1)]) (st' := [.int (2 : Int32), .ref (ga G 72), .int (v24 + v25)]) (by decide +kernel) rfl ?_
      refine v_iald hC isA_72 rfl (by decide +kernel) h (fun v26 h => ?_)
      refine v_blk hC (is := [(.iadd, 0)]) (pc' := 30) (ls' := [(0, .ref (ga G 65)), (1, .int x1)]) (st' := [.int ((v24 + v25) + v26)]) (by decide +kernel) rfl ?_
      refine v_if_ne hC (off := 7) (tgt := 37) (by decide +kernel) (by decide) h (fun hq h => ?_) (fun hq h => ?_)
      · refine v_blk hC (is := [(.iconst 0, (0 : Int32))]) (pc' := 38) (ls' := [(0, .ref (ga G 65)), (1, .int x1)]) (st' := [.int (0 : Int32)]) (by decide +kernel) rfl ?_
        exact v_zret hC rfl h (by decide +kernel)
      · refine v_blk hC (is := [(.iconst 1, (1 : Int32))]) (pc' := 34) (ls' := [(0, .ref (ga G 65)), (1, .int x1)]) (st' := [.int (1 : Int32)]) (by decide +kernel) rfl ?_
        refine v_goto hC (off := 4) (tgt := 38) (by decide +kernel) (by decide) ?_
        exact v_zret hC rfl h (by decide +kernel)

def p_X12_manned_B44  (x1 : Int32) (x2 : Int32) (x3 : Int32) (x4 : Int32)  (σ : Mem) : Option (Int32 × Mem) := (if (0 : Int32) < 0 ∨ 3 ≤ ((0 : Int32)).toNatClampNeg then none else wr σ 72 ((0 : Int32)).toNatClampNeg x1 fun s1 => (if (1 : Int32) < 0 ∨ 3 ≤ ((1 : Int32)).toNatClampNeg then none else wr s1 72 ((1 : Int32)).toNatClampNeg x2 fun s2 => (if (2 : Int32) < 0 ∨ 3 ≤ ((2 : Int32)).toNatClampNeg then none else wr s2 72 ((2 : Int32)).toNatClampNeg x3 fun s3 => (bnd (p_X12_isManned 10 (0 : Int32) s3) fun v4 s5 => (if 0 ≤ x4 then (if v4 = 0 then some ((-4 : Int32), s5) else (if x4 < 0 ∨ 8 ≤ (x4).toNatClampNeg then none else lt (s5 71 (x4).toNatClampNeg) fun v7 => some (v7, s5))) else (if v4 = 0 then some ((0 : Int32), s5) else some ((1 : Int32), s5)))))))
def p_X12_manned (x1 : Int32) (x2 : Int32) (x3 : Int32) (x4 : Int32) (σ : Mem) : Option (Int32 × Mem) := (bnd (p_X12_isIn x1 (0 : Int32) (4 : Int32) σ) fun v8 s9 => (if v8 = 0 then some ((-1 : Int32), s9) else (bnd (p_X12_isIn x2 (0 : Int32) (4 : Int32) s9) fun v11 s12 => (if v11 = 0 then some ((-1 : Int32), s12) else (bnd (p_X12_isIn x3 (0 : Int32) (4 : Int32) s12) fun v14 s15 => (if v14 = 0 then some ((-1 : Int32), s15) else (if x4 = (-1 : Int32) then (p_X12_manned_B44 x1 x2 x3 x4) s15 else (bnd (p_X12_isMan x4 s15) fun v17 s18 => (if v17 = 0 then some ((-1 : Int32), s18) else (p_X12_manned_B44 x1 x2 x3 x4) s18)))))))))
set_option maxHeartbeats 4000000 in
set_option maxRecDepth 100000 in
theorem c_X12_manned {G : Gl} {x1 : Int32} {x2 : Int32} {x3 : Int32} {x4 : Int32} {σ : Mem} {res : Int32 × Mem}  (h : p_X12_manned x1 x2 x3 x4 σ = some res) : MetX G yX12_manned cX12_manned 6 (some .int) 16 [.ref (ga G 65), .int x1, .int x2, .int x3, .int x4] σ (some (.int res.1)) res.2 := by
  refine met_V (by decide +kernel) (Nat.le_of_ble_eq_true rfl) (fun X hC => ?_)
  have hC : Ok G 16 6 X cX12_manned RX12 (some .int) := hC
  have hB44 : ∀ σ : Mem, p_X12_manned_B44 x1 x2 x3 x4 σ = some res → V G 16 6 X ((some (.int res.1)), res.2) σ [(0, .ref (ga G 65)), (1, .int x1), (2, .int x2), (3, .int x3), (4, .int x4)] [] 44 := by
    intro  σ h
    unfold p_X12_manned_B44 at h
    refine v_blk hC (is := [(.aload_n 0, 0)]) (pc' := 45) (ls' := [(0, .ref (ga G 65)), (1, .int x1), (2, .int x2), (3, .int x3), (4, .int x4)]) (st' := [.ref (ga G 65)]) (by decide +kernel) rfl ?_
    refine gX12_10 hC lfX12_28 (by decide +kernel) ?_
    refine v_blk hC (is := [(.iconst 0, (0 : Int32)), (.iload_n 1, 0)]) (pc' := 50) (ls' := [(0, .ref (ga G 65)), (1, .int x1), (2, .int x2), (3, .int x3), (4, .int x4)]) (st' := [.int x1, .int (0 : Int32), .ref (ga G 72)]) (by decide +kernel) rfl ?_
    refine v_iast hC isA_72 rfl (by decide +kernel) h (fun s1 h => ?_)
    refine v_blk hC (is := [(.aload_n 0, 0)]) (pc' := 52) (ls' := [(0, .ref (ga G 65)), (1, .int x1), (2, .int x2), (3, .int x3), (4, .int x4)]) (st' := [.ref (ga G 65)]) (by decide +kernel) rfl ?_
    refine gX12_10 hC lfX12_28 (by decide +kernel) ?_
    refine v_blk hC (is := [(.iconst 1, (1 : Int32)), (.iload_n 2, 0)]) (pc' := 57) (ls' := [(0, .ref (ga G 65)), (1, .int x1), (2, .int x2), (3, .int x3), (4, .int x4)]) (st' := [.int x2, .int (1 : Int32), .ref (ga G 72)]) (by decide +kernel) rfl ?_
    refine v_iast hC isA_72 rfl (by decide +kernel) h (fun s2 h => ?_)
    refine v_blk hC (is := [(.aload_n 0, 0)]) (pc' := 59) (ls' := [(0, .ref (ga G 65)), (1, .int x1), (2, .int x2), (3, .int x3), (4, .int x4)]) (st' := [.ref (ga G 65)]) (by decide +kernel) rfl ?_
    refine gX12_10 hC lfX12_28 (by decide +kernel) ?_
    refine v_blk hC (is := [(.iconst 2, (2 : Int32)), (.iload_n 3, 0)]) (pc' := 64) (ls' := [(0, .ref (ga G 65)), (1, .int x1), (2, .int x2), (3, .int x3), (4, .int x4)]) (st' := [.int x3, .int (2 : Int32), .ref (ga G 72)]) (by decide +kernel) rfl ?_
    refine v_iast hC isA_72 rfl (by decide +kernel) h (fun s3 h => ?_)
    refine v_blk hC (is := [(.aload_n 0, 0), (.iconst 0, (0 : Int32))]) (pc' := 67) (ls' := [(0, .ref (ga G 65)), (1, .int x1), (2, .int x2), (3, .int x3), (4, .int x4)]) (st' := [.int (0 : Int32), .ref (ga G 65)]) (by decide +kernel) rfl ?_
    obtain ⟨v4, s5, e6, h⟩ := bndI h
    refine v_cV (idx := 192) hC ⟨tt_at 1290 (by decide +kernel) rfl, tiX12_isManned, tvX12_isManned, tnX12_isManned, tcX12_isManned, tmX12_isManned⟩ isO_X12 rfl (c_X12_isManned 10 e6) (by decide) (by decide) (by decide +kernel) (rest := []) rfl rfl (Nat.le_of_ble_eq_true rfl) rfl ?_
    refine v_blk hC (is := [(.istore 5, 0), (.iload 4, 0)]) (pc' := 74) (ls' := [(5, .int v4), (0, .ref (ga G 65)), (1, .int x1), (2, .int x2), (3, .int x3), (4, .int x4)]) (st' := [.int x4]) (by decide +kernel) rfl ?_
    refine v_if_ge hC (off := 16) (tgt := 90) (by decide +kernel) (by decide) h (fun hq h => ?_) (fun hq h => ?_)
    · refine v_blk hC (is := [(.iload 5, 0)]) (pc' := 92) (ls' := [(5, .int v4), (0, .ref (ga G 65)), (1, .int x1), (2, .int x2), (3, .int x3), (4, .int x4)]) (st' := [.int v4]) (by decide +kernel) rfl ?_
      refine v_if_eq hC (off := 13) (tgt := 105) (by decide +kernel) (by decide) h (fun hq h => ?_) (fun hq h => ?_)
      · refine v_blk hC (is := [(.bipush (-4), (-4 : Int32))]) (pc' := 107) (ls' := [(5, .int v4), (0, .ref (ga G 65)), (1, .int x1), (2, .int x2), (3, .int x3), (4, .int x4)]) (st' := [.int (-4 : Int32)]) (by decide +kernel) rfl ?_
        exact v_iret hC h (by decide +kernel)
      · refine v_blk hC (is := [(.aload_n 0, 0)]) (pc' := 96) (ls' := [(5, .int v4), (0, .ref (ga G 65)), (1, .int x1), (2, .int x2), (3, .int x3), (4, .int x4)]) (st' := [.ref (ga G 65)]) (by decide +kernel) rfl ?_
        refine gX12_9 hC lfX12_25 (by decide +kernel) ?_
        refine v_blk hC (is := [(.iload 4, 0)]) (pc' := 101) (ls' := [(5, .int v4), (0, .ref (ga G 65)), (1, .int x1), (2, .int x2), (3, .int x3), (4, .int x4)]) (st' := [.int x4, .ref (ga G 71)]) (by decide +kernel) rfl ?_
        refine v_iald hC isA_71 rfl (by decide +kernel) h (fun v7 h => ?_)
        refine v_goto hC (off := 5) (tgt := 107) (by decide +kernel) (by decide) ?_
        exact v_iret hC h (by decide +kernel)
    · refine v_blk hC (is := [(.iload 5, 0)]) (pc' := 79) (ls' := [(5, .int v4), (0, .ref (ga G 65)), (1, .int x1), (2, .int x2), (3, .int x3), (4, .int x4)]) (st' := [.int v4]) (by decide +kernel) rfl ?_
      refine v_if_eq hC (off := 7) (tgt := 86) (by decide +kernel) (by decide) h (fun hq h => ?_) (fun hq h => ?_)
      · refine v_blk hC (is := [(.iconst 0, (0 : Int32))]) (pc' := 87) (ls' := [(5, .int v4), (0, .ref (ga G 65)), (1, .int x1), (2, .int x2), (3, .int x3), (4, .int x4)]) (st' := [.int (0 : Int32)]) (by decide +kernel) rfl ?_
        refine v_goto hC (off := 20) (tgt := 107) (by decide +kernel) (by decide) ?_
        exact v_iret hC h (by decide +kernel)
      · refine v_blk hC (is := [(.iconst 1, (1 : Int32))]) (pc' := 83) (ls' := [(5, .int v4), (0, .ref (ga G 65)), (1, .int x1), (2, .int x2), (3, .int x3), (4, .int x4)]) (st' := [.int (1 : Int32)]) (by decide +kernel) rfl ?_
        refine v_goto hC (off := 24) (tgt := 107) (by decide +kernel) (by decide) ?_
        exact v_iret hC h (by decide +kernel)
  unfold p_X12_manned at h
  show V G 16 6 X ((some (.int res.1)), res.2) σ [(0, .ref (ga G 65)), (1, .int x1), (2, .int x2), (3, .int x3), (4, .int x4)] [] 0
  refine v_blk hC (is := [(.iload_n 1, 0), (.iconst 0, (0 : Int32)), (.iconst 4, (4 : Int32))]) (pc' := 3) (ls' := [(0, .ref (ga G 65)), (1, .int x1), (2, .int x2), (3, .int x3), (4, .int x4)]) (st' := [.int (4 : Int32), .int (0 : Int32), .int x1]) (by decide +kernel) rfl ?_
  obtain ⟨v8, s9, e10, h⟩ := bndI h
  refine v_cS (idx := 49) hC ⟨tt_at 1118 (by decide +kernel) rfl, tsX12_isIn, tnX12_isIn, tcX12_isIn, tmX12_isIn⟩ (c_X12_isIn e10) (by decide) (by decide) (by decide +kernel) (rest := []) rfl rfl (Nat.le_of_ble_eq_true rfl) rfl ?_
  refine v_if_eq hC (off := 36) (tgt := 42) (by decide +kernel) (by decide) h (fun hq h => ?_) (fun hq h => ?_)
  · refine v_blk hC (is := [(.iconst (-1), (-1 : Int32))]) (pc' := 43) (ls' := [(0, .ref (ga G 65)), (1, .int x1), (2, .int x2), (3, .int x3), (4, .int x4)]) (st' := [.int (-1 : Int32)]) (by decide +kernel) rfl ?_
    exact v_iret hC h (by decide +kernel)
  · refine v_blk hC (is := [(.iload_n 2, 0), (.iconst 0, (0 : Int32)), (.iconst 4, (4 : Int32))]) (pc' := 12) (ls' := [(0, .ref (ga G 65)), (1, .int x1), (2, .int x2), (3, .int x3), (4, .int x4)]) (st' := [.int (4 : Int32), .int (0 : Int32), .int x2]) (by decide +kernel) rfl ?_
    obtain ⟨v11, s12, e13, h⟩ := bndI h
    refine v_cS (idx := 49) hC ⟨tt_at 1118 (by decide +kernel) rfl, tsX12_isIn, tnX12_isIn, tcX12_isIn, tmX12_isIn⟩ (c_X12_isIn e13) (by decide) (by decide) (by decide +kernel) (rest := []) rfl rfl (Nat.le_of_ble_eq_true rfl) rfl ?_
    refine v_if_eq hC (off := 27) (tgt := 42) (by decide +kernel) (by decide) h (fun hq h => ?_) (fun hq h => ?_)
    · refine v_blk hC (is := [(.iconst (-1), (-1 : Int32))]) (pc' := 43) (ls' := [(0, .ref (ga G 65)), (1, .int x1), (2, .int x2), (3, .int x3), (4, .int x4)]) (st' := [.int (-1 : Int32)]) (by decide +kernel) rfl ?_
      exact v_iret hC h (by decide +kernel)
    · refine v_blk hC (is := [(.iload_n 3, 0), (.iconst 0, (0 : Int32)), (.iconst 4, (4 : Int32))]) (pc' := 21) (ls' := [(0, .ref (ga G 65)), (1, .int x1), (2, .int x2), (3, .int x3), (4, .int x4)]) (st' := [.int (4 : Int32), .int (0 : Int32), .int x3]) (by decide +kernel) rfl ?_
      obtain ⟨v14, s15, e16, h⟩ := bndI h
      refine v_cS (idx := 49) hC ⟨tt_at 1118 (by decide +kernel) rfl, tsX12_isIn, tnX12_isIn, tcX12_isIn, tmX12_isIn⟩ (c_X12_isIn e16) (by decide) (by decide) (by decide +kernel) (rest := []) rfl rfl (Nat.le_of_ble_eq_true rfl) rfl ?_
      refine v_if_eq hC (off := 18) (tgt := 42) (by decide +kernel) (by decide) h (fun hq h => ?_) (fun hq h => ?_)
      · refine v_blk hC (is := [(.iconst (-1), (-1 : Int32))]) (pc' := 43) (ls' := [(0, .ref (ga G 65)), (1, .int x1), (2, .int x2), (3, .int x3), (4, .int x4)]) (st' := [.int (-1 : Int32)]) (by decide +kernel) rfl ?_
        exact v_iret hC h (by decide +kernel)
      · refine v_blk hC (is := [(.iload 4, 0), (.iconst (-1), (-1 : Int32))]) (pc' := 30) (ls' := [(0, .ref (ga G 65)), (1, .int x1), (2, .int x2), (3, .int x3), (4, .int x4)]) (st' := [.int (-1 : Int32), .int x4]) (by decide +kernel) rfl ?_
        refine v_icmp_eq hC (off := 14) (tgt := 44) (by decide +kernel) (by decide) h (fun hq h => ?_) (fun hq h => ?_)
        · exact (hB44 ) _ h
        · refine v_blk hC (is := [(.aload_n 0, 0), (.iload 4, 0)]) (pc' := 36) (ls' := [(0, .ref (ga G 65)), (1, .int x1), (2, .int x2), (3, .int x3), (4, .int x4)]) (st' := [.int x4, .ref (ga G 65)]) (by decide +kernel) rfl ?_
          obtain ⟨v17, s18, e19, h⟩ := bndI h
          refine v_cV (idx := 53) hC ⟨tt_at 1150 (by decide +kernel) rfl, tiX12_isMan, tvX12_isMan, tnX12_isMan, tcX12_isMan, tmX12_isMan⟩ isO_X12 rfl (c_X12_isMan e19) (by decide) (by decide) (by decide +kernel) (rest := []) rfl rfl (Nat.le_of_ble_eq_true rfl) rfl ?_
          refine v_if_ne hC (off := 5) (tgt := 44) (by decide +kernel) (by decide) h (fun hq h => ?_) (fun hq h => ?_)
          · exact (hB44 ) _ h
          · refine v_blk hC (is := [(.iconst (-1), (-1 : Int32))]) (pc' := 43) (ls' := [(0, .ref (ga G 65)), (1, .int x1), (2, .int x2), (3, .int x3), (4, .int x4)]) (st' := [.int (-1 : Int32)]) (by decide +kernel) rfl ?_
            exact v_iret hC h (by decide +kernel)

def p_X12_skillIn_B35 (k4 : Int32 → Int32 → Mem → Option (Int32 × Mem)) (x1 : Int32) (x3 : Int32) (t0 : Int32) (t1 : Int32) (σ : Mem) : Option (Int32 × Mem) := k4 (t0 + t1) (x3 + (1 : Int32)) σ
def p_X12_skillIn_B4 (k4 : Int32 → Int32 → Mem → Option (Int32 × Mem)) (x1 : Int32) (x2 : Int32) (x3 : Int32) (σ : Mem) : Option (Int32 × Mem) := (if (0 : Int32) < 0 ∨ 100 ≤ ((0 : Int32)).toNatClampNeg then none else lt (σ 66 ((0 : Int32)).toNatClampNeg) fun v1 => (if v1 ≤ x3 then some (x2, σ) else (bnd (p_X12_has x1 x3 σ) fun v2 s3 => (if v2 = 0 then (p_X12_skillIn_B35 k4 x1) x3 x2 (0 : Int32) s3 else (bnd (p_X12_skillOf 66 x3 s3) fun v5 s6 => (p_X12_skillIn_B35 k4 x1) x3 x2 v5 s6)))))
def p_X12_skillIn_L4  (x1 : Int32) : Nat → Int32 → Int32 → Mem → Option (Int32 × Mem)
  | 0 => fun _ _ _ => none
  | f + 1 => p_X12_skillIn_B4 (p_X12_skillIn_L4 x1 f) x1
def p_X12_skillIn (x1 : Int32) (σ : Mem) : Option (Int32 × Mem) := (p_X12_skillIn_L4 x1 1000) (0 : Int32) (0 : Int32) σ
set_option maxHeartbeats 4000000 in
set_option maxRecDepth 100000 in
theorem c_X12_skillIn {G : Gl} {x1 : Int32} {σ : Mem} {res : Int32 × Mem}  (h : p_X12_skillIn x1 σ = some res) : MetX G yX12_skillIn cX12_skillIn 4 (some .int) 3 [.ref (ga G 65), .int x1] σ (some (.int res.1)) res.2 := by
  refine met_V (by decide +kernel) (Nat.le_of_ble_eq_true rfl) (fun X hC => ?_)
  have hC : Ok G 3 4 X cX12_skillIn RX12 (some .int) := hC
  have hB35 : ∀ (k4 : Int32 → Int32 → Mem → Option (Int32 × Mem)), (∀ (x2 : Int32), ∀ (x3 : Int32), ∀ σ : Mem, k4 x2 x3 σ = some res → V G 3 4 X ((some (.int res.1)), res.2) σ [(0, .ref (ga G 65)), (1, .int x1), (2, .int x2), (3, .int x3)] [] 4) → ∀ (x3 : Int32), ∀ (t0 : Int32), ∀ (t1 : Int32), ∀ σ : Mem, p_X12_skillIn_B35 k4 x1 x3 t0 t1 σ = some res → V G 3 4 X ((some (.int res.1)), res.2) σ [(0, .ref (ga G 65)), (1, .int x1), (3, .int x3)] [.int t1, .int t0] 35 := by
    intro k4 hk4 x3 t0 t1 σ h
    unfold p_X12_skillIn_B35 at h
    refine v_blk hC (is := [(.iadd, 0), (.istore_n 2, 0), (.iinc 3 1, (1 : Int32))]) (pc' := 40) (ls' := [(3, .int (x3 + (1 : Int32))), (2, .int (t0 + t1)), (0, .ref (ga G 65)), (1, .int x1)]) (st' := []) (by decide +kernel) rfl ?_
    refine v_goto hC (off := (-36)) (tgt := 4) (by decide +kernel) (by decide) ?_
    refine v_sub [2, 3, 1, 0] (ls' := [(0, .ref (ga G 65)), (1, .int x1), (2, .int (t0 + t1)), (3, .int (x3 + (1 : Int32)))]) rfl ?_
    exact hk4 _ _ _ h
  have hB4 : ∀ (k4 : Int32 → Int32 → Mem → Option (Int32 × Mem)), (∀ (x2 : Int32), ∀ (x3 : Int32), ∀ σ : Mem, k4 x2 x3 σ = some res → V G 3 4 X ((some (.int res.1)), res.2) σ [(0, .ref (ga G 65)), (1, .int x1), (2, .int x2), (3, .int x3)] [] 4) → ∀ (x2 : Int32), ∀ (x3 : Int32), ∀ σ : Mem, p_X12_skillIn_B4 k4 x1 x2 x3 σ = some res → V G 3 4 X ((some (.int res.1)), res.2) σ [(0, .ref (ga G 65)), (1, .int x1), (2, .int x2), (3, .int x3)] [] 4 := by
    intro k4 hk4 x2 x3 σ h
    unfold p_X12_skillIn_B4 at h
    refine v_blk hC (is := [(.iload_n 3, 0), (.aload_n 0, 0)]) (pc' := 6) (ls' := [(0, .ref (ga G 65)), (1, .int x1), (2, .int x2), (3, .int x3)]) (st' := [.ref (ga G 65), .int x3]) (by decide +kernel) rfl ?_
    refine gX12_0 hC lfX12_9 (by decide +kernel) ?_
    refine v_blk hC (is := [(.iconst 0, (0 : Int32))]) (pc' := 10) (ls' := [(0, .ref (ga G 65)), (1, .int x1), (2, .int x2), (3, .int x3)]) (st' := [.int (0 : Int32), .ref (ga G 66), .int x3]) (by decide +kernel) rfl ?_
    refine v_iald hC isA_66 rfl (by decide +kernel) h (fun v1 h => ?_)
    refine v_icmp_ge hC (off := 32) (tgt := 43) (by decide +kernel) (by decide) h (fun hq h => ?_) (fun hq h => ?_)
    · refine v_blk hC (is := [(.iload_n 2, 0)]) (pc' := 44) (ls' := [(0, .ref (ga G 65)), (1, .int x1), (2, .int x2), (3, .int x3)]) (st' := [.int x2]) (by decide +kernel) rfl ?_
      exact v_iret hC h (by decide +kernel)
    · refine v_blk hC (is := [(.iload_n 2, 0), (.iload_n 1, 0), (.iload_n 3, 0)]) (pc' := 17) (ls' := [(0, .ref (ga G 65)), (1, .int x1), (2, .int x2), (3, .int x3)]) (st' := [.int x3, .int x1, .int x2]) (by decide +kernel) rfl ?_
      obtain ⟨v2, s3, e4, h⟩ := bndI h
      refine v_cS (idx := 85) hC ⟨tt_at 1175 (by decide +kernel) rfl, tsX12_has, tnX12_has, tcX12_has, tmX12_has⟩ (c_X12_has e4) (by decide) (by decide) (by decide +kernel) (rest := [.int x2]) rfl rfl (Nat.le_of_ble_eq_true rfl) rfl ?_
      refine v_if_eq hC (off := 14) (tgt := 34) (by decide +kernel) (by decide) h (fun hq h => ?_) (fun hq h => ?_)
      · refine v_blk hC (is := [(.iconst 0, (0 : Int32))]) (pc' := 35) (ls' := [(0, .ref (ga G 65)), (1, .int x1), (2, .int x2), (3, .int x3)]) (st' := [.int (0 : Int32), .int x2]) (by decide +kernel) rfl ?_
        refine v_sub [0, 1, 3] (ls' := [(0, .ref (ga G 65)), (1, .int x1), (3, .int x3)]) rfl ?_
        exact (hB35 _ hk4) _ _ _ _ h
      · refine v_blk hC (is := [(.aload_n 0, 0)]) (pc' := 24) (ls' := [(0, .ref (ga G 65)), (1, .int x1), (2, .int x2), (3, .int x3)]) (st' := [.ref (ga G 65), .int x2]) (by decide +kernel) rfl ?_
        refine gX12_0 hC lfX12_9 (by decide +kernel) ?_
        refine v_blk hC (is := [(.iload_n 3, 0)]) (pc' := 28) (ls' := [(0, .ref (ga G 65)), (1, .int x1), (2, .int x2), (3, .int x3)]) (st' := [.int x3, .ref (ga G 66), .int x2]) (by decide +kernel) rfl ?_
        obtain ⟨v5, s6, e7, h⟩ := bndI h
        refine v_cS (idx := 171) hC ⟨tt_at 1209 (by decide +kernel) rfl, tsX12_skillOf, tnX12_skillOf, tcX12_skillOf, tmX12_skillOf⟩ (c_X12_skillOf row66 e7) (by decide) (by decide) (by decide +kernel) (rest := [.int x2]) rfl rfl (Nat.le_of_ble_eq_true rfl) rfl ?_
        refine v_goto hC (off := 4) (tgt := 35) (by decide +kernel) (by decide) ?_
        refine v_sub [0, 1, 3] (ls' := [(0, .ref (ga G 65)), (1, .int x1), (3, .int x3)]) rfl ?_
        exact (hB35 _ hk4) _ _ _ _ h
  have hL4 : ∀ f : Nat, ∀ (x2 : Int32), ∀ (x3 : Int32), ∀ σ : Mem, p_X12_skillIn_L4 x1 f x2 x3 σ = some res → V G 3 4 X ((some (.int res.1)), res.2) σ [(0, .ref (ga G 65)), (1, .int x1), (2, .int x2), (3, .int x3)] [] 4 := by
    intro  f
    induction f with
    | zero => intro x2 x3 σ h; exact none_some h
    | succ f ih => intro x2 x3 σ h; exact hB4 (p_X12_skillIn_L4 x1 f)  ih  x2 x3 σ h
  unfold p_X12_skillIn at h
  show V G 3 4 X ((some (.int res.1)), res.2) σ [(0, .ref (ga G 65)), (1, .int x1)] [] 0
  refine v_blk hC (is := [(.iconst 0, (0 : Int32)), (.istore_n 2, 0), (.iconst 0, (0 : Int32)), (.istore_n 3, 0)]) (pc' := 4) (ls' := [(3, .int (0 : Int32)), (2, .int (0 : Int32)), (0, .ref (ga G 65)), (1, .int x1)]) (st' := []) (by decide +kernel) rfl ?_
  refine v_sub [2, 3, 1, 0] (ls' := [(0, .ref (ga G 65)), (1, .int x1), (2, .int (0 : Int32)), (3, .int (0 : Int32))]) rfl ?_
  exact (hL4 1000) _ _ _ h

def p_X12_payIn_B50 (k4 : Int32 → Int32 → Mem → Option (Int32 × Mem)) (x1 : Int32) (x3 : Int32) (t0 : Int32) (t1 : Int32) (σ : Mem) : Option (Int32 × Mem) := k4 (t0 + t1) (x3 + (1 : Int32)) σ
def p_X12_payIn_B4 (k4 : Int32 → Int32 → Mem → Option (Int32 × Mem)) (x1 : Int32) (x2 : Int32) (x3 : Int32) (σ : Mem) : Option (Int32 × Mem) := (if (0 : Int32) < 0 ∨ 100 ≤ ((0 : Int32)).toNatClampNeg then none else lt (σ 66 ((0 : Int32)).toNatClampNeg) fun v1 => (if v1 ≤ x3 then some (x2, σ) else (bnd (p_X12_has x1 x3 σ) fun v2 s3 => (if v2 = 0 then (p_X12_payIn_B50 k4 x1) x3 x2 (0 : Int32) s3 else (bnd (p_X12_of x3 (0 : Int32) s3) fun v5 s6 => (if v5 < 0 ∨ 100 ≤ (v5).toNatClampNeg then none else lt (s6 66 (v5).toNatClampNeg) fun v8 => (bnd (p_X12_of x3 (1 : Int32) s6) fun v9 s10 => (if v9 < 0 ∨ 100 ≤ (v9).toNatClampNeg then none else lt (s10 66 (v9).toNatClampNeg) fun v12 => (bnd (p_X12_pay v8 v12 s10) fun v13 s14 => (p_X12_payIn_B50 k4 x1) x3 x2 v13 s14)))))))))
def p_X12_payIn_L4  (x1 : Int32) : Nat → Int32 → Int32 → Mem → Option (Int32 × Mem)
  | 0 => fun _ _ _ => none
  | f + 1 => p_X12_payIn_B4 (p_X12_payIn_L4 x1 f) x1
def p_X12_payIn (x1 : Int32) (σ : Mem) : Option (Int32 × Mem) := (p_X12_payIn_L4 x1 1000) (0 : Int32) (0 : Int32) σ
set_option maxHeartbeats 4000000 in
set_option maxRecDepth 100000 in
theorem c_X12_payIn {G : Gl} {x1 : Int32} {σ : Mem} {res : Int32 × Mem}  (h : p_X12_payIn x1 σ = some res) : MetX G yX12_payIn cX12_payIn 4 (some .int) 2 [.ref (ga G 65), .int x1] σ (some (.int res.1)) res.2 := by
  refine met_V (by decide +kernel) (Nat.le_of_ble_eq_true rfl) (fun X hC => ?_)
  have hC : Ok G 2 4 X cX12_payIn RX12 (some .int) := hC
  have hB50 : ∀ (k4 : Int32 → Int32 → Mem → Option (Int32 × Mem)), (∀ (x2 : Int32), ∀ (x3 : Int32), ∀ σ : Mem, k4 x2 x3 σ = some res → V G 2 4 X ((some (.int res.1)), res.2) σ [(0, .ref (ga G 65)), (1, .int x1), (2, .int x2), (3, .int x3)] [] 4) → ∀ (x3 : Int32), ∀ (t0 : Int32), ∀ (t1 : Int32), ∀ σ : Mem, p_X12_payIn_B50 k4 x1 x3 t0 t1 σ = some res → V G 2 4 X ((some (.int res.1)), res.2) σ [(0, .ref (ga G 65)), (1, .int x1), (3, .int x3)] [.int t1, .int t0] 50 := by
    intro k4 hk4 x3 t0 t1 σ h
    unfold p_X12_payIn_B50 at h
    refine v_blk hC (is := [(.iadd, 0), (.istore_n 2, 0), (.iinc 3 1, (1 : Int32))]) (pc' := 55) (ls' := [(3, .int (x3 + (1 : Int32))), (2, .int (t0 + t1)), (0, .ref (ga G 65)), (1, .int x1)]) (st' := []) (by decide +kernel) rfl ?_
    refine v_goto hC (off := (-51)) (tgt := 4) (by decide +kernel) (by decide) ?_
    refine v_sub [2, 3, 1, 0] (ls' := [(0, .ref (ga G 65)), (1, .int x1), (2, .int (t0 + t1)), (3, .int (x3 + (1 : Int32)))]) rfl ?_
    exact hk4 _ _ _ h
  have hB4 : ∀ (k4 : Int32 → Int32 → Mem → Option (Int32 × Mem)), (∀ (x2 : Int32), ∀ (x3 : Int32), ∀ σ : Mem, k4 x2 x3 σ = some res → V G 2 4 X ((some (.int res.1)), res.2) σ [(0, .ref (ga G 65)), (1, .int x1), (2, .int x2), (3, .int x3)] [] 4) → ∀ (x2 : Int32), ∀ (x3 : Int32), ∀ σ : Mem, p_X12_payIn_B4 k4 x1 x2 x3 σ = some res → V G 2 4 X ((some (.int res.1)), res.2) σ [(0, .ref (ga G 65)), (1, .int x1), (2, .int x2), (3, .int x3)] [] 4 := by
    intro k4 hk4 x2 x3 σ h
    unfold p_X12_payIn_B4 at h
    refine v_blk hC (is := [(.iload_n 3, 0), (.aload_n 0, 0)]) (pc' := 6) (ls' := [(0, .ref (ga G 65)), (1, .int x1), (2, .int x2), (3, .int x3)]) (st' := [.ref (ga G 65), .int x3]) (by decide +kernel) rfl ?_
    refine gX12_0 hC lfX12_9 (by decide +kernel) ?_
    refine v_blk hC (is := [(.iconst 0, (0 : Int32))]) (pc' := 10) (ls' := [(0, .ref (ga G 65)), (1, .int x1), (2, .int x2), (3, .int x3)]) (st' := [.int (0 : Int32), .ref (ga G 66), .int x3]) (by decide +kernel) rfl ?_
    refine v_iald hC isA_66 rfl (by decide +kernel) h (fun v1 h => ?_)
    refine v_icmp_ge hC (off := 47) (tgt := 58) (by decide +kernel) (by decide) h (fun hq h => ?_) (fun hq h => ?_)
    · refine v_blk hC (is := [(.iload_n 2, 0)]) (pc' := 59) (ls' := [(0, .ref (ga G 65)), (1, .int x1), (2, .int x2), (3, .int x3)]) (st' := [.int x2]) (by decide +kernel) rfl ?_
      exact v_iret hC h (by decide +kernel)
    · refine v_blk hC (is := [(.iload_n 2, 0), (.iload_n 1, 0), (.iload_n 3, 0)]) (pc' := 17) (ls' := [(0, .ref (ga G 65)), (1, .int x1), (2, .int x2), (3, .int x3)]) (st' := [.int x3, .int x1, .int x2]) (by decide +kernel) rfl ?_
      obtain ⟨v2, s3, e4, h⟩ := bndI h
      refine v_cS (idx := 85) hC ⟨tt_at 1175 (by decide +kernel) rfl, tsX12_has, tnX12_has, tcX12_has, tmX12_has⟩ (c_X12_has e4) (by decide) (by decide) (by decide +kernel) (rest := [.int x2]) rfl rfl (Nat.le_of_ble_eq_true rfl) rfl ?_
      refine v_if_eq hC (off := 29) (tgt := 49) (by decide +kernel) (by decide) h (fun hq h => ?_) (fun hq h => ?_)
      · refine v_blk hC (is := [(.iconst 0, (0 : Int32))]) (pc' := 50) (ls' := [(0, .ref (ga G 65)), (1, .int x1), (2, .int x2), (3, .int x3)]) (st' := [.int (0 : Int32), .int x2]) (by decide +kernel) rfl ?_
        refine v_sub [0, 1, 3] (ls' := [(0, .ref (ga G 65)), (1, .int x1), (3, .int x3)]) rfl ?_
        exact (hB50 _ hk4) _ _ _ _ h
      · refine v_blk hC (is := [(.aload_n 0, 0)]) (pc' := 24) (ls' := [(0, .ref (ga G 65)), (1, .int x1), (2, .int x2), (3, .int x3)]) (st' := [.ref (ga G 65), .int x2]) (by decide +kernel) rfl ?_
        refine gX12_0 hC lfX12_9 (by decide +kernel) ?_
        refine v_blk hC (is := [(.iload_n 3, 0), (.iconst 0, (0 : Int32))]) (pc' := 29) (ls' := [(0, .ref (ga G 65)), (1, .int x1), (2, .int x2), (3, .int x3)]) (st' := [.int (0 : Int32), .int x3, .ref (ga G 66), .int x2]) (by decide +kernel) rfl ?_
        obtain ⟨v5, s6, e7, h⟩ := bndI h
        refine v_cS (idx := 57) hC ⟨tt_at 1143 (by decide +kernel) rfl, tsX12_of, tnX12_of, tcX12_of, tmX12_of⟩ (c_X12_of e7) (by decide) (by decide) (by decide +kernel) (rest := [.ref (ga G 66), .int x2]) rfl rfl (Nat.le_of_ble_eq_true rfl) rfl ?_
        refine v_iald hC isA_66 rfl (by decide +kernel) h (fun v8 h => ?_)
        refine v_blk hC (is := [(.aload_n 0, 0)]) (pc' := 34) (ls' := [(0, .ref (ga G 65)), (1, .int x1), (2, .int x2), (3, .int x3)]) (st' := [.ref (ga G 65), .int v8, .int x2]) (by decide +kernel) rfl ?_
        refine gX12_0 hC lfX12_9 (by decide +kernel) ?_
        refine v_blk hC (is := [(.iload_n 3, 0), (.iconst 1, (1 : Int32))]) (pc' := 39) (ls' := [(0, .ref (ga G 65)), (1, .int x1), (2, .int x2), (3, .int x3)]) (st' := [.int (1 : Int32), .int x3, .ref (ga G 66), .int v8, .int x2]) (by decide +kernel) rfl ?_
        obtain ⟨v9, s10, e11, h⟩ := bndI h
        refine v_cS (idx := 57) hC ⟨tt_at 1143 (by decide +kernel) rfl, tsX12_of, tnX12_of, tcX12_of, tmX12_of⟩ (c_X12_of e11) (by decide) (by decide) (by decide +kernel) (rest := [.ref (ga G 66), .int v8, .int x2]) rfl rfl (Nat.le_of_ble_eq_true rfl) rfl ?_
        refine v_iald hC isA_66 rfl (by decide +kernel) h (fun v12 h => ?_)
        obtain ⟨v13, s14, e15, h⟩ := bndI h
        refine v_cS (idx := 174) hC ⟨tt_at 1215 (by decide +kernel) rfl, tsX12_pay, tnX12_pay, tcX12_pay, tmX12_pay⟩ (c_X12_pay e15) (by decide) (by decide) (by decide +kernel) (rest := [.int x2]) rfl rfl (Nat.le_of_ble_eq_true rfl) rfl ?_
        refine v_goto hC (off := 4) (tgt := 50) (by decide +kernel) (by decide) ?_
        refine v_sub [0, 1, 3] (ls' := [(0, .ref (ga G 65)), (1, .int x1), (3, .int x3)]) rfl ?_
        exact (hB50 _ hk4) _ _ _ _ h
  have hL4 : ∀ f : Nat, ∀ (x2 : Int32), ∀ (x3 : Int32), ∀ σ : Mem, p_X12_payIn_L4 x1 f x2 x3 σ = some res → V G 2 4 X ((some (.int res.1)), res.2) σ [(0, .ref (ga G 65)), (1, .int x1), (2, .int x2), (3, .int x3)] [] 4 := by
    intro  f
    induction f with
    | zero => intro x2 x3 σ h; exact none_some h
    | succ f ih => intro x2 x3 σ h; exact hB4 (p_X12_payIn_L4 x1 f)  ih  x2 x3 σ h
  unfold p_X12_payIn at h
  show V G 2 4 X ((some (.int res.1)), res.2) σ [(0, .ref (ga G 65)), (1, .int x1)] [] 0
  refine v_blk hC (is := [(.iconst 0, (0 : Int32)), (.istore_n 2, 0), (.iconst 0, (0 : Int32)), (.istore_n 3, 0)]) (pc' := 4) (ls' := [(3, .int (0 : Int32)), (2, .int (0 : Int32)), (0, .ref (ga G 65)), (1, .int x1)]) (st' := []) (by decide +kernel) rfl ?_
  refine v_sub [2, 3, 1, 0] (ls' := [(0, .ref (ga G 65)), (1, .int x1), (2, .int (0 : Int32)), (3, .int (0 : Int32))]) rfl ?_
  exact (hL4 1000) _ _ _ h

def p_X12_bestCrew_B104 (k35 : Int32 → Int32 → Int32 → Mem → Option (Int32 × Mem)) (x1 : Int32) (x2 : Int32) (x3 : Int32) (x4 : Int32) (x5 : Int32) (σ : Mem) : Option (Int32 × Mem) := k35 x3 x4 (x5 + (1 : Int32)) σ
def p_X12_bestCrew_B82 (k35 : Int32 → Int32 → Int32 → Mem → Option (Int32 × Mem)) (x1 : Int32) (x2 : Int32) (x3 : Int32) (x4 : Int32) (x5 : Int32) (σ : Mem) : Option (Int32 × Mem) := (if (1 : Int32) < 0 ∨ 100 ≤ ((1 : Int32)).toNatClampNeg then none else lt (σ 66 ((1 : Int32)).toNatClampNeg) fun v1 => (bnd (p_X12_areLawful 66 x5 v1 σ) fun v2 s3 => (if v2 = 0 then (p_X12_bestCrew_B104 k35 x1 x2) x3 x4 x5 s3 else (p_X12_bestCrew_B104 k35 x1 x2) x3 x5 x5 s3)))
def p_X12_bestCrew_B119  (x1 : Int32) (x2 : Int32) (x4 : Int32) (σ : Mem) : Option (Int32 × Mem) := some (x4, σ)
def p_X12_bestCrew_B35 (k35 : Int32 → Int32 → Int32 → Mem → Option (Int32 × Mem)) (k110 : Int32 → Mem → Option (Int32 × Mem)) (x1 : Int32) (x2 : Int32) (x3 : Int32) (x4 : Int32) (x5 : Int32) (σ : Mem) : Option (Int32 × Mem) := (if x3 < x5 then k110 x4 σ else (if (x5 &&& (x3 ^^^ (-1 : Int32))) = 0 then (bnd (p_X12_bits x5 σ) fun v5 s6 => (if v5 = x1 then (if x4 < 0 then (p_X12_bestCrew_B82 k35 x1 x2) x3 x4 x5 s6 else (bnd (p_X12_skillIn x5 s6) fun v8 s9 => (bnd (p_X12_skillIn x4 s9) fun v11 s12 => (if v11 < v8 then (p_X12_bestCrew_B82 k35 x1 x2) x3 x4 x5 s12 else (p_X12_bestCrew_B104 k35 x1 x2) x3 x4 x5 s12)))) else (p_X12_bestCrew_B104 k35 x1 x2) x3 x4 x5 s6)) else (p_X12_bestCrew_B104 k35 x1 x2) x3 x4 x5 σ))
def p_X12_bestCrew_L35 (k110 : Int32 → Mem → Option (Int32 × Mem)) (x1 : Int32) (x2 : Int32) : Nat → Int32 → Int32 → Int32 → Mem → Option (Int32 × Mem)
  | 0 => fun _ _ _ _ => none
  | f + 1 => p_X12_bestCrew_B35 (p_X12_bestCrew_L35 k110 x1 x2 f) k110 x1 x2
def p_X12_bestCrew (x1 : Int32) (x2 : Int32) (σ : Mem) : Option (Int32 × Mem) := (bnd (p_X12_isIn x1 (1 : Int32) (5 : Int32) σ) fun v14 s15 => (if v14 = 0 then some ((-1 : Int32), s15) else (bnd (p_X12_isIn x2 (0 : Int32) (1 : Int32) s15) fun v17 s18 => (if v17 = 0 then some ((-1 : Int32), s18) else (bnd (p_X12_aliveSet 66 s18) fun v20 s21 => (p_X12_bestCrew_L35 (fun (x4 : Int32) (m23 : Mem) => (if x4 < 0 then (p_X12_bestCrew_B119 x1 x2) x4 m23 else (if x2 = 0 then (p_X12_bestCrew_B119 x1 x2) x4 m23 else (bnd (p_X12_skillIn x4 m23) fun v24 s25 => some (v24, s25))))) x1 x2 1000) v20 (-4 : Int32) (0 : Int32) s21)))))
set_option maxHeartbeats 4000000 in
set_option maxRecDepth 100000 in
theorem c_X12_bestCrew {G : Gl} {x1 : Int32} {x2 : Int32} {σ : Mem} {res : Int32 × Mem}  (h : p_X12_bestCrew x1 x2 σ = some res) : MetX G yX12_bestCrew cX12_bestCrew 6 (some .int) 5 [.ref (ga G 65), .int x1, .int x2] σ (some (.int res.1)) res.2 := by
  refine met_V (by decide +kernel) (Nat.le_of_ble_eq_true rfl) (fun X hC => ?_)
  have hC : Ok G 5 6 X cX12_bestCrew RX12 (some .int) := hC
  have hB104 : ∀ (k35 : Int32 → Int32 → Int32 → Mem → Option (Int32 × Mem)), (∀ (x3 : Int32), ∀ (x4 : Int32), ∀ (x5 : Int32), ∀ σ : Mem, k35 x3 x4 x5 σ = some res → V G 5 6 X ((some (.int res.1)), res.2) σ [(0, .ref (ga G 65)), (1, .int x1), (2, .int x2), (3, .int x3), (4, .int x4), (5, .int x5)] [] 35) → ∀ (x3 : Int32), ∀ (x4 : Int32), ∀ (x5 : Int32), ∀ σ : Mem, p_X12_bestCrew_B104 k35 x1 x2 x3 x4 x5 σ = some res → V G 5 6 X ((some (.int res.1)), res.2) σ [(0, .ref (ga G 65)), (1, .int x1), (2, .int x2), (3, .int x3), (4, .int x4), (5, .int x5)] [] 104 := by
    intro k35 hk35 x3 x4 x5 σ h
    unfold p_X12_bestCrew_B104 at h
    refine v_blk hC (is := [(.iinc 5 1, (1 : Int32))]) (pc' := 107) (ls' := [(5, .int (x5 + (1 : Int32))), (0, .ref (ga G 65)), (1, .int x1), (2, .int x2), (3, .int x3), (4, .int x4)]) (st' := []) (by decide +kernel) rfl ?_
    refine v_goto hC (off := (-72)) (tgt := 35) (by decide +kernel) (by decide) ?_
    refine v_sub [1, 2, 3, 4, 5, 0] (ls' := [(0, .ref (ga G 65)), (1, .int x1), (2, .int x2), (3, .int x3), (4, .int x4), (5, .int (x5 + (1 : Int32)))]) rfl ?_
    exact hk35 _ _ _ _ h
  have hB82 : ∀ (k35 : Int32 → Int32 → Int32 → Mem → Option (Int32 × Mem)), (∀ (x3 : Int32), ∀ (x4 : Int32), ∀ (x5 : Int32), ∀ σ : Mem, k35 x3 x4 x5 σ = some res → V G 5 6 X ((some (.int res.1)), res.2) σ [(0, .ref (ga G 65)), (1, .int x1), (2, .int x2), (3, .int x3), (4, .int x4), (5, .int x5)] [] 35) → ∀ (x3 : Int32), ∀ (x4 : Int32), ∀ (x5 : Int32), ∀ σ : Mem, p_X12_bestCrew_B82 k35 x1 x2 x3 x4 x5 σ = some res → V G 5 6 X ((some (.int res.1)), res.2) σ [(0, .ref (ga G 65)), (1, .int x1), (2, .int x2), (3, .int x3), (4, .int x4), (5, .int x5)] [] 82 := by
    intro k35 hk35 x3 x4 x5 σ h
    unfold p_X12_bestCrew_B82 at h
    refine v_blk hC (is := [(.aload_n 0, 0)]) (pc' := 83) (ls' := [(0, .ref (ga G 65)), (1, .int x1), (2, .int x2), (3, .int x3), (4, .int x4), (5, .int x5)]) (st' := [.ref (ga G 65)]) (by decide +kernel) rfl ?_
    refine gX12_0 hC lfX12_9 (by decide +kernel) ?_
    refine v_blk hC (is := [(.iload 5, 0), (.aload_n 0, 0)]) (pc' := 89) (ls' := [(0, .ref (ga G 65)), (1, .int x1), (2, .int x2), (3, .int x3), (4, .int x4), (5, .int x5)]) (st' := [.ref (ga G 65), .int x5, .ref (ga G 66)]) (by decide +kernel) rfl ?_
    refine gX12_0 hC lfX12_9 (by decide +kernel) ?_
    refine v_blk hC (is := [(.iconst 1, (1 : Int32))]) (pc' := 93) (ls' := [(0, .ref (ga G 65)), (1, .int x1), (2, .int x2), (3, .int x3), (4, .int x4), (5, .int x5)]) (st' := [.int (1 : Int32), .ref (ga G 66), .int x5, .ref (ga G 66)]) (by decide +kernel) rfl ?_
    refine v_iald hC isA_66 rfl (by decide +kernel) h (fun v1 h => ?_)
    obtain ⟨v2, s3, e4, h⟩ := bndI h
    refine v_cS (idx := 183) hC ⟨tt_at 1267 (by decide +kernel) rfl, tsX12_areLawful, tnX12_areLawful, tcX12_areLawful, tmX12_areLawful⟩ (c_X12_areLawful row66 e4) (by decide) (by decide) (by decide +kernel) (rest := []) rfl rfl (Nat.le_of_ble_eq_true rfl) rfl ?_
    refine v_if_eq hC (off := 7) (tgt := 104) (by decide +kernel) (by decide) h (fun hq h => ?_) (fun hq h => ?_)
    · exact (hB104 _ hk35) _ _ _ _ h
    · refine v_blk hC (is := [(.iload 5, 0), (.istore 4, 0)]) (pc' := 104) (ls' := [(4, .int x5), (0, .ref (ga G 65)), (1, .int x1), (2, .int x2), (3, .int x3), (5, .int x5)]) (st' := []) (by decide +kernel) rfl ?_
      refine v_sub [1, 2, 3, 4, 0, 5] (ls' := [(0, .ref (ga G 65)), (1, .int x1), (2, .int x2), (3, .int x3), (4, .int x5), (5, .int x5)]) rfl ?_
      exact (hB104 _ hk35) _ _ _ _ h
  have hB119 : ∀ (x4 : Int32), ∀ σ : Mem, p_X12_bestCrew_B119 x1 x2 x4 σ = some res → V G 5 6 X ((some (.int res.1)), res.2) σ [(4, .int x4)] [] 119 := by
    intro x4 σ h
    unfold p_X12_bestCrew_B119 at h
    refine v_blk hC (is := [(.iload 4, 0)]) (pc' := 121) (ls' := [(4, .int x4)]) (st' := [.int x4]) (by decide +kernel) rfl ?_
    refine v_goto hC (off := 9) (tgt := 130) (by decide +kernel) (by decide) ?_
    exact v_iret hC h (by decide +kernel)
  have hB35 : ∀ (k35 : Int32 → Int32 → Int32 → Mem → Option (Int32 × Mem)), ∀ (k110 : Int32 → Mem → Option (Int32 × Mem)), (∀ (x3 : Int32), ∀ (x4 : Int32), ∀ (x5 : Int32), ∀ σ : Mem, k35 x3 x4 x5 σ = some res → V G 5 6 X ((some (.int res.1)), res.2) σ [(0, .ref (ga G 65)), (1, .int x1), (2, .int x2), (3, .int x3), (4, .int x4), (5, .int x5)] [] 35) → (∀ (x4 : Int32), ∀ σ : Mem, k110 x4 σ = some res → V G 5 6 X ((some (.int res.1)), res.2) σ [(0, .ref (ga G 65)), (2, .int x2), (4, .int x4)] [] 110) → ∀ (x3 : Int32), ∀ (x4 : Int32), ∀ (x5 : Int32), ∀ σ : Mem, p_X12_bestCrew_B35 k35 k110 x1 x2 x3 x4 x5 σ = some res → V G 5 6 X ((some (.int res.1)), res.2) σ [(0, .ref (ga G 65)), (1, .int x1), (2, .int x2), (3, .int x3), (4, .int x4), (5, .int x5)] [] 35 := by
    intro k35 k110 hk35 hk110 x3 x4 x5 σ h
    unfold p_X12_bestCrew_B35 at h
    refine v_blk hC (is := [(.iload 5, 0), (.iload_n 3, 0)]) (pc' := 38) (ls' := [(0, .ref (ga G 65)), (1, .int x1), (2, .int x2), (3, .int x3), (4, .int x4), (5, .int x5)]) (st' := [.int x3, .int x5]) (by decide +kernel) rfl ?_
    refine v_icmp_gt hC (off := 72) (tgt := 110) (by decide +kernel) (by decide) h (fun hq h => ?_) (fun hq h => ?_)
    · refine v_sub [0, 2, 4] (ls' := [(0, .ref (ga G 65)), (2, .int x2), (4, .int x4)]) rfl ?_
      exact hk110 _ _ h
    · refine v_blk hC (is := [(.iload 5, 0), (.iload_n 3, 0), (.iconst (-1), (-1 : Int32)), (.ixor, 0), (.iand, 0)]) (pc' := 47) (ls' := [(0, .ref (ga G 65)), (1, .int x1), (2, .int x2), (3, .int x3), (4, .int x4), (5, .int x5)]) (st' := [.int (x5 &&& (x3 ^^^ (-1 : Int32)))]) (by decide +kernel) rfl ?_
      refine v_if_ne hC (off := 57) (tgt := 104) (by decide +kernel) (by decide) h (fun hq h => ?_) (fun hq h => ?_)
      · exact (hB104 _ hk35) _ _ _ _ h
      · refine v_blk hC (is := [(.iload 5, 0)]) (pc' := 52) (ls' := [(0, .ref (ga G 65)), (1, .int x1), (2, .int x2), (3, .int x3), (4, .int x4), (5, .int x5)]) (st' := [.int x5]) (by decide +kernel) rfl ?_
        obtain ⟨v5, s6, e7, h⟩ := bndI h
        refine v_cS (idx := 126) hC ⟨tt_at 1249 (by decide +kernel) rfl, tsX12_bits, tnX12_bits, tcX12_bits, tmX12_bits⟩ (c_X12_bits e7) (by decide) (by decide) (by decide +kernel) (rest := []) rfl rfl (Nat.le_of_ble_eq_true rfl) rfl ?_
        refine v_blk hC (is := [(.iload_n 1, 0)]) (pc' := 56) (ls' := [(0, .ref (ga G 65)), (1, .int x1), (2, .int x2), (3, .int x3), (4, .int x4), (5, .int x5)]) (st' := [.int x1, .int v5]) (by decide +kernel) rfl ?_
        refine v_icmp_ne hC (off := 48) (tgt := 104) (by decide +kernel) (by decide) h (fun hq h => ?_) (fun hq h => ?_)
        · exact (hB104 _ hk35) _ _ _ _ h
        · refine v_blk hC (is := [(.iload 4, 0)]) (pc' := 61) (ls' := [(0, .ref (ga G 65)), (1, .int x1), (2, .int x2), (3, .int x3), (4, .int x4), (5, .int x5)]) (st' := [.int x4]) (by decide +kernel) rfl ?_
          refine v_if_lt hC (off := 21) (tgt := 82) (by decide +kernel) (by decide) h (fun hq h => ?_) (fun hq h => ?_)
          · exact (hB82 _ hk35) _ _ _ _ h
          · refine v_blk hC (is := [(.aload_n 0, 0), (.iload 5, 0)]) (pc' := 67) (ls' := [(0, .ref (ga G 65)), (1, .int x1), (2, .int x2), (3, .int x3), (4, .int x4), (5, .int x5)]) (st' := [.int x5, .ref (ga G 65)]) (by decide +kernel) rfl ?_
            obtain ⟨v8, s9, e10, h⟩ := bndI h
            refine v_cV (idx := 195) hC ⟨tt_at 1298 (by decide +kernel) rfl, tiX12_skillIn, tvX12_skillIn, tnX12_skillIn, tcX12_skillIn, tmX12_skillIn⟩ isO_X12 rfl (c_X12_skillIn e10) (by decide) (by decide) (by decide +kernel) (rest := []) rfl rfl (Nat.le_of_ble_eq_true rfl) rfl ?_
            refine v_blk hC (is := [(.aload_n 0, 0), (.iload 4, 0)]) (pc' := 73) (ls' := [(0, .ref (ga G 65)), (1, .int x1), (2, .int x2), (3, .int x3), (4, .int x4), (5, .int x5)]) (st' := [.int x4, .ref (ga G 65), .int v8]) (by decide +kernel) rfl ?_
            obtain ⟨v11, s12, e13, h⟩ := bndI h
            refine v_cV (idx := 195) hC ⟨tt_at 1298 (by decide +kernel) rfl, tiX12_skillIn, tvX12_skillIn, tnX12_skillIn, tcX12_skillIn, tmX12_skillIn⟩ isO_X12 rfl (c_X12_skillIn e13) (by decide) (by decide) (by decide +kernel) (rest := [.int v8]) rfl rfl (Nat.le_of_ble_eq_true rfl) rfl ?_
            refine v_icmp_gt hC (off := 6) (tgt := 82) (by decide +kernel) (by decide) h (fun hq h => ?_) (fun hq h => ?_)
            · exact (hB82 _ hk35) _ _ _ _ h
            · refine v_goto hC (off := 25) (tgt := 104) (by decide +kernel) (by decide) ?_
              exact (hB104 _ hk35) _ _ _ _ h
  have hL35 : ∀ (k110 : Int32 → Mem → Option (Int32 × Mem)), (∀ (x4 : Int32), ∀ σ : Mem, k110 x4 σ = some res → V G 5 6 X ((some (.int res.1)), res.2) σ [(0, .ref (ga G 65)), (2, .int x2), (4, .int x4)] [] 110) → ∀ f : Nat, ∀ (x3 : Int32), ∀ (x4 : Int32), ∀ (x5 : Int32), ∀ σ : Mem, p_X12_bestCrew_L35 k110 x1 x2 f x3 x4 x5 σ = some res → V G 5 6 X ((some (.int res.1)), res.2) σ [(0, .ref (ga G 65)), (1, .int x1), (2, .int x2), (3, .int x3), (4, .int x4), (5, .int x5)] [] 35 := by
    intro k110 hk110 f
    induction f with
    | zero => intro x3 x4 x5 σ h; exact none_some h
    | succ f ih => intro x3 x4 x5 σ h; exact hB35 (p_X12_bestCrew_L35 k110 x1 x2 f) k110 ih hk110 x3 x4 x5 σ h
  unfold p_X12_bestCrew at h
  show V G 5 6 X ((some (.int res.1)), res.2) σ [(0, .ref (ga G 65)), (1, .int x1), (2, .int x2)] [] 0
  refine v_blk hC (is := [(.iload_n 1, 0), (.iconst 1, (1 : Int32)), (.iconst 5, (5 : Int32))]) (pc' := 3) (ls' := [(0, .ref (ga G 65)), (1, .int x1), (2, .int x2)]) (st' := [.int (5 : Int32), .int (1 : Int32), .int x1]) (by decide +kernel) rfl ?_
  obtain ⟨v14, s15, e16, h⟩ := bndI h
  refine v_cS (idx := 49) hC ⟨tt_at 1118 (by decide +kernel) rfl, tsX12_isIn, tnX12_isIn, tcX12_isIn, tmX12_isIn⟩ (c_X12_isIn e16) (by decide) (by decide) (by decide +kernel) (rest := []) rfl rfl (Nat.le_of_ble_eq_true rfl) rfl ?_
  refine v_if_eq hC (off := 12) (tgt := 18) (by decide +kernel) (by decide) h (fun hq h => ?_) (fun hq h => ?_)
  · refine v_blk hC (is := [(.iconst (-1), (-1 : Int32))]) (pc' := 19) (ls' := [(0, .ref (ga G 65)), (1, .int x1), (2, .int x2)]) (st' := [.int (-1 : Int32)]) (by decide +kernel) rfl ?_
    exact v_iret hC h (by decide +kernel)
  · refine v_blk hC (is := [(.iload_n 2, 0), (.iconst 0, (0 : Int32)), (.iconst 1, (1 : Int32))]) (pc' := 12) (ls' := [(0, .ref (ga G 65)), (1, .int x1), (2, .int x2)]) (st' := [.int (1 : Int32), .int (0 : Int32), .int x2]) (by decide +kernel) rfl ?_
    obtain ⟨v17, s18, e19, h⟩ := bndI h
    refine v_cS (idx := 49) hC ⟨tt_at 1118 (by decide +kernel) rfl, tsX12_isIn, tnX12_isIn, tcX12_isIn, tmX12_isIn⟩ (c_X12_isIn e19) (by decide) (by decide) (by decide +kernel) (rest := []) rfl rfl (Nat.le_of_ble_eq_true rfl) rfl ?_
    refine v_if_ne hC (off := 5) (tgt := 20) (by decide +kernel) (by decide) h (fun hq h => ?_) (fun hq h => ?_)
    · refine v_blk hC (is := [(.aload_n 0, 0)]) (pc' := 21) (ls' := [(0, .ref (ga G 65)), (1, .int x1), (2, .int x2)]) (st' := [.ref (ga G 65)]) (by decide +kernel) rfl ?_
      refine gX12_0 hC lfX12_9 (by decide +kernel) ?_
      obtain ⟨v20, s21, e22, h⟩ := bndI h
      refine v_cS (idx := 180) hC ⟨tt_at 1260 (by decide +kernel) rfl, tsX12_aliveSet, tnX12_aliveSet, tcX12_aliveSet, tmX12_aliveSet⟩ (c_X12_aliveSet row66 e22) (by decide) (by decide) (by decide +kernel) (rest := []) rfl rfl (Nat.le_of_ble_eq_true rfl) rfl ?_
      refine v_blk hC (is := [(.istore_n 3, 0), (.bipush (-4), (-4 : Int32)), (.istore 4, 0), (.iconst 0, (0 : Int32)), (.istore 5, 0)]) (pc' := 35) (ls' := [(5, .int (0 : Int32)), (4, .int (-4 : Int32)), (3, .int v20), (0, .ref (ga G 65)), (1, .int x1), (2, .int x2)]) (st' := []) (by decide +kernel) rfl ?_
      refine v_sub [3, 4, 5, 2, 1, 0] (ls' := [(0, .ref (ga G 65)), (1, .int x1), (2, .int x2), (3, .int v20), (4, .int (-4 : Int32)), (5, .int (0 : Int32))]) rfl ?_
      exact (hL35 _ (fun x4  m23 h => by
          refine v_blk hC (is := [(.iload 4, 0)]) (pc' := 112) (ls' := [(0, .ref (ga G 65)), (2, .int x2), (4, .int x4)]) (st' := [.int x4]) (by decide +kernel) rfl ?_
          refine v_if_lt hC (off := 7) (tgt := 119) (by decide +kernel) (by decide) h (fun hq h => ?_) (fun hq h => ?_)
          · refine v_sub [2] (ls' := [(4, .int x4)]) rfl ?_
            exact (hB119 ) _ _ h
          · refine v_blk hC (is := [(.iload_n 2, 0)]) (pc' := 116) (ls' := [(0, .ref (ga G 65)), (2, .int x2), (4, .int x4)]) (st' := [.int x2]) (by decide +kernel) rfl ?_
            refine v_if_ne hC (off := 8) (tgt := 124) (by decide +kernel) (by decide) h (fun hq h => ?_) (fun hq h => ?_)
            · refine v_blk hC (is := [(.aload_n 0, 0), (.iload 4, 0)]) (pc' := 127) (ls' := [(0, .ref (ga G 65)), (2, .int x2), (4, .int x4)]) (st' := [.int x4, .ref (ga G 65)]) (by decide +kernel) rfl ?_
              obtain ⟨v24, s25, e26, h⟩ := bndI h
              refine v_cV (idx := 195) hC ⟨tt_at 1298 (by decide +kernel) rfl, tiX12_skillIn, tvX12_skillIn, tnX12_skillIn, tcX12_skillIn, tmX12_skillIn⟩ isO_X12 rfl (c_X12_skillIn e26) (by decide) (by decide) (by decide +kernel) (rest := []) rfl rfl (Nat.le_of_ble_eq_true rfl) rfl ?_
              exact v_iret hC h (by decide +kernel)
            · refine v_sub [2] (ls' := [(4, .int x4)]) rfl ?_
              exact (hB119 ) _ _ h) 1000) _ _ _ _ h
    · refine v_blk hC (is := [(.iconst (-1), (-1 : Int32))]) (pc' := 19) (ls' := [(0, .ref (ga G 65)), (1, .int x1), (2, .int x2)]) (st' := [.int (-1 : Int32)]) (by decide +kernel) rfl ?_
      exact v_iret hC h (by decide +kernel)

def p_X12_cheapest_B106 (k36 : Int32 → Int32 → Int32 → Mem → Option (Int32 × Mem)) (x1 : Int32) (x2 : Int32) (x3 : Int32) (x4 : Int32) (x5 : Int32) (σ : Mem) : Option (Int32 × Mem) := k36 x3 x4 (x5 + (1 : Int32)) σ
def p_X12_cheapest_B84 (k36 : Int32 → Int32 → Int32 → Mem → Option (Int32 × Mem)) (x1 : Int32) (x2 : Int32) (x3 : Int32) (x4 : Int32) (x5 : Int32) (σ : Mem) : Option (Int32 × Mem) := (if (1 : Int32) < 0 ∨ 100 ≤ ((1 : Int32)).toNatClampNeg then none else lt (σ 66 ((1 : Int32)).toNatClampNeg) fun v1 => (bnd (p_X12_areLawful 66 x5 v1 σ) fun v2 s3 => (if v2 = 0 then (p_X12_cheapest_B106 k36 x1 x2) x3 x4 x5 s3 else (p_X12_cheapest_B106 k36 x1 x2) x3 x5 x5 s3)))
def p_X12_cheapest_B121  (x1 : Int32) (x2 : Int32) (x4 : Int32) (σ : Mem) : Option (Int32 × Mem) := some (x4, σ)
def p_X12_cheapest_B36 (k36 : Int32 → Int32 → Int32 → Mem → Option (Int32 × Mem)) (k112 : Int32 → Mem → Option (Int32 × Mem)) (x1 : Int32) (x2 : Int32) (x3 : Int32) (x4 : Int32) (x5 : Int32) (σ : Mem) : Option (Int32 × Mem) := (if x3 < x5 then k112 x4 σ else (if (x5 &&& (x3 ^^^ (-1 : Int32))) = 0 then (bnd (p_X12_skillIn x5 σ) fun v5 s6 => (if v5 < x1 then (p_X12_cheapest_B106 k36 x1 x2) x3 x4 x5 s6 else (if x4 < 0 then (p_X12_cheapest_B84 k36 x1 x2) x3 x4 x5 s6 else (bnd (p_X12_payIn x5 s6) fun v8 s9 => (bnd (p_X12_payIn x4 s9) fun v11 s12 => (if v8 < v11 then (p_X12_cheapest_B84 k36 x1 x2) x3 x4 x5 s12 else (p_X12_cheapest_B106 k36 x1 x2) x3 x4 x5 s12)))))) else (p_X12_cheapest_B106 k36 x1 x2) x3 x4 x5 σ))
def p_X12_cheapest_L36 (k112 : Int32 → Mem → Option (Int32 × Mem)) (x1 : Int32) (x2 : Int32) : Nat → Int32 → Int32 → Int32 → Mem → Option (Int32 × Mem)
  | 0 => fun _ _ _ _ => none
  | f + 1 => p_X12_cheapest_B36 (p_X12_cheapest_L36 k112 x1 x2 f) k112 x1 x2
def p_X12_cheapest (x1 : Int32) (x2 : Int32) (σ : Mem) : Option (Int32 × Mem) := (bnd (p_X12_isIn x1 (0 : Int32) (60 : Int32) σ) fun v14 s15 => (if v14 = 0 then some ((-1 : Int32), s15) else (bnd (p_X12_isIn x2 (0 : Int32) (1 : Int32) s15) fun v17 s18 => (if v17 = 0 then some ((-1 : Int32), s18) else (bnd (p_X12_aliveSet 66 s18) fun v20 s21 => (p_X12_cheapest_L36 (fun (x4 : Int32) (m23 : Mem) => (if x4 < 0 then (p_X12_cheapest_B121 x1 x2) x4 m23 else (if x2 = 0 then (p_X12_cheapest_B121 x1 x2) x4 m23 else (bnd (p_X12_payIn x4 m23) fun v24 s25 => some (v24, s25))))) x1 x2 1000) v20 (-4 : Int32) (0 : Int32) s21)))))
set_option maxHeartbeats 4000000 in
set_option maxRecDepth 100000 in
theorem c_X12_cheapest {G : Gl} {x1 : Int32} {x2 : Int32} {σ : Mem} {res : Int32 × Mem}  (h : p_X12_cheapest x1 x2 σ = some res) : MetX G yX12_cheapest cX12_cheapest 6 (some .int) 5 [.ref (ga G 65), .int x1, .int x2] σ (some (.int res.1)) res.2 := by
  refine met_V (by decide +kernel) (Nat.le_of_ble_eq_true rfl) (fun X hC => ?_)
  have hC : Ok G 5 6 X cX12_cheapest RX12 (some .int) := hC
  have hB106 : ∀ (k36 : Int32 → Int32 → Int32 → Mem → Option (Int32 × Mem)), (∀ (x3 : Int32), ∀ (x4 : Int32), ∀ (x5 : Int32), ∀ σ : Mem, k36 x3 x4 x5 σ = some res → V G 5 6 X ((some (.int res.1)), res.2) σ [(0, .ref (ga G 65)), (1, .int x1), (2, .int x2), (3, .int x3), (4, .int x4), (5, .int x5)] [] 36) → ∀ (x3 : Int32), ∀ (x4 : Int32), ∀ (x5 : Int32), ∀ σ : Mem, p_X12_cheapest_B106 k36 x1 x2 x3 x4 x5 σ = some res → V G 5 6 X ((some (.int res.1)), res.2) σ [(0, .ref (ga G 65)), (1, .int x1), (2, .int x2), (3, .int x3), (4, .int x4), (5, .int x5)] [] 106 := by
    intro k36 hk36 x3 x4 x5 σ h
    unfold p_X12_cheapest_B106 at h
    refine v_blk hC (is := [(.iinc 5 1, (1 : Int32))]) (pc' := 109) (ls' := [(5, .int (x5 + (1 : Int32))), (0, .ref (ga G 65)), (1, .int x1), (2, .int x2), (3, .int x3), (4, .int x4)]) (st' := []) (by decide +kernel) rfl ?_
    refine v_goto hC (off := (-73)) (tgt := 36) (by decide +kernel) (by decide) ?_
    refine v_sub [1, 2, 3, 4, 5, 0] (ls' := [(0, .ref (ga G 65)), (1, .int x1), (2, .int x2), (3, .int x3), (4, .int x4), (5, .int (x5 + (1 : Int32)))]) rfl ?_
    exact hk36 _ _ _ _ h
  have hB84 : ∀ (k36 : Int32 → Int32 → Int32 → Mem → Option (Int32 × Mem)), (∀ (x3 : Int32), ∀ (x4 : Int32), ∀ (x5 : Int32), ∀ σ : Mem, k36 x3 x4 x5 σ = some res → V G 5 6 X ((some (.int res.1)), res.2) σ [(0, .ref (ga G 65)), (1, .int x1), (2, .int x2), (3, .int x3), (4, .int x4), (5, .int x5)] [] 36) → ∀ (x3 : Int32), ∀ (x4 : Int32), ∀ (x5 : Int32), ∀ σ : Mem, p_X12_cheapest_B84 k36 x1 x2 x3 x4 x5 σ = some res → V G 5 6 X ((some (.int res.1)), res.2) σ [(0, .ref (ga G 65)), (1, .int x1), (2, .int x2), (3, .int x3), (4, .int x4), (5, .int x5)] [] 84 := by
    intro k36 hk36 x3 x4 x5 σ h
    unfold p_X12_cheapest_B84 at h
    refine v_blk hC (is := [(.aload_n 0, 0)]) (pc' := 85) (ls' := [(0, .ref (ga G 65)), (1, .int x1), (2, .int x2), (3, .int x3), (4, .int x4), (5, .int x5)]) (st' := [.ref (ga G 65)]) (by decide +kernel) rfl ?_
    refine gX12_0 hC lfX12_9 (by decide +kernel) ?_
    refine v_blk hC (is := [(.iload 5, 0), (.aload_n 0, 0)]) (pc' := 91) (ls' := [(0, .ref (ga G 65)), (1, .int x1), (2, .int x2), (3, .int x3), (4, .int x4), (5, .int x5)]) (st' := [.ref (ga G 65), .int x5, .ref (ga G 66)]) (by decide +kernel) rfl ?_
    refine gX12_0 hC lfX12_9 (by decide +kernel) ?_
    refine v_blk hC (is := [(.iconst 1, (1 : Int32))]) (pc' := 95) (ls' := [(0, .ref (ga G 65)), (1, .int x1), (2, .int x2), (3, .int x3), (4, .int x4), (5, .int x5)]) (st' := [.int (1 : Int32), .ref (ga G 66), .int x5, .ref (ga G 66)]) (by decide +kernel) rfl ?_
    refine v_iald hC isA_66 rfl (by decide +kernel) h (fun v1 h => ?_)
    obtain ⟨v2, s3, e4, h⟩ := bndI h
    refine v_cS (idx := 183) hC ⟨tt_at 1267 (by decide +kernel) rfl, tsX12_areLawful, tnX12_areLawful, tcX12_areLawful, tmX12_areLawful⟩ (c_X12_areLawful row66 e4) (by decide) (by decide) (by decide +kernel) (rest := []) rfl rfl (Nat.le_of_ble_eq_true rfl) rfl ?_
    refine v_if_eq hC (off := 7) (tgt := 106) (by decide +kernel) (by decide) h (fun hq h => ?_) (fun hq h => ?_)
    · exact (hB106 _ hk36) _ _ _ _ h
    · refine v_blk hC (is := [(.iload 5, 0), (.istore 4, 0)]) (pc' := 106) (ls' := [(4, .int x5), (0, .ref (ga G 65)), (1, .int x1), (2, .int x2), (3, .int x3), (5, .int x5)]) (st' := []) (by decide +kernel) rfl ?_
      refine v_sub [1, 2, 3, 4, 0, 5] (ls' := [(0, .ref (ga G 65)), (1, .int x1), (2, .int x2), (3, .int x3), (4, .int x5), (5, .int x5)]) rfl ?_
      exact (hB106 _ hk36) _ _ _ _ h
  have hB121 : ∀ (x4 : Int32), ∀ σ : Mem, p_X12_cheapest_B121 x1 x2 x4 σ = some res → V G 5 6 X ((some (.int res.1)), res.2) σ [(4, .int x4)] [] 121 := by
    intro x4 σ h
    unfold p_X12_cheapest_B121 at h
    refine v_blk hC (is := [(.iload 4, 0)]) (pc' := 123) (ls' := [(4, .int x4)]) (st' := [.int x4]) (by decide +kernel) rfl ?_
    refine v_goto hC (off := 9) (tgt := 132) (by decide +kernel) (by decide) ?_
    exact v_iret hC h (by decide +kernel)
  have hB36 : ∀ (k36 : Int32 → Int32 → Int32 → Mem → Option (Int32 × Mem)), ∀ (k112 : Int32 → Mem → Option (Int32 × Mem)), (∀ (x3 : Int32), ∀ (x4 : Int32), ∀ (x5 : Int32), ∀ σ : Mem, k36 x3 x4 x5 σ = some res → V G 5 6 X ((some (.int res.1)), res.2) σ [(0, .ref (ga G 65)), (1, .int x1), (2, .int x2), (3, .int x3), (4, .int x4), (5, .int x5)] [] 36) → (∀ (x4 : Int32), ∀ σ : Mem, k112 x4 σ = some res → V G 5 6 X ((some (.int res.1)), res.2) σ [(0, .ref (ga G 65)), (2, .int x2), (4, .int x4)] [] 112) → ∀ (x3 : Int32), ∀ (x4 : Int32), ∀ (x5 : Int32), ∀ σ : Mem, p_X12_cheapest_B36 k36 k112 x1 x2 x3 x4 x5 σ = some res → V G 5 6 X ((some (.int res.1)), res.2) σ [(0, .ref (ga G 65)), (1, .int x1), (2, .int x2), (3, .int x3), (4, .int x4), (5, .int x5)] [] 36 := by
    intro k36 k112 hk36 hk112 x3 x4 x5 σ h
    unfold p_X12_cheapest_B36 at h
    refine v_blk hC (is := [(.iload 5, 0), (.iload_n 3, 0)]) (pc' := 39) (ls' := [(0, .ref (ga G 65)), (1, .int x1), (2, .int x2), (3, .int x3), (4, .int x4), (5, .int x5)]) (st' := [.int x3, .int x5]) (by decide +kernel) rfl ?_
    refine v_icmp_gt hC (off := 73) (tgt := 112) (by decide +kernel) (by decide) h (fun hq h => ?_) (fun hq h => ?_)
    · refine v_sub [0, 2, 4] (ls' := [(0, .ref (ga G 65)), (2, .int x2), (4, .int x4)]) rfl ?_
      exact hk112 _ _ h
    · refine v_blk hC (is := [(.iload 5, 0), (.iload_n 3, 0), (.iconst (-1), (-1 : Int32)), (.ixor, 0), (.iand, 0)]) (pc' := 48) (ls' := [(0, .ref (ga G 65)), (1, .int x1), (2, .int x2), (3, .int x3), (4, .int x4), (5, .int x5)]) (st' := [.int (x5 &&& (x3 ^^^ (-1 : Int32)))]) (by decide +kernel) rfl ?_
      refine v_if_ne hC (off := 58) (tgt := 106) (by decide +kernel) (by decide) h (fun hq h => ?_) (fun hq h => ?_)
      · exact (hB106 _ hk36) _ _ _ _ h
      · refine v_blk hC (is := [(.aload_n 0, 0), (.iload 5, 0)]) (pc' := 54) (ls' := [(0, .ref (ga G 65)), (1, .int x1), (2, .int x2), (3, .int x3), (4, .int x4), (5, .int x5)]) (st' := [.int x5, .ref (ga G 65)]) (by decide +kernel) rfl ?_
        obtain ⟨v5, s6, e7, h⟩ := bndI h
        refine v_cV (idx := 195) hC ⟨tt_at 1298 (by decide +kernel) rfl, tiX12_skillIn, tvX12_skillIn, tnX12_skillIn, tcX12_skillIn, tmX12_skillIn⟩ isO_X12 rfl (c_X12_skillIn e7) (by decide) (by decide) (by decide +kernel) (rest := []) rfl rfl (Nat.le_of_ble_eq_true rfl) rfl ?_
        refine v_blk hC (is := [(.iload_n 1, 0)]) (pc' := 58) (ls' := [(0, .ref (ga G 65)), (1, .int x1), (2, .int x2), (3, .int x3), (4, .int x4), (5, .int x5)]) (st' := [.int x1, .int v5]) (by decide +kernel) rfl ?_
        refine v_icmp_lt hC (off := 48) (tgt := 106) (by decide +kernel) (by decide) h (fun hq h => ?_) (fun hq h => ?_)
        · exact (hB106 _ hk36) _ _ _ _ h
        · refine v_blk hC (is := [(.iload 4, 0)]) (pc' := 63) (ls' := [(0, .ref (ga G 65)), (1, .int x1), (2, .int x2), (3, .int x3), (4, .int x4), (5, .int x5)]) (st' := [.int x4]) (by decide +kernel) rfl ?_
          refine v_if_lt hC (off := 21) (tgt := 84) (by decide +kernel) (by decide) h (fun hq h => ?_) (fun hq h => ?_)
          · exact (hB84 _ hk36) _ _ _ _ h
          · refine v_blk hC (is := [(.aload_n 0, 0), (.iload 5, 0)]) (pc' := 69) (ls' := [(0, .ref (ga G 65)), (1, .int x1), (2, .int x2), (3, .int x3), (4, .int x4), (5, .int x5)]) (st' := [.int x5, .ref (ga G 65)]) (by decide +kernel) rfl ?_
            obtain ⟨v8, s9, e10, h⟩ := bndI h
            refine v_cV (idx := 198) hC ⟨tt_at 1306 (by decide +kernel) rfl, tiX12_payIn, tvX12_payIn, tnX12_payIn, tcX12_payIn, tmX12_payIn⟩ isO_X12 rfl (c_X12_payIn e10) (by decide) (by decide) (by decide +kernel) (rest := []) rfl rfl (Nat.le_of_ble_eq_true rfl) rfl ?_
            refine v_blk hC (is := [(.aload_n 0, 0), (.iload 4, 0)]) (pc' := 75) (ls' := [(0, .ref (ga G 65)), (1, .int x1), (2, .int x2), (3, .int x3), (4, .int x4), (5, .int x5)]) (st' := [.int x4, .ref (ga G 65), .int v8]) (by decide +kernel) rfl ?_
            obtain ⟨v11, s12, e13, h⟩ := bndI h
            refine v_cV (idx := 198) hC ⟨tt_at 1306 (by decide +kernel) rfl, tiX12_payIn, tvX12_payIn, tnX12_payIn, tcX12_payIn, tmX12_payIn⟩ isO_X12 rfl (c_X12_payIn e13) (by decide) (by decide) (by decide +kernel) (rest := [.int v8]) rfl rfl (Nat.le_of_ble_eq_true rfl) rfl ?_
            refine v_icmp_lt hC (off := 6) (tgt := 84) (by decide +kernel) (by decide) h (fun hq h => ?_) (fun hq h => ?_)
            · exact (hB84 _ hk36) _ _ _ _ h
            · refine v_goto hC (off := 25) (tgt := 106) (by decide +kernel) (by decide) ?_
              exact (hB106 _ hk36) _ _ _ _ h
  have hL36 : ∀ (k112 : Int32 → Mem → Option (Int32 × Mem)), (∀ (x4 : Int32), ∀ σ : Mem, k112 x4 σ = some res → V G 5 6 X ((some (.int res.1)), res.2) σ [(0, .ref (ga G 65)), (2, .int x2), (4, .int x4)] [] 112) → ∀ f : Nat, ∀ (x3 : Int32), ∀ (x4 : Int32), ∀ (x5 : Int32), ∀ σ : Mem, p_X12_cheapest_L36 k112 x1 x2 f x3 x4 x5 σ = some res → V G 5 6 X ((some (.int res.1)), res.2) σ [(0, .ref (ga G 65)), (1, .int x1), (2, .int x2), (3, .int x3), (4, .int x4), (5, .int x5)] [] 36 := by
    intro k112 hk112 f
    induction f with
    | zero => intro x3 x4 x5 σ h; exact none_some h
    | succ f ih => intro x3 x4 x5 σ h; exact hB36 (p_X12_cheapest_L36 k112 x1 x2 f) k112 ih hk112 x3 x4 x5 σ h
  unfold p_X12_cheapest at h
  show V G 5 6 X ((some (.int res.1)), res.2) σ [(0, .ref (ga G 65)), (1, .int x1), (2, .int x2)] [] 0
  refine v_blk hC (is := [(.iload_n 1, 0), (.iconst 0, (0 : Int32)), (.bipush 60, (60 : Int32))]) (pc' := 4) (ls' := [(0, .ref (ga G 65)), (1, .int x1), (2, .int x2)]) (st' := [.int (60 : Int32), .int (0 : Int32), .int x1]) (by decide +kernel) rfl ?_
  obtain ⟨v14, s15, e16, h⟩ := bndI h
  refine v_cS (idx := 49) hC ⟨tt_at 1118 (by decide +kernel) rfl, tsX12_isIn, tnX12_isIn, tcX12_isIn, tmX12_isIn⟩ (c_X12_isIn e16) (by decide) (by decide) (by decide +kernel) (rest := []) rfl rfl (Nat.le_of_ble_eq_true rfl) rfl ?_
  refine v_if_eq hC (off := 12) (tgt := 19) (by decide +kernel) (by decide) h (fun hq h => ?_) (fun hq h => ?_)
  · refine v_blk hC (is := [(.iconst (-1), (-1 : Int32))]) (pc' := 20) (ls' := [(0, .ref (ga G 65)), (1, .int x1), (2, .int x2)]) (st' := [.int (-1 : Int32)]) (by decide +kernel) rfl ?_
    exact v_iret hC h (by decide +kernel)
  · refine v_blk hC (is := [(.iload_n 2, 0), (.iconst 0, (0 : Int32)), (.iconst 1, (1 : Int32))]) (pc' := 13) (ls' := [(0, .ref (ga G 65)), (1, .int x1), (2, .int x2)]) (st' := [.int (1 : Int32), .int (0 : Int32), .int x2]) (by decide +kernel) rfl ?_
    obtain ⟨v17, s18, e19, h⟩ := bndI h
    refine v_cS (idx := 49) hC ⟨tt_at 1118 (by decide +kernel) rfl, tsX12_isIn, tnX12_isIn, tcX12_isIn, tmX12_isIn⟩ (c_X12_isIn e19) (by decide) (by decide) (by decide +kernel) (rest := []) rfl rfl (Nat.le_of_ble_eq_true rfl) rfl ?_
    refine v_if_ne hC (off := 5) (tgt := 21) (by decide +kernel) (by decide) h (fun hq h => ?_) (fun hq h => ?_)
    · refine v_blk hC (is := [(.aload_n 0, 0)]) (pc' := 22) (ls' := [(0, .ref (ga G 65)), (1, .int x1), (2, .int x2)]) (st' := [.ref (ga G 65)]) (by decide +kernel) rfl ?_
      refine gX12_0 hC lfX12_9 (by decide +kernel) ?_
      obtain ⟨v20, s21, e22, h⟩ := bndI h
      refine v_cS (idx := 180) hC ⟨tt_at 1260 (by decide +kernel) rfl, tsX12_aliveSet, tnX12_aliveSet, tcX12_aliveSet, tmX12_aliveSet⟩ (c_X12_aliveSet row66 e22) (by decide) (by decide) (by decide +kernel) (rest := []) rfl rfl (Nat.le_of_ble_eq_true rfl) rfl ?_
      refine v_blk hC (is := [(.istore_n 3, 0), (.bipush (-4), (-4 : Int32)), (.istore 4, 0), (.iconst 0, (0 : Int32)), (.istore 5, 0)]) (pc' := 36) (ls' := [(5, .int (0 : Int32)), (4, .int (-4 : Int32)), (3, .int v20), (0, .ref (ga G 65)), (1, .int x1), (2, .int x2)]) (st' := []) (by decide +kernel) rfl ?_
      refine v_sub [3, 4, 5, 2, 1, 0] (ls' := [(0, .ref (ga G 65)), (1, .int x1), (2, .int x2), (3, .int v20), (4, .int (-4 : Int32)), (5, .int (0 : Int32))]) rfl ?_
      exact (hL36 _ (fun x4  m23 h => by
          refine v_blk hC (is := [(.iload 4, 0)]) (pc' := 114) (ls' := [(0, .ref (ga G 65)), (2, .int x2), (4, .int x4)]) (st' := [.int x4]) (by decide +kernel) rfl ?_
          refine v_if_lt hC (off := 7) (tgt := 121) (by decide +kernel) (by decide) h (fun hq h => ?_) (fun hq h => ?_)
          · refine v_sub [2] (ls' := [(4, .int x4)]) rfl ?_
            exact (hB121 ) _ _ h
          · refine v_blk hC (is := [(.iload_n 2, 0)]) (pc' := 118) (ls' := [(0, .ref (ga G 65)), (2, .int x2), (4, .int x4)]) (st' := [.int x2]) (by decide +kernel) rfl ?_
            refine v_if_ne hC (off := 8) (tgt := 126) (by decide +kernel) (by decide) h (fun hq h => ?_) (fun hq h => ?_)
            · refine v_blk hC (is := [(.aload_n 0, 0), (.iload 4, 0)]) (pc' := 129) (ls' := [(0, .ref (ga G 65)), (2, .int x2), (4, .int x4)]) (st' := [.int x4, .ref (ga G 65)]) (by decide +kernel) rfl ?_
              obtain ⟨v24, s25, e26, h⟩ := bndI h
              refine v_cV (idx := 198) hC ⟨tt_at 1306 (by decide +kernel) rfl, tiX12_payIn, tvX12_payIn, tnX12_payIn, tcX12_payIn, tmX12_payIn⟩ isO_X12 rfl (c_X12_payIn e26) (by decide) (by decide) (by decide +kernel) (rest := []) rfl rfl (Nat.le_of_ble_eq_true rfl) rfl ?_
              exact v_iret hC h (by decide +kernel)
            · refine v_sub [2] (ls' := [(4, .int x4)]) rfl ?_
              exact (hB121 ) _ _ h) 1000) _ _ _ _ h
    · refine v_blk hC (is := [(.iconst (-1), (-1 : Int32))]) (pc' := 20) (ls' := [(0, .ref (ga G 65)), (1, .int x1), (2, .int x2)]) (st' := [.int (-1 : Int32)]) (by decide +kernel) rfl ?_
      exact v_iret hC h (by decide +kernel)

def p_X12_quarrels_B74 (k27 : Int32 → Int32 → Int32 → Int32 → Mem → Option (Int32 × Mem))  (x1 : Int32) (x3 : Int32) (x4 : Int32) (t0 : Int32) (t1 : Int32) (σ : Mem) : Option (Int32 × Mem) := k27 x1 (t0 + t1) x3 (x4 + (1 : Int32)) σ
def p_X12_quarrels_B73 (k27 : Int32 → Int32 → Int32 → Int32 → Mem → Option (Int32 × Mem))  (x1 : Int32) (x3 : Int32) (x4 : Int32) (t0 : Int32) (σ : Mem) : Option (Int32 × Mem) := (p_X12_quarrels_B74 k27) x1 x3 x4 t0 (0 : Int32) σ
def p_X12_quarrels_B27 (k27 : Int32 → Int32 → Int32 → Int32 → Mem → Option (Int32 × Mem)) (k82 : Int32 → Int32 → Int32 → Mem → Option (Int32 × Mem))  (x1 : Int32) (x2 : Int32) (x3 : Int32) (x4 : Int32) (σ : Mem) : Option (Int32 × Mem) := (if (0 : Int32) < 0 ∨ 100 ≤ ((0 : Int32)).toNatClampNeg then none else lt (σ 66 ((0 : Int32)).toNatClampNeg) fun v1 => (if v1 ≤ x4 then k82 x1 x2 x3 σ else (bnd (p_X12_has x1 x3 σ) fun v2 s3 => (if v2 = 0 then (p_X12_quarrels_B73 k27) x1 x3 x4 x2 s3 else (bnd (p_X12_has x1 x4 s3) fun v5 s6 => (if v5 = 0 then (p_X12_quarrels_B73 k27) x1 x3 x4 x2 s6 else (bnd (p_X12_mayIn 66 x3 x4 s6) fun v8 s9 => (if v8 = 0 then (p_X12_quarrels_B74 k27) x1 x3 x4 x2 (1 : Int32) s9 else (p_X12_quarrels_B73 k27) x1 x3 x4 x2 s9))))))))
def p_X12_quarrels_L27 (k82 : Int32 → Int32 → Int32 → Mem → Option (Int32 × Mem))  : Nat → Int32 → Int32 → Int32 → Int32 → Mem → Option (Int32 × Mem)
  | 0 => fun _ _ _ _ _ => none
  | f + 1 => p_X12_quarrels_B27 (p_X12_quarrels_L27 k82 f) k82
def p_X12_quarrels_B12 (k12 : Int32 → Int32 → Int32 → Mem → Option (Int32 × Mem))  (x1 : Int32) (x2 : Int32) (x3 : Int32) (σ : Mem) : Option (Int32 × Mem) := (if (0 : Int32) < 0 ∨ 100 ≤ ((0 : Int32)).toNatClampNeg then none else lt (σ 66 ((0 : Int32)).toNatClampNeg) fun v11 => (if v11 ≤ x3 then some (x2, σ) else (p_X12_quarrels_L27 (fun (x1 : Int32) (x2 : Int32) (x3 : Int32) (m12 : Mem) => k12 x1 x2 (x3 + (1 : Int32)) m12) 1000) x1 x2 x3 (x3 + (1 : Int32)) σ))
def p_X12_quarrels_L12   : Nat → Int32 → Int32 → Int32 → Mem → Option (Int32 × Mem)
  | 0 => fun _ _ _ _ => none
  | f + 1 => p_X12_quarrels_B12 (p_X12_quarrels_L12 f)
def p_X12_quarrels  (σ : Mem) : Option (Int32 × Mem) := (bnd (p_X12_aliveSet 66 σ) fun v13 s14 => (p_X12_quarrels_L12 1000) v13 (0 : Int32) (0 : Int32) s14)
set_option maxHeartbeats 4000000 in
set_option maxRecDepth 100000 in
theorem c_X12_quarrels {G : Gl}  {σ : Mem} {res : Int32 × Mem}  (h : p_X12_quarrels  σ = some res) : MetX G yX12_quarrels cX12_quarrels 5 (some .int) 5 [.ref (ga G 65)] σ (some (.int res.1)) res.2 := by
  refine met_V (by decide +kernel) (Nat.le_of_ble_eq_true rfl) (fun X hC => ?_)
  have hC : Ok G 5 5 X cX12_quarrels RX12 (some .int) := hC
  have hB74 : ∀ (k27 : Int32 → Int32 → Int32 → Int32 → Mem → Option (Int32 × Mem)), (∀ (x1 : Int32), ∀ (x2 : Int32), ∀ (x3 : Int32), ∀ (x4 : Int32), ∀ σ : Mem, k27 x1 x2 x3 x4 σ = some res → V G 5 5 X ((some (.int res.1)), res.2) σ [(0, .ref (ga G 65)), (1, .int x1), (2, .int x2), (3, .int x3), (4, .int x4)] [] 27) → ∀ (x1 : Int32), ∀ (x3 : Int32), ∀ (x4 : Int32), ∀ (t0 : Int32), ∀ (t1 : Int32), ∀ σ : Mem, p_X12_quarrels_B74 k27  x1 x3 x4 t0 t1 σ = some res → V G 5 5 X ((some (.int res.1)), res.2) σ [(0, .ref (ga G 65)), (1, .int x1), (3, .int x3), (4, .int x4)] [.int t1, .int t0] 74 := by
    intro k27 hk27 x1 x3 x4 t0 t1 σ h
    unfold p_X12_quarrels_B74 at h
    refine v_blk hC (is := [(.iadd, 0), (.istore_n 2, 0), (.iinc 4 1, (1 : Int32))]) (pc' := 79) (ls' := [(4, .int (x4 + (1 : Int32))), (2, .int (t0 + t1)), (0, .ref (ga G 65)), (1, .int x1), (3, .int x3)]) (st' := []) (by decide +kernel) rfl ?_
    refine v_goto hC (off := (-52)) (tgt := 27) (by decide +kernel) (by decide) ?_
    refine v_sub [2, 3, 1, 4, 0] (ls' := [(0, .ref (ga G 65)), (1, .int x1), (2, .int (t0 + t1)), (3, .int x3), (4, .int (x4 + (1 : Int32)))]) rfl ?_
    exact hk27 _ _ _ _ _ h
  have hB73 : ∀ (k27 : Int32 → Int32 → Int32 → Int32 → Mem → Option (Int32 × Mem)), (∀ (x1 : Int32), ∀ (x2 : Int32), ∀ (x3 : Int32), ∀ (x4 : Int32), ∀ σ : Mem, k27 x1 x2 x3 x4 σ = some res → V G 5 5 X ((some (.int res.1)), res.2) σ [(0, .ref (ga G 65)), (1, .int x1), (2, .int x2), (3, .int x3), (4, .int x4)] [] 27) → ∀ (x1 : Int32), ∀ (x3 : Int32), ∀ (x4 : Int32), ∀ (t0 : Int32), ∀ σ : Mem, p_X12_quarrels_B73 k27  x1 x3 x4 t0 σ = some res → V G 5 5 X ((some (.int res.1)), res.2) σ [(0, .ref (ga G 65)), (1, .int x1), (3, .int x3), (4, .int x4)] [.int t0] 73 := by
    intro k27 hk27 x1 x3 x4 t0 σ h
    unfold p_X12_quarrels_B73 at h
    refine v_blk hC (is := [(.iconst 0, (0 : Int32))]) (pc' := 74) (ls' := [(0, .ref (ga G 65)), (1, .int x1), (3, .int x3), (4, .int x4)]) (st' := [.int (0 : Int32), .int t0]) (by decide +kernel) rfl ?_
    exact (hB74 _ hk27) _ _ _ _ _ _ h
  have hB27 : ∀ (k27 : Int32 → Int32 → Int32 → Int32 → Mem → Option (Int32 × Mem)), ∀ (k82 : Int32 → Int32 → Int32 → Mem → Option (Int32 × Mem)), (∀ (x1 : Int32), ∀ (x2 : Int32), ∀ (x3 : Int32), ∀ (x4 : Int32), ∀ σ : Mem, k27 x1 x2 x3 x4 σ = some res → V G 5 5 X ((some (.int res.1)), res.2) σ [(0, .ref (ga G 65)), (1, .int x1), (2, .int x2), (3, .int x3), (4, .int x4)] [] 27) → (∀ (x1 : Int32), ∀ (x2 : Int32), ∀ (x3 : Int32), ∀ σ : Mem, k82 x1 x2 x3 σ = some res → V G 5 5 X ((some (.int res.1)), res.2) σ [(0, .ref (ga G 65)), (1, .int x1), (2, .int x2), (3, .int x3)] [] 82) → ∀ (x1 : Int32), ∀ (x2 : Int32), ∀ (x3 : Int32), ∀ (x4 : Int32), ∀ σ : Mem, p_X12_quarrels_B27 k27 k82  x1 x2 x3 x4 σ = some res → V G 5 5 X ((some (.int res.1)), res.2) σ [(0, .ref (ga G 65)), (1, .int x1), (2, .int x2), (3, .int x3), (4, .int x4)] [] 27 := by
    intro k27 k82 hk27 hk82 x1 x2 x3 x4 σ h
    unfold p_X12_quarrels_B27 at h
    refine v_blk hC (is := [(.iload 4, 0), (.aload_n 0, 0)]) (pc' := 30) (ls' := [(0, .ref (ga G 65)), (1, .int x1), (2, .int x2), (3, .int x3), (4, .int x4)]) (st' := [.ref (ga G 65), .int x4]) (by decide +kernel) rfl ?_
    refine gX12_0 hC lfX12_9 (by decide +kernel) ?_
    refine v_blk hC (is := [(.iconst 0, (0 : Int32))]) (pc' := 34) (ls' := [(0, .ref (ga G 65)), (1, .int x1), (2, .int x2), (3, .int x3), (4, .int x4)]) (st' := [.int (0 : Int32), .ref (ga G 66), .int x4]) (by decide +kernel) rfl ?_
    refine v_iald hC isA_66 rfl (by decide +kernel) h (fun v1 h => ?_)
    refine v_icmp_ge hC (off := 47) (tgt := 82) (by decide +kernel) (by decide) h (fun hq h => ?_) (fun hq h => ?_)
    · refine v_sub [0, 1, 2, 3] (ls' := [(0, .ref (ga G 65)), (1, .int x1), (2, .int x2), (3, .int x3)]) rfl ?_
      exact hk82 _ _ _ _ h
    · refine v_blk hC (is := [(.iload_n 2, 0), (.iload_n 1, 0), (.iload_n 3, 0)]) (pc' := 41) (ls' := [(0, .ref (ga G 65)), (1, .int x1), (2, .int x2), (3, .int x3), (4, .int x4)]) (st' := [.int x3, .int x1, .int x2]) (by decide +kernel) rfl ?_
      obtain ⟨v2, s3, e4, h⟩ := bndI h
      refine v_cS (idx := 85) hC ⟨tt_at 1175 (by decide +kernel) rfl, tsX12_has, tnX12_has, tcX12_has, tmX12_has⟩ (c_X12_has e4) (by decide) (by decide) (by decide +kernel) (rest := [.int x2]) rfl rfl (Nat.le_of_ble_eq_true rfl) rfl ?_
      refine v_if_eq hC (off := 29) (tgt := 73) (by decide +kernel) (by decide) h (fun hq h => ?_) (fun hq h => ?_)
      · refine v_sub [0, 1, 3, 4] (ls' := [(0, .ref (ga G 65)), (1, .int x1), (3, .int x3), (4, .int x4)]) rfl ?_
        exact (hB73 _ hk27) _ _ _ _ _ h
      · refine v_blk hC (is := [(.iload_n 1, 0), (.iload 4, 0)]) (pc' := 50) (ls' := [(0, .ref (ga G 65)), (1, .int x1), (2, .int x2), (3, .int x3), (4, .int x4)]) (st' := [.int x4, .int x1, .int x2]) (by decide +kernel) rfl ?_
        obtain ⟨v5, s6, e7, h⟩ := bndI h
        refine v_cS (idx := 85) hC ⟨tt_at 1175 (by decide +kernel) rfl, tsX12_has, tnX12_has, tcX12_has, tmX12_has⟩ (c_X12_has e7) (by decide) (by decide) (by decide +kernel) (rest := [.int x2]) rfl rfl (Nat.le_of_ble_eq_true rfl) rfl ?_
        refine v_if_eq hC (off := 20) (tgt := 73) (by decide +kernel) (by decide) h (fun hq h => ?_) (fun hq h => ?_)
        · refine v_sub [0, 1, 3, 4] (ls' := [(0, .ref (ga G 65)), (1, .int x1), (3, .int x3), (4, .int x4)]) rfl ?_
          exact (hB73 _ hk27) _ _ _ _ _ h
        · refine v_blk hC (is := [(.aload_n 0, 0)]) (pc' := 57) (ls' := [(0, .ref (ga G 65)), (1, .int x1), (2, .int x2), (3, .int x3), (4, .int x4)]) (st' := [.ref (ga G 65), .int x2]) (by decide +kernel) rfl ?_
          refine gX12_0 hC lfX12_9 (by decide +kernel) ?_
          refine v_blk hC (is := [(.iload_n 3, 0), (.iload 4, 0)]) (pc' := 63) (ls' := [(0, .ref (ga G 65)), (1, .int x1), (2, .int x2), (3, .int x3), (4, .int x4)]) (st' := [.int x4, .int x3, .ref (ga G 66), .int x2]) (by decide +kernel) rfl ?_
          obtain ⟨v8, s9, e10, h⟩ := bndI h
          refine v_cS (idx := 111) hC ⟨tt_at 1193 (by decide +kernel) rfl, tsX12_mayIn, tnX12_mayIn, tcX12_mayIn, tmX12_mayIn⟩ (c_X12_mayIn row66 e10) (by decide) (by decide) (by decide +kernel) (rest := [.int x2]) rfl rfl (Nat.le_of_ble_eq_true rfl) rfl ?_
          refine v_if_ne hC (off := 7) (tgt := 73) (by decide +kernel) (by decide) h (fun hq h => ?_) (fun hq h => ?_)
          · refine v_sub [0, 1, 3, 4] (ls' := [(0, .ref (ga G 65)), (1, .int x1), (3, .int x3), (4, .int x4)]) rfl ?_
            exact (hB73 _ hk27) _ _ _ _ _ h
          · refine v_blk hC (is := [(.iconst 1, (1 : Int32))]) (pc' := 70) (ls' := [(0, .ref (ga G 65)), (1, .int x1), (2, .int x2), (3, .int x3), (4, .int x4)]) (st' := [.int (1 : Int32), .int x2]) (by decide +kernel) rfl ?_
            refine v_goto hC (off := 4) (tgt := 74) (by decide +kernel) (by decide) ?_
            refine v_sub [0, 1, 3, 4] (ls' := [(0, .ref (ga G 65)), (1, .int x1), (3, .int x3), (4, .int x4)]) rfl ?_
            exact (hB74 _ hk27) _ _ _ _ _ _ h
  have hL27 : ∀ (k82 : Int32 → Int32 → Int32 → Mem → Option (Int32 × Mem)), (∀ (x1 : Int32), ∀ (x2 : Int32), ∀ (x3 : Int32), ∀ σ : Mem, k82 x1 x2 x3 σ = some res → V G 5 5 X ((some (.int res.1)), res.2) σ [(0, .ref (ga G 65)), (1, .int x1), (2, .int x2), (3, .int x3)] [] 82) → ∀ f : Nat, ∀ (x1 : Int32), ∀ (x2 : Int32), ∀ (x3 : Int32), ∀ (x4 : Int32), ∀ σ : Mem, p_X12_quarrels_L27 k82  f x1 x2 x3 x4 σ = some res → V G 5 5 X ((some (.int res.1)), res.2) σ [(0, .ref (ga G 65)), (1, .int x1), (2, .int x2), (3, .int x3), (4, .int x4)] [] 27 := by
    intro k82 hk82 f
    induction f with
    | zero => intro x1 x2 x3 x4 σ h; exact none_some h
    | succ f ih => intro x1 x2 x3 x4 σ h; exact hB27 (p_X12_quarrels_L27 k82  f) k82 ih hk82 x1 x2 x3 x4 σ h
  have hB12 : ∀ (k12 : Int32 → Int32 → Int32 → Mem → Option (Int32 × Mem)), (∀ (x1 : Int32), ∀ (x2 : Int32), ∀ (x3 : Int32), ∀ σ : Mem, k12 x1 x2 x3 σ = some res → V G 5 5 X ((some (.int res.1)), res.2) σ [(0, .ref (ga G 65)), (1, .int x1), (2, .int x2), (3, .int x3)] [] 12) → ∀ (x1 : Int32), ∀ (x2 : Int32), ∀ (x3 : Int32), ∀ σ : Mem, p_X12_quarrels_B12 k12  x1 x2 x3 σ = some res → V G 5 5 X ((some (.int res.1)), res.2) σ [(0, .ref (ga G 65)), (1, .int x1), (2, .int x2), (3, .int x3)] [] 12 := by
    intro k12 hk12 x1 x2 x3 σ h
    unfold p_X12_quarrels_B12 at h
    refine v_blk hC (is := [(.iload_n 3, 0), (.aload_n 0, 0)]) (pc' := 14) (ls' := [(0, .ref (ga G 65)), (1, .int x1), (2, .int x2), (3, .int x3)]) (st' := [.ref (ga G 65), .int x3]) (by decide +kernel) rfl ?_
    refine gX12_0 hC lfX12_9 (by decide +kernel) ?_
    refine v_blk hC (is := [(.iconst 0, (0 : Int32))]) (pc' := 18) (ls' := [(0, .ref (ga G 65)), (1, .int x1), (2, .int x2), (3, .int x3)]) (st' := [.int (0 : Int32), .ref (ga G 66), .int x3]) (by decide +kernel) rfl ?_
    refine v_iald hC isA_66 rfl (by decide +kernel) h (fun v11 h => ?_)
    refine v_icmp_ge hC (off := 69) (tgt := 88) (by decide +kernel) (by decide) h (fun hq h => ?_) (fun hq h => ?_)
    · refine v_blk hC (is := [(.iload_n 2, 0)]) (pc' := 89) (ls' := [(0, .ref (ga G 65)), (1, .int x1), (2, .int x2), (3, .int x3)]) (st' := [.int x2]) (by decide +kernel) rfl ?_
      exact v_iret hC h (by decide +kernel)
    · refine v_blk hC (is := [(.iload_n 3, 0), (.iconst 1, (1 : Int32)), (.iadd, 0), (.istore 4, 0)]) (pc' := 27) (ls' := [(4, .int (x3 + (1 : Int32))), (0, .ref (ga G 65)), (1, .int x1), (2, .int x2), (3, .int x3)]) (st' := []) (by decide +kernel) rfl ?_
      refine v_sub [1, 2, 3, 4, 0] (ls' := [(0, .ref (ga G 65)), (1, .int x1), (2, .int x2), (3, .int x3), (4, .int (x3 + (1 : Int32)))]) rfl ?_
      exact (hL27 _ (fun x1 x2 x3  m12 h => by
            refine v_blk hC (is := [(.iinc 3 1, (1 : Int32))]) (pc' := 85) (ls' := [(3, .int (x3 + (1 : Int32))), (0, .ref (ga G 65)), (1, .int x1), (2, .int x2)]) (st' := []) (by decide +kernel) rfl ?_
            refine v_goto hC (off := (-73)) (tgt := 12) (by decide +kernel) (by decide) ?_
            refine v_sub [1, 2, 3, 0] (ls' := [(0, .ref (ga G 65)), (1, .int x1), (2, .int x2), (3, .int (x3 + (1 : Int32)))]) rfl ?_
            exact hk12 _ _ _ _ h) 1000) _ _ _ _ _ h
  have hL12 : ∀ f : Nat, ∀ (x1 : Int32), ∀ (x2 : Int32), ∀ (x3 : Int32), ∀ σ : Mem, p_X12_quarrels_L12  f x1 x2 x3 σ = some res → V G 5 5 X ((some (.int res.1)), res.2) σ [(0, .ref (ga G 65)), (1, .int x1), (2, .int x2), (3, .int x3)] [] 12 := by
    intro  f
    induction f with
    | zero => intro x1 x2 x3 σ h; exact none_some h
    | succ f ih => intro x1 x2 x3 σ h; exact hB12 (p_X12_quarrels_L12  f)  ih  x1 x2 x3 σ h
  unfold p_X12_quarrels at h
  show V G 5 5 X ((some (.int res.1)), res.2) σ [(0, .ref (ga G 65))] [] 0
  refine v_blk hC (is := [(.aload_n 0, 0)]) (pc' := 1) (ls' := [(0, .ref (ga G 65))]) (st' := [.ref (ga G 65)]) (by decide +kernel) rfl ?_
  refine gX12_0 hC lfX12_9 (by decide +kernel) ?_
  obtain ⟨v13, s14, e15, h⟩ := bndI h
  refine v_cS (idx := 180) hC ⟨tt_at 1260 (by decide +kernel) rfl, tsX12_aliveSet, tnX12_aliveSet, tcX12_aliveSet, tmX12_aliveSet⟩ (c_X12_aliveSet row66 e15) (by decide) (by decide) (by decide +kernel) (rest := []) rfl rfl (Nat.le_of_ble_eq_true rfl) rfl ?_
  refine v_blk hC (is := [(.istore_n 1, 0), (.iconst 0, (0 : Int32)), (.istore_n 2, 0), (.iconst 0, (0 : Int32)), (.istore_n 3, 0)]) (pc' := 12) (ls' := [(3, .int (0 : Int32)), (2, .int (0 : Int32)), (1, .int v13), (0, .ref (ga G 65))]) (st' := []) (by decide +kernel) rfl ?_
  refine v_sub [3, 2, 1, 0] (ls' := [(0, .ref (ga G 65)), (1, .int v13), (2, .int (0 : Int32)), (3, .int (0 : Int32))]) rfl ?_
  exact (hL12 1000) _ _ _ _ h

def p_X12_strictest_B14 (k14 : Int32 → Mem → Option (Int32 × Mem)) (x1 : Int32) (x2 : Int32) (σ : Mem) : Option (Int32 × Mem) := (if (3 : Int32) < x2 then some ((-4 : Int32), σ) else (bnd (p_X12_largestBy x2 σ) fun v1 s2 => (bnd (p_X12_bits v1 s2) fun v4 s5 => (if v4 < x1 then k14 (x2 + (1 : Int32)) s5 else some (x2, s5)))))
def p_X12_strictest_L14  (x1 : Int32) : Nat → Int32 → Mem → Option (Int32 × Mem)
  | 0 => fun _ _ => none
  | f + 1 => p_X12_strictest_B14 (p_X12_strictest_L14 x1 f) x1
def p_X12_strictest (x1 : Int32) (σ : Mem) : Option (Int32 × Mem) := (bnd (p_X12_isIn x1 (1 : Int32) (8 : Int32) σ) fun v7 s8 => (if v7 = 0 then some ((-1 : Int32), s8) else (p_X12_strictest_L14 x1 1000) (0 : Int32) s8))
set_option maxHeartbeats 4000000 in
set_option maxRecDepth 100000 in
theorem c_X12_strictest {G : Gl} {x1 : Int32} {σ : Mem} {res : Int32 × Mem}  (h : p_X12_strictest x1 σ = some res) : MetX G yX12_strictest cX12_strictest 3 (some .int) 6 [.ref (ga G 65), .int x1] σ (some (.int res.1)) res.2 := by
  refine met_V (by decide +kernel) (Nat.le_of_ble_eq_true rfl) (fun X hC => ?_)
  have hC : Ok G 6 3 X cX12_strictest RX12 (some .int) := hC
  have hB14 : ∀ (k14 : Int32 → Mem → Option (Int32 × Mem)), (∀ (x2 : Int32), ∀ σ : Mem, k14 x2 σ = some res → V G 6 3 X ((some (.int res.1)), res.2) σ [(0, .ref (ga G 65)), (1, .int x1), (2, .int x2)] [] 14) → ∀ (x2 : Int32), ∀ σ : Mem, p_X12_strictest_B14 k14 x1 x2 σ = some res → V G 6 3 X ((some (.int res.1)), res.2) σ [(0, .ref (ga G 65)), (1, .int x1), (2, .int x2)] [] 14 := by
    intro k14 hk14 x2 σ h
    unfold p_X12_strictest_B14 at h
    refine v_blk hC (is := [(.iload_n 2, 0), (.iconst 3, (3 : Int32))]) (pc' := 16) (ls' := [(0, .ref (ga G 65)), (1, .int x1), (2, .int x2)]) (st' := [.int (3 : Int32), .int x2]) (by decide +kernel) rfl ?_
    refine v_icmp_gt hC (off := 23) (tgt := 39) (by decide +kernel) (by decide) h (fun hq h => ?_) (fun hq h => ?_)
    · refine v_blk hC (is := [(.bipush (-4), (-4 : Int32))]) (pc' := 41) (ls' := [(0, .ref (ga G 65)), (1, .int x1), (2, .int x2)]) (st' := [.int (-4 : Int32)]) (by decide +kernel) rfl ?_
      exact v_iret hC h (by decide +kernel)
    · refine v_blk hC (is := [(.aload_n 0, 0), (.iload_n 2, 0)]) (pc' := 21) (ls' := [(0, .ref (ga G 65)), (1, .int x1), (2, .int x2)]) (st' := [.int x2, .ref (ga G 65)]) (by decide +kernel) rfl ?_
      obtain ⟨v1, s2, e3, h⟩ := bndI h
      refine v_cV (idx := 186) hC ⟨tt_at 1274 (by decide +kernel) rfl, tiX12_largestBy, tvX12_largestBy, tnX12_largestBy, tcX12_largestBy, tmX12_largestBy⟩ isO_X12 rfl (c_X12_largestBy e3) (by decide) (by decide) (by decide +kernel) (rest := []) rfl rfl (Nat.le_of_ble_eq_true rfl) rfl ?_
      obtain ⟨v4, s5, e6, h⟩ := bndI h
      refine v_cS (idx := 126) hC ⟨tt_at 1249 (by decide +kernel) rfl, tsX12_bits, tnX12_bits, tcX12_bits, tmX12_bits⟩ (c_X12_bits e6) (by decide) (by decide) (by decide +kernel) (rest := []) rfl rfl (Nat.le_of_ble_eq_true rfl) rfl ?_
      refine v_blk hC (is := [(.iload_n 1, 0)]) (pc' := 28) (ls' := [(0, .ref (ga G 65)), (1, .int x1), (2, .int x2)]) (st' := [.int x1, .int v4]) (by decide +kernel) rfl ?_
      refine v_icmp_lt hC (off := 5) (tgt := 33) (by decide +kernel) (by decide) h (fun hq h => ?_) (fun hq h => ?_)
      · refine v_blk hC (is := [(.iinc 2 1, (1 : Int32))]) (pc' := 36) (ls' := [(2, .int (x2 + (1 : Int32))), (0, .ref (ga G 65)), (1, .int x1)]) (st' := []) (by decide +kernel) rfl ?_
        refine v_goto hC (off := (-22)) (tgt := 14) (by decide +kernel) (by decide) ?_
        refine v_sub [1, 2, 0] (ls' := [(0, .ref (ga G 65)), (1, .int x1), (2, .int (x2 + (1 : Int32)))]) rfl ?_
        exact hk14 _ _ h
      · refine v_blk hC (is := [(.iload_n 2, 0)]) (pc' := 32) (ls' := [(0, .ref (ga G 65)), (1, .int x1), (2, .int x2)]) (st' := [.int x2]) (by decide +kernel) rfl ?_
        exact v_iret hC h (by decide +kernel)
  have hL14 : ∀ f : Nat, ∀ (x2 : Int32), ∀ σ : Mem, p_X12_strictest_L14 x1 f x2 σ = some res → V G 6 3 X ((some (.int res.1)), res.2) σ [(0, .ref (ga G 65)), (1, .int x1), (2, .int x2)] [] 14 := by
    intro  f
    induction f with
    | zero => intro x2 σ h; exact none_some h
    | succ f ih => intro x2 σ h; exact hB14 (p_X12_strictest_L14 x1 f)  ih  x2 σ h
  unfold p_X12_strictest at h
  show V G 6 3 X ((some (.int res.1)), res.2) σ [(0, .ref (ga G 65)), (1, .int x1)] [] 0
  refine v_blk hC (is := [(.iload_n 1, 0), (.iconst 1, (1 : Int32)), (.bipush 8, (8 : Int32))]) (pc' := 4) (ls' := [(0, .ref (ga G 65)), (1, .int x1)]) (st' := [.int (8 : Int32), .int (1 : Int32), .int x1]) (by decide +kernel) rfl ?_
  obtain ⟨v7, s8, e9, h⟩ := bndI h
  refine v_cS (idx := 49) hC ⟨tt_at 1118 (by decide +kernel) rfl, tsX12_isIn, tnX12_isIn, tcX12_isIn, tmX12_isIn⟩ (c_X12_isIn e9) (by decide) (by decide) (by decide +kernel) (rest := []) rfl rfl (Nat.le_of_ble_eq_true rfl) rfl ?_
  refine v_if_ne hC (off := 5) (tgt := 12) (by decide +kernel) (by decide) h (fun hq h => ?_) (fun hq h => ?_)
  · refine v_blk hC (is := [(.iconst 0, (0 : Int32)), (.istore_n 2, 0)]) (pc' := 14) (ls' := [(2, .int (0 : Int32)), (0, .ref (ga G 65)), (1, .int x1)]) (st' := []) (by decide +kernel) rfl ?_
    refine v_sub [1, 2, 0] (ls' := [(0, .ref (ga G 65)), (1, .int x1), (2, .int (0 : Int32))]) rfl ?_
    exact (hL14 1000) _ _ h
  · refine v_blk hC (is := [(.iconst (-1), (-1 : Int32))]) (pc' := 11) (ls' := [(0, .ref (ga G 65)), (1, .int x1)]) (st' := [.int (-1 : Int32)]) (by decide +kernel) rfl ?_
    exact v_iret hC h (by decide +kernel)

def p_X12_freeLaw_B42 (k16 : Int32 → Int32 → Mem → Option (Int32 × Mem)) (x1 : Int32) (x2 : Int32) (x4 : Int32) (t0 : Int32) (t1 : Int32) (σ : Mem) : Option (Int32 × Mem) := k16 (t0 + t1) (x4 + (1 : Int32)) σ
def p_X12_freeLaw_B16 (k16 : Int32 → Int32 → Mem → Option (Int32 × Mem)) (x1 : Int32) (x2 : Int32) (x3 : Int32) (x4 : Int32) (σ : Mem) : Option (Int32 × Mem) := (if (3 : Int32) < x4 then some (x3, σ) else (bnd (p_X12_mayBy 66 x1 x2 x4 σ) fun v1 s2 => (if v1 = 0 then (p_X12_freeLaw_B42 k16 x1 x2) x4 x3 (0 : Int32) s2 else (p_X12_freeLaw_B42 k16 x1 x2) x4 x3 (1 : Int32) s2)))
def p_X12_freeLaw_L16  (x1 : Int32) (x2 : Int32) : Nat → Int32 → Int32 → Mem → Option (Int32 × Mem)
  | 0 => fun _ _ _ => none
  | f + 1 => p_X12_freeLaw_B16 (p_X12_freeLaw_L16 x1 x2 f) x1 x2
def p_X12_freeLaw (x1 : Int32) (x2 : Int32) (σ : Mem) : Option (Int32 × Mem) := (bnd (p_X12_areTwo x1 x2 σ) fun v4 s5 => (if v4 = 0 then some ((-1 : Int32), s5) else (p_X12_freeLaw_L16 x1 x2 1000) (0 : Int32) (0 : Int32) s5))
set_option maxHeartbeats 4000000 in
set_option maxRecDepth 100000 in
theorem c_X12_freeLaw {G : Gl} {x1 : Int32} {x2 : Int32} {σ : Mem} {res : Int32 × Mem}  (h : p_X12_freeLaw x1 x2 σ = some res) : MetX G yX12_freeLaw cX12_freeLaw 5 (some .int) 4 [.ref (ga G 65), .int x1, .int x2] σ (some (.int res.1)) res.2 := by
  refine met_V (by decide +kernel) (Nat.le_of_ble_eq_true rfl) (fun X hC => ?_)
  have hC : Ok G 4 5 X cX12_freeLaw RX12 (some .int) := hC
  have hB42 : ∀ (k16 : Int32 → Int32 → Mem → Option (Int32 × Mem)), (∀ (x3 : Int32), ∀ (x4 : Int32), ∀ σ : Mem, k16 x3 x4 σ = some res → V G 4 5 X ((some (.int res.1)), res.2) σ [(0, .ref (ga G 65)), (1, .int x1), (2, .int x2), (3, .int x3), (4, .int x4)] [] 16) → ∀ (x4 : Int32), ∀ (t0 : Int32), ∀ (t1 : Int32), ∀ σ : Mem, p_X12_freeLaw_B42 k16 x1 x2 x4 t0 t1 σ = some res → V G 4 5 X ((some (.int res.1)), res.2) σ [(0, .ref (ga G 65)), (1, .int x1), (2, .int x2), (4, .int x4)] [.int t1, .int t0] 42 := by
    intro k16 hk16 x4 t0 t1 σ h
    unfold p_X12_freeLaw_B42 at h
    refine v_blk hC (is := [(.iadd, 0), (.istore_n 3, 0), (.iinc 4 1, (1 : Int32))]) (pc' := 47) (ls' := [(4, .int (x4 + (1 : Int32))), (3, .int (t0 + t1)), (0, .ref (ga G 65)), (1, .int x1), (2, .int x2)]) (st' := []) (by decide +kernel) rfl ?_
    refine v_goto hC (off := (-31)) (tgt := 16) (by decide +kernel) (by decide) ?_
    refine v_sub [2, 3, 4, 1, 0] (ls' := [(0, .ref (ga G 65)), (1, .int x1), (2, .int x2), (3, .int (t0 + t1)), (4, .int (x4 + (1 : Int32)))]) rfl ?_
    exact hk16 _ _ _ h
  have hB16 : ∀ (k16 : Int32 → Int32 → Mem → Option (Int32 × Mem)), (∀ (x3 : Int32), ∀ (x4 : Int32), ∀ σ : Mem, k16 x3 x4 σ = some res → V G 4 5 X ((some (.int res.1)), res.2) σ [(0, .ref (ga G 65)), (1, .int x1), (2, .int x2), (3, .int x3), (4, .int x4)] [] 16) → ∀ (x3 : Int32), ∀ (x4 : Int32), ∀ σ : Mem, p_X12_freeLaw_B16 k16 x1 x2 x3 x4 σ = some res → V G 4 5 X ((some (.int res.1)), res.2) σ [(0, .ref (ga G 65)), (1, .int x1), (2, .int x2), (3, .int x3), (4, .int x4)] [] 16 := by
    intro k16 hk16 x3 x4 σ h
    unfold p_X12_freeLaw_B16 at h
    refine v_blk hC (is := [(.iload 4, 0), (.iconst 3, (3 : Int32))]) (pc' := 19) (ls' := [(0, .ref (ga G 65)), (1, .int x1), (2, .int x2), (3, .int x3), (4, .int x4)]) (st' := [.int (3 : Int32), .int x4]) (by decide +kernel) rfl ?_
    refine v_icmp_gt hC (off := 31) (tgt := 50) (by decide +kernel) (by decide) h (fun hq h => ?_) (fun hq h => ?_)
    · refine v_blk hC (is := [(.iload_n 3, 0)]) (pc' := 51) (ls' := [(0, .ref (ga G 65)), (1, .int x1), (2, .int x2), (3, .int x3), (4, .int x4)]) (st' := [.int x3]) (by decide +kernel) rfl ?_
      exact v_iret hC h (by decide +kernel)
    · refine v_blk hC (is := [(.iload_n 3, 0), (.aload_n 0, 0)]) (pc' := 24) (ls' := [(0, .ref (ga G 65)), (1, .int x1), (2, .int x2), (3, .int x3), (4, .int x4)]) (st' := [.ref (ga G 65), .int x3]) (by decide +kernel) rfl ?_
      refine gX12_0 hC lfX12_9 (by decide +kernel) ?_
      refine v_blk hC (is := [(.iload_n 1, 0), (.iload_n 2, 0), (.iload 4, 0)]) (pc' := 31) (ls' := [(0, .ref (ga G 65)), (1, .int x1), (2, .int x2), (3, .int x3), (4, .int x4)]) (st' := [.int x4, .int x2, .int x1, .ref (ga G 66), .int x3]) (by decide +kernel) rfl ?_
      obtain ⟨v1, s2, e3, h⟩ := bndI h
      refine v_cS (idx := 82) hC ⟨tt_at 1196 (by decide +kernel) rfl, tsX12_mayBy, tnX12_mayBy, tcX12_mayBy, tmX12_mayBy⟩ (c_X12_mayBy row66 e3) (by decide) (by decide) (by decide +kernel) (rest := [.int x3]) rfl rfl (Nat.le_of_ble_eq_true rfl) rfl ?_
      refine v_if_eq hC (off := 7) (tgt := 41) (by decide +kernel) (by decide) h (fun hq h => ?_) (fun hq h => ?_)
      · refine v_blk hC (is := [(.iconst 0, (0 : Int32))]) (pc' := 42) (ls' := [(0, .ref (ga G 65)), (1, .int x1), (2, .int x2), (3, .int x3), (4, .int x4)]) (st' := [.int (0 : Int32), .int x3]) (by decide +kernel) rfl ?_
        refine v_sub [0, 1, 2, 4] (ls' := [(0, .ref (ga G 65)), (1, .int x1), (2, .int x2), (4, .int x4)]) rfl ?_
        exact (hB42 _ hk16) _ _ _ _ h
      · refine v_blk hC (is := [(.iconst 1, (1 : Int32))]) (pc' := 38) (ls' := [(0, .ref (ga G 65)), (1, .int x1), (2, .int x2), (3, .int x3), (4, .int x4)]) (st' := [.int (1 : Int32), .int x3]) (by decide +kernel) rfl ?_
        refine v_goto hC (off := 4) (tgt := 42) (by decide +kernel) (by decide) ?_
        refine v_sub [0, 1, 2, 4] (ls' := [(0, .ref (ga G 65)), (1, .int x1), (2, .int x2), (4, .int x4)]) rfl ?_
        exact (hB42 _ hk16) _ _ _ _ h
  have hL16 : ∀ f : Nat, ∀ (x3 : Int32), ∀ (x4 : Int32), ∀ σ : Mem, p_X12_freeLaw_L16 x1 x2 f x3 x4 σ = some res → V G 4 5 X ((some (.int res.1)), res.2) σ [(0, .ref (ga G 65)), (1, .int x1), (2, .int x2), (3, .int x3), (4, .int x4)] [] 16 := by
    intro  f
    induction f with
    | zero => intro x3 x4 σ h; exact none_some h
    | succ f ih => intro x3 x4 σ h; exact hB16 (p_X12_freeLaw_L16 x1 x2 f)  ih  x3 x4 σ h
  unfold p_X12_freeLaw at h
  show V G 4 5 X ((some (.int res.1)), res.2) σ [(0, .ref (ga G 65)), (1, .int x1), (2, .int x2)] [] 0
  refine v_blk hC (is := [(.aload_n 0, 0), (.iload_n 1, 0), (.iload_n 2, 0)]) (pc' := 3) (ls' := [(0, .ref (ga G 65)), (1, .int x1), (2, .int x2)]) (st' := [.int x2, .int x1, .ref (ga G 65)]) (by decide +kernel) rfl ?_
  obtain ⟨v4, s5, e6, h⟩ := bndI h
  refine v_cV (idx := 151) hC ⟨tt_at 1146 (by decide +kernel) rfl, tiX12_areTwo, tvX12_areTwo, tnX12_areTwo, tcX12_areTwo, tmX12_areTwo⟩ isO_X12 rfl (c_X12_areTwo e6) (by decide) (by decide) (by decide +kernel) (rest := []) rfl rfl (Nat.le_of_ble_eq_true rfl) rfl ?_
  refine v_if_ne hC (off := 5) (tgt := 11) (by decide +kernel) (by decide) h (fun hq h => ?_) (fun hq h => ?_)
  · refine v_blk hC (is := [(.iconst 0, (0 : Int32)), (.istore_n 3, 0), (.iconst 0, (0 : Int32)), (.istore 4, 0)]) (pc' := 16) (ls' := [(4, .int (0 : Int32)), (3, .int (0 : Int32)), (0, .ref (ga G 65)), (1, .int x1), (2, .int x2)]) (st' := []) (by decide +kernel) rfl ?_
    refine v_sub [2, 3, 4, 1, 0] (ls' := [(0, .ref (ga G 65)), (1, .int x1), (2, .int x2), (3, .int (0 : Int32)), (4, .int (0 : Int32))]) rfl ?_
    exact (hL16 1000) _ _ _ h
  · refine v_blk hC (is := [(.iconst (-1), (-1 : Int32))]) (pc' := 10) (ls' := [(0, .ref (ga G 65)), (1, .int x1), (2, .int x2)]) (st' := [.int (-1 : Int32)]) (by decide +kernel) rfl ?_
    exact v_iret hC h (by decide +kernel)

def p_X12_owedOf_B38 (k4 : Int32 → Int32 → Mem → Option (Int32 × Mem)) (x1 : Int32) (x3 : Int32) (t0 : Int32) (t1 : Int32) (σ : Mem) : Option (Int32 × Mem) := k4 (t0 + t1) (x3 + (1 : Int32)) σ
def p_X12_owedOf_B4 (k4 : Int32 → Int32 → Mem → Option (Int32 × Mem)) (x1 : Int32) (x2 : Int32) (x3 : Int32) (σ : Mem) : Option (Int32 × Mem) := (if (0 : Int32) < 0 ∨ 100 ≤ ((0 : Int32)).toNatClampNeg then none else lt (σ 66 ((0 : Int32)).toNatClampNeg) fun v1 => (if v1 ≤ x3 then some (x2, σ) else (if (1 : Int32) < 0 ∨ 100 ≤ ((1 : Int32)).toNatClampNeg then none else lt (σ 66 ((1 : Int32)).toNatClampNeg) fun v2 => (bnd (p_X12_hasSaved 66 x1 x3 v2 σ) fun v3 s4 => (if v3 = 0 then (p_X12_owedOf_B38 k4 x1) x3 x2 (0 : Int32) s4 else (p_X12_owedOf_B38 k4 x1) x3 x2 (1 : Int32) s4)))))
def p_X12_owedOf_L4  (x1 : Int32) : Nat → Int32 → Int32 → Mem → Option (Int32 × Mem)
  | 0 => fun _ _ _ => none
  | f + 1 => p_X12_owedOf_B4 (p_X12_owedOf_L4 x1 f) x1
def p_X12_owedOf (x1 : Int32) (σ : Mem) : Option (Int32 × Mem) := (p_X12_owedOf_L4 x1 1000) (0 : Int32) (0 : Int32) σ
set_option maxHeartbeats 4000000 in
set_option maxRecDepth 100000 in
theorem c_X12_owedOf {G : Gl} {x1 : Int32} {σ : Mem} {res : Int32 × Mem}  (h : p_X12_owedOf x1 σ = some res) : MetX G yX12_owedOf cX12_owedOf 4 (some .int) 3 [.ref (ga G 65), .int x1] σ (some (.int res.1)) res.2 := by
  refine met_V (by decide +kernel) (Nat.le_of_ble_eq_true rfl) (fun X hC => ?_)
  have hC : Ok G 3 4 X cX12_owedOf RX12 (some .int) := hC
  have hB38 : ∀ (k4 : Int32 → Int32 → Mem → Option (Int32 × Mem)), (∀ (x2 : Int32), ∀ (x3 : Int32), ∀ σ : Mem, k4 x2 x3 σ = some res → V G 3 4 X ((some (.int res.1)), res.2) σ [(0, .ref (ga G 65)), (1, .int x1), (2, .int x2), (3, .int x3)] [] 4) → ∀ (x3 : Int32), ∀ (t0 : Int32), ∀ (t1 : Int32), ∀ σ : Mem, p_X12_owedOf_B38 k4 x1 x3 t0 t1 σ = some res → V G 3 4 X ((some (.int res.1)), res.2) σ [(0, .ref (ga G 65)), (1, .int x1), (3, .int x3)] [.int t1, .int t0] 38 := by
    intro k4 hk4 x3 t0 t1 σ h
    unfold p_X12_owedOf_B38 at h
    refine v_blk hC (is := [(.iadd, 0), (.istore_n 2, 0), (.iinc 3 1, (1 : Int32))]) (pc' := 43) (ls' := [(3, .int (x3 + (1 : Int32))), (2, .int (t0 + t1)), (0, .ref (ga G 65)), (1, .int x1)]) (st' := []) (by decide +kernel) rfl ?_
    refine v_goto hC (off := (-39)) (tgt := 4) (by decide +kernel) (by decide) ?_
    refine v_sub [2, 3, 1, 0] (ls' := [(0, .ref (ga G 65)), (1, .int x1), (2, .int (t0 + t1)), (3, .int (x3 + (1 : Int32)))]) rfl ?_
    exact hk4 _ _ _ h
  have hB4 : ∀ (k4 : Int32 → Int32 → Mem → Option (Int32 × Mem)), (∀ (x2 : Int32), ∀ (x3 : Int32), ∀ σ : Mem, k4 x2 x3 σ = some res → V G 3 4 X ((some (.int res.1)), res.2) σ [(0, .ref (ga G 65)), (1, .int x1), (2, .int x2), (3, .int x3)] [] 4) → ∀ (x2 : Int32), ∀ (x3 : Int32), ∀ σ : Mem, p_X12_owedOf_B4 k4 x1 x2 x3 σ = some res → V G 3 4 X ((some (.int res.1)), res.2) σ [(0, .ref (ga G 65)), (1, .int x1), (2, .int x2), (3, .int x3)] [] 4 := by
    intro k4 hk4 x2 x3 σ h
    unfold p_X12_owedOf_B4 at h
    refine v_blk hC (is := [(.iload_n 3, 0), (.aload_n 0, 0)]) (pc' := 6) (ls' := [(0, .ref (ga G 65)), (1, .int x1), (2, .int x2), (3, .int x3)]) (st' := [.ref (ga G 65), .int x3]) (by decide +kernel) rfl ?_
    refine gX12_0 hC lfX12_9 (by decide +kernel) ?_
    refine v_blk hC (is := [(.iconst 0, (0 : Int32))]) (pc' := 10) (ls' := [(0, .ref (ga G 65)), (1, .int x1), (2, .int x2), (3, .int x3)]) (st' := [.int (0 : Int32), .ref (ga G 66), .int x3]) (by decide +kernel) rfl ?_
    refine v_iald hC isA_66 rfl (by decide +kernel) h (fun v1 h => ?_)
    refine v_icmp_ge hC (off := 35) (tgt := 46) (by decide +kernel) (by decide) h (fun hq h => ?_) (fun hq h => ?_)
    · refine v_blk hC (is := [(.iload_n 2, 0)]) (pc' := 47) (ls' := [(0, .ref (ga G 65)), (1, .int x1), (2, .int x2), (3, .int x3)]) (st' := [.int x2]) (by decide +kernel) rfl ?_
      exact v_iret hC h (by decide +kernel)
    · refine v_blk hC (is := [(.iload_n 2, 0), (.aload_n 0, 0)]) (pc' := 16) (ls' := [(0, .ref (ga G 65)), (1, .int x1), (2, .int x2), (3, .int x3)]) (st' := [.ref (ga G 65), .int x2]) (by decide +kernel) rfl ?_
      refine gX12_0 hC lfX12_9 (by decide +kernel) ?_
      refine v_blk hC (is := [(.iload_n 1, 0), (.iload_n 3, 0), (.aload_n 0, 0)]) (pc' := 22) (ls' := [(0, .ref (ga G 65)), (1, .int x1), (2, .int x2), (3, .int x3)]) (st' := [.ref (ga G 65), .int x3, .int x1, .ref (ga G 66), .int x2]) (by decide +kernel) rfl ?_
      refine gX12_0 hC lfX12_9 (by decide +kernel) ?_
      refine v_blk hC (is := [(.iconst 1, (1 : Int32))]) (pc' := 26) (ls' := [(0, .ref (ga G 65)), (1, .int x1), (2, .int x2), (3, .int x3)]) (st' := [.int (1 : Int32), .ref (ga G 66), .int x3, .int x1, .ref (ga G 66), .int x2]) (by decide +kernel) rfl ?_
      refine v_iald hC isA_66 rfl (by decide +kernel) h (fun v2 h => ?_)
      obtain ⟨v3, s4, e5, h⟩ := bndI h
      refine v_cS (idx := 78) hC ⟨tt_at 1202 (by decide +kernel) rfl, tsX12_hasSaved, tnX12_hasSaved, tcX12_hasSaved, tmX12_hasSaved⟩ (c_X12_hasSaved row66 e5) (by decide) (by decide) (by decide +kernel) (rest := [.int x2]) rfl rfl (Nat.le_of_ble_eq_true rfl) rfl ?_
      refine v_if_eq hC (off := 7) (tgt := 37) (by decide +kernel) (by decide) h (fun hq h => ?_) (fun hq h => ?_)
      · refine v_blk hC (is := [(.iconst 0, (0 : Int32))]) (pc' := 38) (ls' := [(0, .ref (ga G 65)), (1, .int x1), (2, .int x2), (3, .int x3)]) (st' := [.int (0 : Int32), .int x2]) (by decide +kernel) rfl ?_
        refine v_sub [0, 1, 3] (ls' := [(0, .ref (ga G 65)), (1, .int x1), (3, .int x3)]) rfl ?_
        exact (hB38 _ hk4) _ _ _ _ h
      · refine v_blk hC (is := [(.iconst 1, (1 : Int32))]) (pc' := 34) (ls' := [(0, .ref (ga G 65)), (1, .int x1), (2, .int x2), (3, .int x3)]) (st' := [.int (1 : Int32), .int x2]) (by decide +kernel) rfl ?_
        refine v_goto hC (off := 4) (tgt := 38) (by decide +kernel) (by decide) ?_
        refine v_sub [0, 1, 3] (ls' := [(0, .ref (ga G 65)), (1, .int x1), (3, .int x3)]) rfl ?_
        exact (hB38 _ hk4) _ _ _ _ h
  have hL4 : ∀ f : Nat, ∀ (x2 : Int32), ∀ (x3 : Int32), ∀ σ : Mem, p_X12_owedOf_L4 x1 f x2 x3 σ = some res → V G 3 4 X ((some (.int res.1)), res.2) σ [(0, .ref (ga G 65)), (1, .int x1), (2, .int x2), (3, .int x3)] [] 4 := by
    intro  f
    induction f with
    | zero => intro x2 x3 σ h; exact none_some h
    | succ f ih => intro x2 x3 σ h; exact hB4 (p_X12_owedOf_L4 x1 f)  ih  x2 x3 σ h
  unfold p_X12_owedOf at h
  show V G 3 4 X ((some (.int res.1)), res.2) σ [(0, .ref (ga G 65)), (1, .int x1)] [] 0
  refine v_blk hC (is := [(.iconst 0, (0 : Int32)), (.istore_n 2, 0), (.iconst 0, (0 : Int32)), (.istore_n 3, 0)]) (pc' := 4) (ls' := [(3, .int (0 : Int32)), (2, .int (0 : Int32)), (0, .ref (ga G 65)), (1, .int x1)]) (st' := []) (by decide +kernel) rfl ?_
  refine v_sub [2, 3, 1, 0] (ls' := [(0, .ref (ga G 65)), (1, .int x1), (2, .int (0 : Int32)), (3, .int (0 : Int32))]) rfl ?_
  exact (hL4 1000) _ _ _ h

def p_X12_owed (x1 : Int32) (σ : Mem) : Option (Int32 × Mem) := (bnd (p_X12_isMan x1 σ) fun v1 s2 => (if v1 = 0 then some ((-1 : Int32), s2) else (bnd (p_X12_owedOf x1 s2) fun v4 s5 => some (v4, s5))))
set_option maxHeartbeats 4000000 in
set_option maxRecDepth 100000 in
theorem c_X12_owed {G : Gl} {x1 : Int32} {σ : Mem} {res : Int32 × Mem}  (h : p_X12_owed x1 σ = some res) : MetX G yX12_owed cX12_owed 2 (some .int) 4 [.ref (ga G 65), .int x1] σ (some (.int res.1)) res.2 := by
  refine met_V (by decide +kernel) (Nat.le_of_ble_eq_true rfl) (fun X hC => ?_)
  have hC : Ok G 4 2 X cX12_owed RX12 (some .int) := hC
  unfold p_X12_owed at h
  show V G 4 2 X ((some (.int res.1)), res.2) σ [(0, .ref (ga G 65)), (1, .int x1)] [] 0
  refine v_blk hC (is := [(.aload_n 0, 0), (.iload_n 1, 0)]) (pc' := 2) (ls' := [(0, .ref (ga G 65)), (1, .int x1)]) (st' := [.int x1, .ref (ga G 65)]) (by decide +kernel) rfl ?_
  obtain ⟨v1, s2, e3, h⟩ := bndI h
  refine v_cV (idx := 53) hC ⟨tt_at 1150 (by decide +kernel) rfl, tiX12_isMan, tvX12_isMan, tnX12_isMan, tcX12_isMan, tmX12_isMan⟩ isO_X12 rfl (c_X12_isMan e3) (by decide) (by decide) (by decide +kernel) (rest := []) rfl rfl (Nat.le_of_ble_eq_true rfl) rfl ?_
  refine v_if_eq hC (off := 11) (tgt := 16) (by decide +kernel) (by decide) h (fun hq h => ?_) (fun hq h => ?_)
  · refine v_blk hC (is := [(.iconst (-1), (-1 : Int32))]) (pc' := 17) (ls' := [(0, .ref (ga G 65)), (1, .int x1)]) (st' := [.int (-1 : Int32)]) (by decide +kernel) rfl ?_
    exact v_iret hC h (by decide +kernel)
  · refine v_blk hC (is := [(.aload_n 0, 0), (.iload_n 1, 0)]) (pc' := 10) (ls' := [(0, .ref (ga G 65)), (1, .int x1)]) (st' := [.int x1, .ref (ga G 65)]) (by decide +kernel) rfl ?_
    obtain ⟨v4, s5, e6, h⟩ := bndI h
    refine v_cV (idx := 201) hC ⟨tt_at 1326 (by decide +kernel) rfl, tiX12_owedOf, tvX12_owedOf, tnX12_owedOf, tcX12_owedOf, tmX12_owedOf⟩ isO_X12 rfl (c_X12_owedOf e6) (by decide) (by decide) (by decide +kernel) (rest := []) rfl rfl (Nat.le_of_ble_eq_true rfl) rfl ?_
    refine v_goto hC (off := 4) (tgt := 17) (by decide +kernel) (by decide) ?_
    exact v_iret hC h (by decide +kernel)

def p_X12_mostOwed_B37 (k7 : Int32 → Int32 → Int32 → Mem → Option (Int32 × Mem))  (x1 : Int32) (x2 : Int32) (x3 : Int32) (σ : Mem) : Option (Int32 × Mem) := k7 x1 x2 (x3 + (1 : Int32)) σ
def p_X12_mostOwed_B7 (k7 : Int32 → Int32 → Int32 → Mem → Option (Int32 × Mem))  (x1 : Int32) (x2 : Int32) (x3 : Int32) (σ : Mem) : Option (Int32 × Mem) := (if (0 : Int32) < 0 ∨ 100 ≤ ((0 : Int32)).toNatClampNeg then none else lt (σ 66 ((0 : Int32)).toNatClampNeg) fun v1 => (if v1 ≤ x3 then some (x1, σ) else (bnd (p_X12_owedOf x3 σ) fun v2 s3 => (if x2 < v2 then (bnd (p_X12_owedOf x3 s3) fun v5 s6 => (p_X12_mostOwed_B37 k7) x3 v5 x3 s6) else (p_X12_mostOwed_B37 k7) x1 x2 x3 s3))))
def p_X12_mostOwed_L7   : Nat → Int32 → Int32 → Int32 → Mem → Option (Int32 × Mem)
  | 0 => fun _ _ _ _ => none
  | f + 1 => p_X12_mostOwed_B7 (p_X12_mostOwed_L7 f)
def p_X12_mostOwed  (σ : Mem) : Option (Int32 × Mem) := (p_X12_mostOwed_L7 1000) (-4 : Int32) (0 : Int32) (0 : Int32) σ
set_option maxHeartbeats 4000000 in
set_option maxRecDepth 100000 in
theorem c_X12_mostOwed {G : Gl}  {σ : Mem} {res : Int32 × Mem}  (h : p_X12_mostOwed  σ = some res) : MetX G yX12_mostOwed cX12_mostOwed 4 (some .int) 4 [.ref (ga G 65)] σ (some (.int res.1)) res.2 := by
  refine met_V (by decide +kernel) (Nat.le_of_ble_eq_true rfl) (fun X hC => ?_)
  have hC : Ok G 4 4 X cX12_mostOwed RX12 (some .int) := hC
  have hB37 : ∀ (k7 : Int32 → Int32 → Int32 → Mem → Option (Int32 × Mem)), (∀ (x1 : Int32), ∀ (x2 : Int32), ∀ (x3 : Int32), ∀ σ : Mem, k7 x1 x2 x3 σ = some res → V G 4 4 X ((some (.int res.1)), res.2) σ [(0, .ref (ga G 65)), (1, .int x1), (2, .int x2), (3, .int x3)] [] 7) → ∀ (x1 : Int32), ∀ (x2 : Int32), ∀ (x3 : Int32), ∀ σ : Mem, p_X12_mostOwed_B37 k7  x1 x2 x3 σ = some res → V G 4 4 X ((some (.int res.1)), res.2) σ [(0, .ref (ga G 65)), (1, .int x1), (2, .int x2), (3, .int x3)] [] 37 := by
    intro k7 hk7 x1 x2 x3 σ h
    unfold p_X12_mostOwed_B37 at h
    refine v_blk hC (is := [(.iinc 3 1, (1 : Int32))]) (pc' := 40) (ls' := [(3, .int (x3 + (1 : Int32))), (0, .ref (ga G 65)), (1, .int x1), (2, .int x2)]) (st' := []) (by decide +kernel) rfl ?_
    refine v_goto hC (off := (-33)) (tgt := 7) (by decide +kernel) (by decide) ?_
    refine v_sub [1, 2, 3, 0] (ls' := [(0, .ref (ga G 65)), (1, .int x1), (2, .int x2), (3, .int (x3 + (1 : Int32)))]) rfl ?_
    exact hk7 _ _ _ _ h
  have hB7 : ∀ (k7 : Int32 → Int32 → Int32 → Mem → Option (Int32 × Mem)), (∀ (x1 : Int32), ∀ (x2 : Int32), ∀ (x3 : Int32), ∀ σ : Mem, k7 x1 x2 x3 σ = some res → V G 4 4 X ((some (.int res.1)), res.2) σ [(0, .ref (ga G 65)), (1, .int x1), (2, .int x2), (3, .int x3)] [] 7) → ∀ (x1 : Int32), ∀ (x2 : Int32), ∀ (x3 : Int32), ∀ σ : Mem, p_X12_mostOwed_B7 k7  x1 x2 x3 σ = some res → V G 4 4 X ((some (.int res.1)), res.2) σ [(0, .ref (ga G 65)), (1, .int x1), (2, .int x2), (3, .int x3)] [] 7 := by
    intro k7 hk7 x1 x2 x3 σ h
    unfold p_X12_mostOwed_B7 at h
    refine v_blk hC (is := [(.iload_n 3, 0), (.aload_n 0, 0)]) (pc' := 9) (ls' := [(0, .ref (ga G 65)), (1, .int x1), (2, .int x2), (3, .int x3)]) (st' := [.ref (ga G 65), .int x3]) (by decide +kernel) rfl ?_
    refine gX12_0 hC lfX12_9 (by decide +kernel) ?_
    refine v_blk hC (is := [(.iconst 0, (0 : Int32))]) (pc' := 13) (ls' := [(0, .ref (ga G 65)), (1, .int x1), (2, .int x2), (3, .int x3)]) (st' := [.int (0 : Int32), .ref (ga G 66), .int x3]) (by decide +kernel) rfl ?_
    refine v_iald hC isA_66 rfl (by decide +kernel) h (fun v1 h => ?_)
    refine v_icmp_ge hC (off := 29) (tgt := 43) (by decide +kernel) (by decide) h (fun hq h => ?_) (fun hq h => ?_)
    · refine v_blk hC (is := [(.iload_n 1, 0)]) (pc' := 44) (ls' := [(0, .ref (ga G 65)), (1, .int x1), (2, .int x2), (3, .int x3)]) (st' := [.int x1]) (by decide +kernel) rfl ?_
      exact v_iret hC h (by decide +kernel)
    · refine v_blk hC (is := [(.aload_n 0, 0), (.iload_n 3, 0)]) (pc' := 19) (ls' := [(0, .ref (ga G 65)), (1, .int x1), (2, .int x2), (3, .int x3)]) (st' := [.int x3, .ref (ga G 65)]) (by decide +kernel) rfl ?_
      obtain ⟨v2, s3, e4, h⟩ := bndI h
      refine v_cV (idx := 201) hC ⟨tt_at 1326 (by decide +kernel) rfl, tiX12_owedOf, tvX12_owedOf, tnX12_owedOf, tcX12_owedOf, tmX12_owedOf⟩ isO_X12 rfl (c_X12_owedOf e4) (by decide) (by decide) (by decide +kernel) (rest := []) rfl rfl (Nat.le_of_ble_eq_true rfl) rfl ?_
      refine v_blk hC (is := [(.iload_n 2, 0)]) (pc' := 23) (ls' := [(0, .ref (ga G 65)), (1, .int x1), (2, .int x2), (3, .int x3)]) (st' := [.int x2, .int v2]) (by decide +kernel) rfl ?_
      refine v_icmp_gt hC (off := 6) (tgt := 29) (by decide +kernel) (by decide) h (fun hq h => ?_) (fun hq h => ?_)
      · refine v_blk hC (is := [(.iload_n 3, 0), (.istore_n 1, 0), (.aload_n 0, 0), (.iload_n 3, 0)]) (pc' := 33) (ls' := [(1, .int x3), (0, .ref (ga G 65)), (2, .int x2), (3, .int x3)]) (st' := [.int x3, .ref (ga G 65)]) (by decide +kernel) rfl ?_
        obtain ⟨v5, s6, e7, h⟩ := bndI h
        refine v_cV (idx := 201) hC ⟨tt_at 1326 (by decide +kernel) rfl, tiX12_owedOf, tvX12_owedOf, tnX12_owedOf, tcX12_owedOf, tmX12_owedOf⟩ isO_X12 rfl (c_X12_owedOf e7) (by decide) (by decide) (by decide +kernel) (rest := []) rfl rfl (Nat.le_of_ble_eq_true rfl) rfl ?_
        refine v_blk hC (is := [(.istore_n 2, 0)]) (pc' := 37) (ls' := [(2, .int v5), (1, .int x3), (0, .ref (ga G 65)), (3, .int x3)]) (st' := []) (by decide +kernel) rfl ?_
        refine v_sub [2, 1, 0, 3] (ls' := [(0, .ref (ga G 65)), (1, .int x3), (2, .int v5), (3, .int x3)]) rfl ?_
        exact (hB37 _ hk7) _ _ _ _ h
      · refine v_goto hC (off := 11) (tgt := 37) (by decide +kernel) (by decide) ?_
        exact (hB37 _ hk7) _ _ _ _ h
  have hL7 : ∀ f : Nat, ∀ (x1 : Int32), ∀ (x2 : Int32), ∀ (x3 : Int32), ∀ σ : Mem, p_X12_mostOwed_L7  f x1 x2 x3 σ = some res → V G 4 4 X ((some (.int res.1)), res.2) σ [(0, .ref (ga G 65)), (1, .int x1), (2, .int x2), (3, .int x3)] [] 7 := by
    intro  f
    induction f with
    | zero => intro x1 x2 x3 σ h; exact none_some h
    | succ f ih => intro x1 x2 x3 σ h; exact hB7 (p_X12_mostOwed_L7  f)  ih  x1 x2 x3 σ h
  unfold p_X12_mostOwed at h
  show V G 4 4 X ((some (.int res.1)), res.2) σ [(0, .ref (ga G 65))] [] 0
  refine v_blk hC (is := [(.bipush (-4), (-4 : Int32)), (.istore_n 1, 0), (.iconst 0, (0 : Int32)), (.istore_n 2, 0), (.iconst 0, (0 : Int32)), (.istore_n 3, 0)]) (pc' := 7) (ls' := [(3, .int (0 : Int32)), (2, .int (0 : Int32)), (1, .int (-4 : Int32)), (0, .ref (ga G 65))]) (st' := []) (by decide +kernel) rfl ?_
  refine v_sub [3, 2, 1, 0] (ls' := [(0, .ref (ga G 65)), (1, .int (-4 : Int32)), (2, .int (0 : Int32)), (3, .int (0 : Int32))]) rfl ?_
  exact (hL7 1000) _ _ _ _ h

def p_X12_owes_B50 (k14 : Int32 → Int32 → Mem → Option (Int32 × Mem)) (x1 : Int32) (x3 : Int32) (t0 : Int32) (t1 : Int32) (σ : Mem) : Option (Int32 × Mem) := k14 (t0 ||| t1) (x3 + (1 : Int32)) σ
def p_X12_owes_B14 (k14 : Int32 → Int32 → Mem → Option (Int32 × Mem)) (x1 : Int32) (x2 : Int32) (x3 : Int32) (σ : Mem) : Option (Int32 × Mem) := (if (0 : Int32) < 0 ∨ 100 ≤ ((0 : Int32)).toNatClampNeg then none else lt (σ 66 ((0 : Int32)).toNatClampNeg) fun v1 => (if v1 ≤ x3 then some (x2, σ) else (if (1 : Int32) < 0 ∨ 100 ≤ ((1 : Int32)).toNatClampNeg then none else lt (σ 66 ((1 : Int32)).toNatClampNeg) fun v2 => (bnd (p_X12_hasSaved 66 x3 x1 v2 σ) fun v3 s4 => (if v3 = 0 then (p_X12_owes_B50 k14 x1) x3 x2 (0 : Int32) s4 else (p_X12_owes_B50 k14 x1) x3 x2 ((1 : Int32) <<< (x3 &&& 31)) s4)))))
def p_X12_owes_L14  (x1 : Int32) : Nat → Int32 → Int32 → Mem → Option (Int32 × Mem)
  | 0 => fun _ _ _ => none
  | f + 1 => p_X12_owes_B14 (p_X12_owes_L14 x1 f) x1
def p_X12_owes (x1 : Int32) (σ : Mem) : Option (Int32 × Mem) := (bnd (p_X12_isMan x1 σ) fun v6 s7 => (if v6 = 0 then some ((-1 : Int32), s7) else (p_X12_owes_L14 x1 1000) (0 : Int32) (0 : Int32) s7))
set_option maxHeartbeats 4000000 in
set_option maxRecDepth 100000 in
theorem c_X12_owes {G : Gl} {x1 : Int32} {σ : Mem} {res : Int32 × Mem}  (h : p_X12_owes x1 σ = some res) : MetX G yX12_owes cX12_owes 4 (some .int) 3 [.ref (ga G 65), .int x1] σ (some (.int res.1)) res.2 := by
  refine met_V (by decide +kernel) (Nat.le_of_ble_eq_true rfl) (fun X hC => ?_)
  have hC : Ok G 3 4 X cX12_owes RX12 (some .int) := hC
  have hB50 : ∀ (k14 : Int32 → Int32 → Mem → Option (Int32 × Mem)), (∀ (x2 : Int32), ∀ (x3 : Int32), ∀ σ : Mem, k14 x2 x3 σ = some res → V G 3 4 X ((some (.int res.1)), res.2) σ [(0, .ref (ga G 65)), (1, .int x1), (2, .int x2), (3, .int x3)] [] 14) → ∀ (x3 : Int32), ∀ (t0 : Int32), ∀ (t1 : Int32), ∀ σ : Mem, p_X12_owes_B50 k14 x1 x3 t0 t1 σ = some res → V G 3 4 X ((some (.int res.1)), res.2) σ [(0, .ref (ga G 65)), (1, .int x1), (3, .int x3)] [.int t1, .int t0] 50 := by
    intro k14 hk14 x3 t0 t1 σ h
    unfold p_X12_owes_B50 at h
    refine v_blk hC (is := [(.ior, 0), (.istore_n 2, 0), (.iinc 3 1, (1 : Int32))]) (pc' := 55) (ls' := [(3, .int (x3 + (1 : Int32))), (2, .int (t0 ||| t1)), (0, .ref (ga G 65)), (1, .int x1)]) (st' := []) (by decide +kernel) rfl ?_
    refine v_goto hC (off := (-41)) (tgt := 14) (by decide +kernel) (by decide) ?_
    refine v_sub [2, 3, 1, 0] (ls' := [(0, .ref (ga G 65)), (1, .int x1), (2, .int (t0 ||| t1)), (3, .int (x3 + (1 : Int32)))]) rfl ?_
    exact hk14 _ _ _ h
  have hB14 : ∀ (k14 : Int32 → Int32 → Mem → Option (Int32 × Mem)), (∀ (x2 : Int32), ∀ (x3 : Int32), ∀ σ : Mem, k14 x2 x3 σ = some res → V G 3 4 X ((some (.int res.1)), res.2) σ [(0, .ref (ga G 65)), (1, .int x1), (2, .int x2), (3, .int x3)] [] 14) → ∀ (x2 : Int32), ∀ (x3 : Int32), ∀ σ : Mem, p_X12_owes_B14 k14 x1 x2 x3 σ = some res → V G 3 4 X ((some (.int res.1)), res.2) σ [(0, .ref (ga G 65)), (1, .int x1), (2, .int x2), (3, .int x3)] [] 14 := by
    intro k14 hk14 x2 x3 σ h
    unfold p_X12_owes_B14 at h
    refine v_blk hC (is := [(.iload_n 3, 0), (.aload_n 0, 0)]) (pc' := 16) (ls' := [(0, .ref (ga G 65)), (1, .int x1), (2, .int x2), (3, .int x3)]) (st' := [.ref (ga G 65), .int x3]) (by decide +kernel) rfl ?_
    refine gX12_0 hC lfX12_9 (by decide +kernel) ?_
    refine v_blk hC (is := [(.iconst 0, (0 : Int32))]) (pc' := 20) (ls' := [(0, .ref (ga G 65)), (1, .int x1), (2, .int x2), (3, .int x3)]) (st' := [.int (0 : Int32), .ref (ga G 66), .int x3]) (by decide +kernel) rfl ?_
    refine v_iald hC isA_66 rfl (by decide +kernel) h (fun v1 h => ?_)
    refine v_icmp_ge hC (off := 37) (tgt := 58) (by decide +kernel) (by decide) h (fun hq h => ?_) (fun hq h => ?_)
    · refine v_blk hC (is := [(.iload_n 2, 0)]) (pc' := 59) (ls' := [(0, .ref (ga G 65)), (1, .int x1), (2, .int x2), (3, .int x3)]) (st' := [.int x2]) (by decide +kernel) rfl ?_
      exact v_iret hC h (by decide +kernel)
    · refine v_blk hC (is := [(.iload_n 2, 0), (.aload_n 0, 0)]) (pc' := 26) (ls' := [(0, .ref (ga G 65)), (1, .int x1), (2, .int x2), (3, .int x3)]) (st' := [.ref (ga G 65), .int x2]) (by decide +kernel) rfl ?_
      refine gX12_0 hC lfX12_9 (by decide +kernel) ?_
      refine v_blk hC (is := [(.iload_n 3, 0), (.iload_n 1, 0), (.aload_n 0, 0)]) (pc' := 32) (ls' := [(0, .ref (ga G 65)), (1, .int x1), (2, .int x2), (3, .int x3)]) (st' := [.ref (ga G 65), .int x1, .int x3, .ref (ga G 66), .int x2]) (by decide +kernel) rfl ?_
      refine gX12_0 hC lfX12_9 (by decide +kernel) ?_
      refine v_blk hC (is := [(.iconst 1, (1 : Int32))]) (pc' := 36) (ls' := [(0, .ref (ga G 65)), (1, .int x1), (2, .int x2), (3, .int x3)]) (st' := [.int (1 : Int32), .ref (ga G 66), .int x1, .int x3, .ref (ga G 66), .int x2]) (by decide +kernel) rfl ?_
      refine v_iald hC isA_66 rfl (by decide +kernel) h (fun v2 h => ?_)
      obtain ⟨v3, s4, e5, h⟩ := bndI h
      refine v_cS (idx := 78) hC ⟨tt_at 1202 (by decide +kernel) rfl, tsX12_hasSaved, tnX12_hasSaved, tcX12_hasSaved, tmX12_hasSaved⟩ (c_X12_hasSaved row66 e5) (by decide) (by decide) (by decide +kernel) (rest := [.int x2]) rfl rfl (Nat.le_of_ble_eq_true rfl) rfl ?_
      refine v_if_eq hC (off := 9) (tgt := 49) (by decide +kernel) (by decide) h (fun hq h => ?_) (fun hq h => ?_)
      · refine v_blk hC (is := [(.iconst 0, (0 : Int32))]) (pc' := 50) (ls' := [(0, .ref (ga G 65)), (1, .int x1), (2, .int x2), (3, .int x3)]) (st' := [.int (0 : Int32), .int x2]) (by decide +kernel) rfl ?_
        refine v_sub [0, 1, 3] (ls' := [(0, .ref (ga G 65)), (1, .int x1), (3, .int x3)]) rfl ?_
        exact (hB50 _ hk14) _ _ _ _ h
      · refine v_blk hC (is := [(.iconst 1, (1 : Int32)), (.iload_n 3, 0), (.ishl, 0)]) (pc' := 46) (ls' := [(0, .ref (ga G 65)), (1, .int x1), (2, .int x2), (3, .int x3)]) (st' := [.int ((1 : Int32) <<< (x3 &&& 31)), .int x2]) (by decide +kernel) rfl ?_
        refine v_goto hC (off := 4) (tgt := 50) (by decide +kernel) (by decide) ?_
        refine v_sub [0, 1, 3] (ls' := [(0, .ref (ga G 65)), (1, .int x1), (3, .int x3)]) rfl ?_
        exact (hB50 _ hk14) _ _ _ _ h
  have hL14 : ∀ f : Nat, ∀ (x2 : Int32), ∀ (x3 : Int32), ∀ σ : Mem, p_X12_owes_L14 x1 f x2 x3 σ = some res → V G 3 4 X ((some (.int res.1)), res.2) σ [(0, .ref (ga G 65)), (1, .int x1), (2, .int x2), (3, .int x3)] [] 14 := by
    intro  f
    induction f with
    | zero => intro x2 x3 σ h; exact none_some h
    | succ f ih => intro x2 x3 σ h; exact hB14 (p_X12_owes_L14 x1 f)  ih  x2 x3 σ h
  unfold p_X12_owes at h
  show V G 3 4 X ((some (.int res.1)), res.2) σ [(0, .ref (ga G 65)), (1, .int x1)] [] 0
  refine v_blk hC (is := [(.aload_n 0, 0), (.iload_n 1, 0)]) (pc' := 2) (ls' := [(0, .ref (ga G 65)), (1, .int x1)]) (st' := [.int x1, .ref (ga G 65)]) (by decide +kernel) rfl ?_
  obtain ⟨v6, s7, e8, h⟩ := bndI h
  refine v_cV (idx := 53) hC ⟨tt_at 1150 (by decide +kernel) rfl, tiX12_isMan, tvX12_isMan, tnX12_isMan, tcX12_isMan, tmX12_isMan⟩ isO_X12 rfl (c_X12_isMan e8) (by decide) (by decide) (by decide +kernel) (rest := []) rfl rfl (Nat.le_of_ble_eq_true rfl) rfl ?_
  refine v_if_ne hC (off := 5) (tgt := 10) (by decide +kernel) (by decide) h (fun hq h => ?_) (fun hq h => ?_)
  · refine v_blk hC (is := [(.iconst 0, (0 : Int32)), (.istore_n 2, 0), (.iconst 0, (0 : Int32)), (.istore_n 3, 0)]) (pc' := 14) (ls' := [(3, .int (0 : Int32)), (2, .int (0 : Int32)), (0, .ref (ga G 65)), (1, .int x1)]) (st' := []) (by decide +kernel) rfl ?_
    refine v_sub [2, 3, 1, 0] (ls' := [(0, .ref (ga G 65)), (1, .int x1), (2, .int (0 : Int32)), (3, .int (0 : Int32))]) rfl ?_
    exact (hL14 1000) _ _ _ h
  · refine v_blk hC (is := [(.iconst (-1), (-1 : Int32))]) (pc' := 9) (ls' := [(0, .ref (ga G 65)), (1, .int x1)]) (st' := [.int (-1 : Int32)]) (by decide +kernel) rfl ?_
    exact v_iret hC h (by decide +kernel)

def p_X12_rings_B110 (k36 : Int32 → Int32 → Int32 → Int32 → Mem → Option (Int32 × Mem)) (x1 : Int32) (x2 : Int32) (x3 : Int32) (x4 : Int32) (x5 : Int32) (σ : Mem) : Option (Int32 × Mem) := k36 x2 x3 x4 (x5 + (1 : Int32)) σ
def p_X12_rings_B106 (k36 : Int32 → Int32 → Int32 → Int32 → Mem → Option (Int32 × Mem)) (x1 : Int32) (x2 : Int32) (x4 : Int32) (x5 : Int32) (t0 : Int32) (σ : Mem) : Option (Int32 × Mem) := (p_X12_rings_B110 k36 x1) (x2 + (1 : Int32)) t0 x4 x5 σ
def p_X12_rings_B36 (k36 : Int32 → Int32 → Int32 → Int32 → Mem → Option (Int32 × Mem)) (k116 : Int32 → Int32 → Int32 → Mem → Option (Int32 × Mem)) (x1 : Int32) (x2 : Int32) (x3 : Int32) (x4 : Int32) (x5 : Int32) (σ : Mem) : Option (Int32 × Mem) := (if (0 : Int32) < 0 ∨ 100 ≤ ((0 : Int32)).toNatClampNeg then none else lt (σ 66 ((0 : Int32)).toNatClampNeg) fun v1 => (if v1 ≤ x5 then k116 x2 x3 x4 σ else (if (1 : Int32) < 0 ∨ 100 ≤ ((1 : Int32)).toNatClampNeg then none else lt (σ 66 ((1 : Int32)).toNatClampNeg) fun v2 => (bnd (p_X12_hasSaved 66 x4 x5 v2 σ) fun v3 s4 => (if v3 = 0 then (p_X12_rings_B110 k36 x1) x2 x3 x4 x5 s4 else (if (1 : Int32) < 0 ∨ 100 ≤ ((1 : Int32)).toNatClampNeg then none else lt (s4 66 ((1 : Int32)).toNatClampNeg) fun v6 => (bnd (p_X12_hasSaved 66 x5 x4 v6 s4) fun v7 s8 => (if v7 = 0 then (p_X12_rings_B110 k36 x1) x2 x3 x4 x5 s8 else (if x2 = 0 then (p_X12_rings_B106 k36 x1) x2 x4 x5 (((10 : Int32) * x4) + x5) s8 else (p_X12_rings_B106 k36 x1) x2 x4 x5 x3 s8)))))))))
def p_X12_rings_L36 (k116 : Int32 → Int32 → Int32 → Mem → Option (Int32 × Mem)) (x1 : Int32) : Nat → Int32 → Int32 → Int32 → Int32 → Mem → Option (Int32 × Mem)
  | 0 => fun _ _ _ _ _ => none
  | f + 1 => p_X12_rings_B36 (p_X12_rings_L36 k116 x1 f) k116 x1
def p_X12_rings_B19 (k19 : Int32 → Int32 → Int32 → Mem → Option (Int32 × Mem)) (k122 : Int32 → Int32 → Mem → Option (Int32 × Mem)) (x1 : Int32) (x2 : Int32) (x3 : Int32) (x4 : Int32) (σ : Mem) : Option (Int32 × Mem) := (if (0 : Int32) < 0 ∨ 100 ≤ ((0 : Int32)).toNatClampNeg then none else lt (σ 66 ((0 : Int32)).toNatClampNeg) fun v10 => (if v10 ≤ x4 then k122 x2 x3 σ else (p_X12_rings_L36 (fun (x2 : Int32) (x3 : Int32) (x4 : Int32) (m11 : Mem) => k19 x2 x3 (x4 + (1 : Int32)) m11) x1 1000) x2 x3 x4 (x4 + (1 : Int32)) σ))
def p_X12_rings_L19 (k122 : Int32 → Int32 → Mem → Option (Int32 × Mem)) (x1 : Int32) : Nat → Int32 → Int32 → Int32 → Mem → Option (Int32 × Mem)
  | 0 => fun _ _ _ _ => none
  | f + 1 => p_X12_rings_B19 (p_X12_rings_L19 k122 x1 f) k122 x1
def p_X12_rings (x1 : Int32) (σ : Mem) : Option (Int32 × Mem) := (bnd (p_X12_isIn x1 (0 : Int32) (1 : Int32) σ) fun v12 s13 => (if v12 = 0 then some ((-1 : Int32), s13) else (p_X12_rings_L19 (fun (x2 : Int32) (x3 : Int32) (m15 : Mem) => (if x1 = 0 then some (x2, m15) else some (x3, m15))) x1 1000) (0 : Int32) (-4 : Int32) (0 : Int32) s13))
set_option maxHeartbeats 4000000 in
set_option maxRecDepth 100000 in
theorem c_X12_rings {G : Gl} {x1 : Int32} {σ : Mem} {res : Int32 × Mem}  (h : p_X12_rings x1 σ = some res) : MetX G yX12_rings cX12_rings 6 (some .int) 3 [.ref (ga G 65), .int x1] σ (some (.int res.1)) res.2 := by
  refine met_V (by decide +kernel) (Nat.le_of_ble_eq_true rfl) (fun X hC => ?_)
  have hC : Ok G 3 6 X cX12_rings RX12 (some .int) := hC
  have hB110 : ∀ (k36 : Int32 → Int32 → Int32 → Int32 → Mem → Option (Int32 × Mem)), (∀ (x2 : Int32), ∀ (x3 : Int32), ∀ (x4 : Int32), ∀ (x5 : Int32), ∀ σ : Mem, k36 x2 x3 x4 x5 σ = some res → V G 3 6 X ((some (.int res.1)), res.2) σ [(0, .ref (ga G 65)), (1, .int x1), (2, .int x2), (3, .int x3), (4, .int x4), (5, .int x5)] [] 36) → ∀ (x2 : Int32), ∀ (x3 : Int32), ∀ (x4 : Int32), ∀ (x5 : Int32), ∀ σ : Mem, p_X12_rings_B110 k36 x1 x2 x3 x4 x5 σ = some res → V G 3 6 X ((some (.int res.1)), res.2) σ [(0, .ref (ga G 65)), (1, .int x1), (2, .int x2), (3, .int x3), (4, .int x4), (5, .int x5)] [] 110 := by
    intro k36 hk36 x2 x3 x4 x5 σ h
    unfold p_X12_rings_B110 at h
    refine v_blk hC (is := [(.iinc 5 1, (1 : Int32))]) (pc' := 113) (ls' := [(5, .int (x5 + (1 : Int32))), (0, .ref (ga G 65)), (1, .int x1), (2, .int x2), (3, .int x3), (4, .int x4)]) (st' := []) (by decide +kernel) rfl ?_
    refine v_goto hC (off := (-77)) (tgt := 36) (by decide +kernel) (by decide) ?_
    refine v_sub [1, 2, 3, 4, 5, 0] (ls' := [(0, .ref (ga G 65)), (1, .int x1), (2, .int x2), (3, .int x3), (4, .int x4), (5, .int (x5 + (1 : Int32)))]) rfl ?_
    exact hk36 _ _ _ _ _ h
  have hB106 : ∀ (k36 : Int32 → Int32 → Int32 → Int32 → Mem → Option (Int32 × Mem)), (∀ (x2 : Int32), ∀ (x3 : Int32), ∀ (x4 : Int32), ∀ (x5 : Int32), ∀ σ : Mem, k36 x2 x3 x4 x5 σ = some res → V G 3 6 X ((some (.int res.1)), res.2) σ [(0, .ref (ga G 65)), (1, .int x1), (2, .int x2), (3, .int x3), (4, .int x4), (5, .int x5)] [] 36) → ∀ (x2 : Int32), ∀ (x4 : Int32), ∀ (x5 : Int32), ∀ (t0 : Int32), ∀ σ : Mem, p_X12_rings_B106 k36 x1 x2 x4 x5 t0 σ = some res → V G 3 6 X ((some (.int res.1)), res.2) σ [(0, .ref (ga G 65)), (1, .int x1), (2, .int x2), (4, .int x4), (5, .int x5)] [.int t0] 106 := by
    intro k36 hk36 x2 x4 x5 t0 σ h
    unfold p_X12_rings_B106 at h
    refine v_blk hC (is := [(.istore_n 3, 0), (.iinc 2 1, (1 : Int32))]) (pc' := 110) (ls' := [(2, .int (x2 + (1 : Int32))), (3, .int t0), (0, .ref (ga G 65)), (1, .int x1), (4, .int x4), (5, .int x5)]) (st' := []) (by decide +kernel) rfl ?_
    refine v_sub [2, 3, 0, 1, 4, 5] (ls' := [(0, .ref (ga G 65)), (1, .int x1), (2, .int (x2 + (1 : Int32))), (3, .int t0), (4, .int x4), (5, .int x5)]) rfl ?_
    exact (hB110 _ hk36) _ _ _ _ _ h
  have hB36 : ∀ (k36 : Int32 → Int32 → Int32 → Int32 → Mem → Option (Int32 × Mem)), ∀ (k116 : Int32 → Int32 → Int32 → Mem → Option (Int32 × Mem)), (∀ (x2 : Int32), ∀ (x3 : Int32), ∀ (x4 : Int32), ∀ (x5 : Int32), ∀ σ : Mem, k36 x2 x3 x4 x5 σ = some res → V G 3 6 X ((some (.int res.1)), res.2) σ [(0, .ref (ga G 65)), (1, .int x1), (2, .int x2), (3, .int x3), (4, .int x4), (5, .int x5)] [] 36) → (∀ (x2 : Int32), ∀ (x3 : Int32), ∀ (x4 : Int32), ∀ σ : Mem, k116 x2 x3 x4 σ = some res → V G 3 6 X ((some (.int res.1)), res.2) σ [(0, .ref (ga G 65)), (1, .int x1), (2, .int x2), (3, .int x3), (4, .int x4)] [] 116) → ∀ (x2 : Int32), ∀ (x3 : Int32), ∀ (x4 : Int32), ∀ (x5 : Int32), ∀ σ : Mem, p_X12_rings_B36 k36 k116 x1 x2 x3 x4 x5 σ = some res → V G 3 6 X ((some (.int res.1)), res.2) σ [(0, .ref (ga G 65)), (1, .int x1), (2, .int x2), (3, .int x3), (4, .int x4), (5, .int x5)] [] 36 := by
    intro k36 k116 hk36 hk116 x2 x3 x4 x5 σ h
    unfold p_X12_rings_B36 at h
    refine v_blk hC (is := [(.iload 5, 0), (.aload_n 0, 0)]) (pc' := 39) (ls' := [(0, .ref (ga G 65)), (1, .int x1), (2, .int x2), (3, .int x3), (4, .int x4), (5, .int x5)]) (st' := [.ref (ga G 65), .int x5]) (by decide +kernel) rfl ?_
    refine gX12_0 hC lfX12_9 (by decide +kernel) ?_
    refine v_blk hC (is := [(.iconst 0, (0 : Int32))]) (pc' := 43) (ls' := [(0, .ref (ga G 65)), (1, .int x1), (2, .int x2), (3, .int x3), (4, .int x4), (5, .int x5)]) (st' := [.int (0 : Int32), .ref (ga G 66), .int x5]) (by decide +kernel) rfl ?_
    refine v_iald hC isA_66 rfl (by decide +kernel) h (fun v1 h => ?_)
    refine v_icmp_ge hC (off := 72) (tgt := 116) (by decide +kernel) (by decide) h (fun hq h => ?_) (fun hq h => ?_)
    · refine v_sub [0, 1, 2, 3, 4] (ls' := [(0, .ref (ga G 65)), (1, .int x1), (2, .int x2), (3, .int x3), (4, .int x4)]) rfl ?_
      exact hk116 _ _ _ _ h
    · refine v_blk hC (is := [(.aload_n 0, 0)]) (pc' := 48) (ls' := [(0, .ref (ga G 65)), (1, .int x1), (2, .int x2), (3, .int x3), (4, .int x4), (5, .int x5)]) (st' := [.ref (ga G 65)]) (by decide +kernel) rfl ?_
      refine gX12_0 hC lfX12_9 (by decide +kernel) ?_
      refine v_blk hC (is := [(.iload 4, 0), (.iload 5, 0), (.aload_n 0, 0)]) (pc' := 56) (ls' := [(0, .ref (ga G 65)), (1, .int x1), (2, .int x2), (3, .int x3), (4, .int x4), (5, .int x5)]) (st' := [.ref (ga G 65), .int x5, .int x4, .ref (ga G 66)]) (by decide +kernel) rfl ?_
      refine gX12_0 hC lfX12_9 (by decide +kernel) ?_
      refine v_blk hC (is := [(.iconst 1, (1 : Int32))]) (pc' := 60) (ls' := [(0, .ref (ga G 65)), (1, .int x1), (2, .int x2), (3, .int x3), (4, .int x4), (5, .int x5)]) (st' := [.int (1 : Int32), .ref (ga G 66), .int x5, .int x4, .ref (ga G 66)]) (by decide +kernel) rfl ?_
      refine v_iald hC isA_66 rfl (by decide +kernel) h (fun v2 h => ?_)
      obtain ⟨v3, s4, e5, h⟩ := bndI h
      refine v_cS (idx := 78) hC ⟨tt_at 1202 (by decide +kernel) rfl, tsX12_hasSaved, tnX12_hasSaved, tcX12_hasSaved, tmX12_hasSaved⟩ (c_X12_hasSaved row66 e5) (by decide) (by decide) (by decide +kernel) (rest := []) rfl rfl (Nat.le_of_ble_eq_true rfl) rfl ?_
      refine v_if_eq hC (off := 46) (tgt := 110) (by decide +kernel) (by decide) h (fun hq h => ?_) (fun hq h => ?_)
      · exact (hB110 _ hk36) _ _ _ _ _ h
      · refine v_blk hC (is := [(.aload_n 0, 0)]) (pc' := 68) (ls' := [(0, .ref (ga G 65)), (1, .int x1), (2, .int x2), (3, .int x3), (4, .int x4), (5, .int x5)]) (st' := [.ref (ga G 65)]) (by decide +kernel) rfl ?_
        refine gX12_0 hC lfX12_9 (by decide +kernel) ?_
        refine v_blk hC (is := [(.iload 5, 0), (.iload 4, 0), (.aload_n 0, 0)]) (pc' := 76) (ls' := [(0, .ref (ga G 65)), (1, .int x1), (2, .int x2), (3, .int x3), (4, .int x4), (5, .int x5)]) (st' := [.ref (ga G 65), .int x4, .int x5, .ref (ga G 66)]) (by decide +kernel) rfl ?_
        refine gX12_0 hC lfX12_9 (by decide +kernel) ?_
        refine v_blk hC (is := [(.iconst 1, (1 : Int32))]) (pc' := 80) (ls' := [(0, .ref (ga G 65)), (1, .int x1), (2, .int x2), (3, .int x3), (4, .int x4), (5, .int x5)]) (st' := [.int (1 : Int32), .ref (ga G 66), .int x4, .int x5, .ref (ga G 66)]) (by decide +kernel) rfl ?_
        refine v_iald hC isA_66 rfl (by decide +kernel) h (fun v6 h => ?_)
        obtain ⟨v7, s8, e9, h⟩ := bndI h
        refine v_cS (idx := 78) hC ⟨tt_at 1202 (by decide +kernel) rfl, tsX12_hasSaved, tnX12_hasSaved, tcX12_hasSaved, tmX12_hasSaved⟩ (c_X12_hasSaved row66 e9) (by decide) (by decide) (by decide +kernel) (rest := []) rfl rfl (Nat.le_of_ble_eq_true rfl) rfl ?_
        refine v_if_ne hC (off := 6) (tgt := 90) (by decide +kernel) (by decide) h (fun hq h => ?_) (fun hq h => ?_)
        · refine v_blk hC (is := [(.iload_n 2, 0)]) (pc' := 91) (ls' := [(0, .ref (ga G 65)), (1, .int x1), (2, .int x2), (3, .int x3), (4, .int x4), (5, .int x5)]) (st' := [.int x2]) (by decide +kernel) rfl ?_
          refine v_if_ne hC (off := 14) (tgt := 105) (by decide +kernel) (by decide) h (fun hq h => ?_) (fun hq h => ?_)
          · refine v_blk hC (is := [(.iload_n 3, 0)]) (pc' := 106) (ls' := [(0, .ref (ga G 65)), (1, .int x1), (2, .int x2), (3, .int x3), (4, .int x4), (5, .int x5)]) (st' := [.int x3]) (by decide +kernel) rfl ?_
            refine v_sub [0, 1, 2, 4, 5] (ls' := [(0, .ref (ga G 65)), (1, .int x1), (2, .int x2), (4, .int x4), (5, .int x5)]) rfl ?_
            exact (hB106 _ hk36) _ _ _ _ _ h
          · refine v_blk hC (is := [(.bipush 10, (10 : Int32)), (.iload 4, 0), (.imul, 0), (.iload 5, 0), (.iadd, 0)]) (pc' := 102) (ls' := [(0, .ref (ga G 65)), (1, .int x1), (2, .int x2), (3, .int x3), (4, .int x4), (5, .int x5)]) (st' := [.int (((10 : Int32) * x4) + x5)]) (by decide +kernel) rfl ?_
            refine v_goto hC (off := 4) (tgt := 106) (by decide +kernel) (by decide) ?_
            refine v_sub [0, 1, 2, 4, 5] (ls' := [(0, .ref (ga G 65)), (1, .int x1), (2, .int x2), (4, .int x4), (5, .int x5)]) rfl ?_
            exact (hB106 _ hk36) _ _ _ _ _ h
        · refine v_goto hC (off := 23) (tgt := 110) (by decide +kernel) (by decide) ?_
          exact (hB110 _ hk36) _ _ _ _ _ h
  have hL36 : ∀ (k116 : Int32 → Int32 → Int32 → Mem → Option (Int32 × Mem)), (∀ (x2 : Int32), ∀ (x3 : Int32), ∀ (x4 : Int32), ∀ σ : Mem, k116 x2 x3 x4 σ = some res → V G 3 6 X ((some (.int res.1)), res.2) σ [(0, .ref (ga G 65)), (1, .int x1), (2, .int x2), (3, .int x3), (4, .int x4)] [] 116) → ∀ f : Nat, ∀ (x2 : Int32), ∀ (x3 : Int32), ∀ (x4 : Int32), ∀ (x5 : Int32), ∀ σ : Mem, p_X12_rings_L36 k116 x1 f x2 x3 x4 x5 σ = some res → V G 3 6 X ((some (.int res.1)), res.2) σ [(0, .ref (ga G 65)), (1, .int x1), (2, .int x2), (3, .int x3), (4, .int x4), (5, .int x5)] [] 36 := by
    intro k116 hk116 f
    induction f with
    | zero => intro x2 x3 x4 x5 σ h; exact none_some h
    | succ f ih => intro x2 x3 x4 x5 σ h; exact hB36 (p_X12_rings_L36 k116 x1 f) k116 ih hk116 x2 x3 x4 x5 σ h
  have hB19 : ∀ (k19 : Int32 → Int32 → Int32 → Mem → Option (Int32 × Mem)), ∀ (k122 : Int32 → Int32 → Mem → Option (Int32 × Mem)), (∀ (x2 : Int32), ∀ (x3 : Int32), ∀ (x4 : Int32), ∀ σ : Mem, k19 x2 x3 x4 σ = some res → V G 3 6 X ((some (.int res.1)), res.2) σ [(0, .ref (ga G 65)), (1, .int x1), (2, .int x2), (3, .int x3), (4, .int x4)] [] 19) → (∀ (x2 : Int32), ∀ (x3 : Int32), ∀ σ : Mem, k122 x2 x3 σ = some res → V G 3 6 X ((some (.int res.1)), res.2) σ [(1, .int x1), (2, .int x2), (3, .int x3)] [] 122) → ∀ (x2 : Int32), ∀ (x3 : Int32), ∀ (x4 : Int32), ∀ σ : Mem, p_X12_rings_B19 k19 k122 x1 x2 x3 x4 σ = some res → V G 3 6 X ((some (.int res.1)), res.2) σ [(0, .ref (ga G 65)), (1, .int x1), (2, .int x2), (3, .int x3), (4, .int x4)] [] 19 := by
    intro k19 k122 hk19 hk122 x2 x3 x4 σ h
    unfold p_X12_rings_B19 at h
    refine v_blk hC (is := [(.iload 4, 0), (.aload_n 0, 0)]) (pc' := 22) (ls' := [(0, .ref (ga G 65)), (1, .int x1), (2, .int x2), (3, .int x3), (4, .int x4)]) (st' := [.ref (ga G 65), .int x4]) (by decide +kernel) rfl ?_
    refine gX12_0 hC lfX12_9 (by decide +kernel) ?_
    refine v_blk hC (is := [(.iconst 0, (0 : Int32))]) (pc' := 26) (ls' := [(0, .ref (ga G 65)), (1, .int x1), (2, .int x2), (3, .int x3), (4, .int x4)]) (st' := [.int (0 : Int32), .ref (ga G 66), .int x4]) (by decide +kernel) rfl ?_
    refine v_iald hC isA_66 rfl (by decide +kernel) h (fun v10 h => ?_)
    refine v_icmp_ge hC (off := 95) (tgt := 122) (by decide +kernel) (by decide) h (fun hq h => ?_) (fun hq h => ?_)
    · refine v_sub [1, 2, 3] (ls' := [(1, .int x1), (2, .int x2), (3, .int x3)]) rfl ?_
      exact hk122 _ _ _ h
    · refine v_blk hC (is := [(.iload 4, 0), (.iconst 1, (1 : Int32)), (.iadd, 0), (.istore 5, 0)]) (pc' := 36) (ls' := [(5, .int (x4 + (1 : Int32))), (0, .ref (ga G 65)), (1, .int x1), (2, .int x2), (3, .int x3), (4, .int x4)]) (st' := []) (by decide +kernel) rfl ?_
      refine v_sub [1, 2, 3, 4, 5, 0] (ls' := [(0, .ref (ga G 65)), (1, .int x1), (2, .int x2), (3, .int x3), (4, .int x4), (5, .int (x4 + (1 : Int32)))]) rfl ?_
      exact (hL36 _ (fun x2 x3 x4  m11 h => by
            refine v_blk hC (is := [(.iinc 4 1, (1 : Int32))]) (pc' := 119) (ls' := [(4, .int (x4 + (1 : Int32))), (0, .ref (ga G 65)), (1, .int x1), (2, .int x2), (3, .int x3)]) (st' := []) (by decide +kernel) rfl ?_
            refine v_goto hC (off := (-100)) (tgt := 19) (by decide +kernel) (by decide) ?_
            refine v_sub [1, 2, 3, 4, 0] (ls' := [(0, .ref (ga G 65)), (1, .int x1), (2, .int x2), (3, .int x3), (4, .int (x4 + (1 : Int32)))]) rfl ?_
            exact hk19 _ _ _ _ h) 1000) _ _ _ _ _ h
  have hL19 : ∀ (k122 : Int32 → Int32 → Mem → Option (Int32 × Mem)), (∀ (x2 : Int32), ∀ (x3 : Int32), ∀ σ : Mem, k122 x2 x3 σ = some res → V G 3 6 X ((some (.int res.1)), res.2) σ [(1, .int x1), (2, .int x2), (3, .int x3)] [] 122) → ∀ f : Nat, ∀ (x2 : Int32), ∀ (x3 : Int32), ∀ (x4 : Int32), ∀ σ : Mem, p_X12_rings_L19 k122 x1 f x2 x3 x4 σ = some res → V G 3 6 X ((some (.int res.1)), res.2) σ [(0, .ref (ga G 65)), (1, .int x1), (2, .int x2), (3, .int x3), (4, .int x4)] [] 19 := by
    intro k122 hk122 f
    induction f with
    | zero => intro x2 x3 x4 σ h; exact none_some h
    | succ f ih => intro x2 x3 x4 σ h; exact hB19 (p_X12_rings_L19 k122 x1 f) k122 ih hk122 x2 x3 x4 σ h
  unfold p_X12_rings at h
  show V G 3 6 X ((some (.int res.1)), res.2) σ [(0, .ref (ga G 65)), (1, .int x1)] [] 0
  refine v_blk hC (is := [(.iload_n 1, 0), (.iconst 0, (0 : Int32)), (.iconst 1, (1 : Int32))]) (pc' := 3) (ls' := [(0, .ref (ga G 65)), (1, .int x1)]) (st' := [.int (1 : Int32), .int (0 : Int32), .int x1]) (by decide +kernel) rfl ?_
  obtain ⟨v12, s13, e14, h⟩ := bndI h
  refine v_cS (idx := 49) hC ⟨tt_at 1118 (by decide +kernel) rfl, tsX12_isIn, tnX12_isIn, tcX12_isIn, tmX12_isIn⟩ (c_X12_isIn e14) (by decide) (by decide) (by decide +kernel) (rest := []) rfl rfl (Nat.le_of_ble_eq_true rfl) rfl ?_
  refine v_if_ne hC (off := 5) (tgt := 11) (by decide +kernel) (by decide) h (fun hq h => ?_) (fun hq h => ?_)
  · refine v_blk hC (is := [(.iconst 0, (0 : Int32)), (.istore_n 2, 0), (.bipush (-4), (-4 : Int32)), (.istore_n 3, 0), (.iconst 0, (0 : Int32)), (.istore 4, 0)]) (pc' := 19) (ls' := [(4, .int (0 : Int32)), (3, .int (-4 : Int32)), (2, .int (0 : Int32)), (0, .ref (ga G 65)), (1, .int x1)]) (st' := []) (by decide +kernel) rfl ?_
    refine v_sub [3, 4, 2, 1, 0] (ls' := [(0, .ref (ga G 65)), (1, .int x1), (2, .int (0 : Int32)), (3, .int (-4 : Int32)), (4, .int (0 : Int32))]) rfl ?_
    exact (hL19 _ (fun x2 x3  m15 h => by
        refine v_blk hC (is := [(.iload_n 1, 0)]) (pc' := 123) (ls' := [(1, .int x1), (2, .int x2), (3, .int x3)]) (st' := [.int x1]) (by decide +kernel) rfl ?_
        refine v_if_ne hC (off := 7) (tgt := 130) (by decide +kernel) (by decide) h (fun hq h => ?_) (fun hq h => ?_)
        · refine v_blk hC (is := [(.iload_n 3, 0)]) (pc' := 131) (ls' := [(1, .int x1), (2, .int x2), (3, .int x3)]) (st' := [.int x3]) (by decide +kernel) rfl ?_
          exact v_iret hC h (by decide +kernel)
        · refine v_blk hC (is := [(.iload_n 2, 0)]) (pc' := 127) (ls' := [(1, .int x1), (2, .int x2), (3, .int x3)]) (st' := [.int x2]) (by decide +kernel) rfl ?_
          refine v_goto hC (off := 4) (tgt := 131) (by decide +kernel) (by decide) ?_
          exact v_iret hC h (by decide +kernel)) 1000) _ _ _ _ h
  · refine v_blk hC (is := [(.iconst (-1), (-1 : Int32))]) (pc' := 10) (ls' := [(0, .ref (ga G 65)), (1, .int x1)]) (st' := [.int (-1 : Int32)]) (by decide +kernel) rfl ?_
    exact v_iret hC h (by decide +kernel)

def p_X12_line_B91 (k42 : Int32 → Int32 → Int32 → Int32 → Mem → Option (Int32 × Mem)) (x1 : Int32) (x2 : Int32) (x4 : Int32) (x5 : Int32) (x6 : Int32) (t0 : Int32) (t1 : Int32) (σ : Mem) : Option (Int32 × Mem) := k42 (t0 ||| t1) x4 x5 (x6 + (1 : Int32)) σ
def p_X12_line_B90 (k42 : Int32 → Int32 → Int32 → Int32 → Mem → Option (Int32 × Mem)) (x1 : Int32) (x2 : Int32) (x4 : Int32) (x5 : Int32) (x6 : Int32) (t0 : Int32) (σ : Mem) : Option (Int32 × Mem) := (p_X12_line_B91 k42 x1 x2) x4 x5 x6 t0 (0 : Int32) σ
def p_X12_line_B42 (k42 : Int32 → Int32 → Int32 → Int32 → Mem → Option (Int32 × Mem)) (k99 : Int32 → Int32 → Int32 → Mem → Option (Int32 × Mem)) (x1 : Int32) (x2 : Int32) (x3 : Int32) (x4 : Int32) (x5 : Int32) (x6 : Int32) (σ : Mem) : Option (Int32 × Mem) := (if (0 : Int32) < 0 ∨ 100 ≤ ((0 : Int32)).toNatClampNeg then none else lt (σ 66 ((0 : Int32)).toNatClampNeg) fun v1 => (if v1 ≤ x6 then k99 x3 x4 x5 σ else (bnd (p_X12_has x3 x5 σ) fun v2 s3 => (if v2 = 0 then (p_X12_line_B90 k42 x1 x2) x4 x5 x6 x3 s3 else (if (1 : Int32) < 0 ∨ 100 ≤ ((1 : Int32)).toNatClampNeg then none else lt (s3 66 ((1 : Int32)).toNatClampNeg) fun v5 => (bnd (p_X12_hasSaved 66 x5 x6 v5 s3) fun v6 s7 => (if v6 = 0 then (p_X12_line_B90 k42 x1 x2) x4 x5 x6 x3 s7 else (p_X12_line_B91 k42 x1 x2) x4 x5 x6 x3 ((1 : Int32) <<< (x6 &&& 31)) s7)))))))
def p_X12_line_L42 (k99 : Int32 → Int32 → Int32 → Mem → Option (Int32 × Mem)) (x1 : Int32) (x2 : Int32) : Nat → Int32 → Int32 → Int32 → Int32 → Mem → Option (Int32 × Mem)
  | 0 => fun _ _ _ _ _ => none
  | f + 1 => p_X12_line_B42 (p_X12_line_L42 k99 x1 x2 f) k99 x1 x2
def p_X12_line_B28 (k28 : Int32 → Int32 → Int32 → Mem → Option (Int32 × Mem)) (k105 : Int32 → Int32 → Mem → Option (Int32 × Mem)) (x1 : Int32) (x2 : Int32) (x3 : Int32) (x4 : Int32) (x5 : Int32) (σ : Mem) : Option (Int32 × Mem) := (if (0 : Int32) < 0 ∨ 100 ≤ ((0 : Int32)).toNatClampNeg then none else lt (σ 66 ((0 : Int32)).toNatClampNeg) fun v9 => (if v9 ≤ x5 then k105 x3 x4 σ else (p_X12_line_L42 (fun (x3 : Int32) (x4 : Int32) (x5 : Int32) (m10 : Mem) => k28 x3 x4 (x5 + (1 : Int32)) m10) x1 x2 1000) x3 x4 x5 (0 : Int32) σ))
def p_X12_line_L28 (k105 : Int32 → Int32 → Mem → Option (Int32 × Mem)) (x1 : Int32) (x2 : Int32) : Nat → Int32 → Int32 → Int32 → Mem → Option (Int32 × Mem)
  | 0 => fun _ _ _ _ => none
  | f + 1 => p_X12_line_B28 (p_X12_line_L28 k105 x1 x2 f) k105 x1 x2
def p_X12_line_B18 (k18 : Int32 → Int32 → Mem → Option (Int32 × Mem)) (k111 : Int32 → Mem → Option (Int32 × Mem)) (x1 : Int32) (x2 : Int32) (x3 : Int32) (x4 : Int32) (σ : Mem) : Option (Int32 × Mem) := (if (8 : Int32) ≤ x4 then k111 x3 σ else (p_X12_line_L28 (fun (x3 : Int32) (x4 : Int32) (m11 : Mem) => k18 x3 (x4 + (1 : Int32)) m11) x1 x2 1000) x3 x4 (0 : Int32) σ)
def p_X12_line_L18 (k111 : Int32 → Mem → Option (Int32 × Mem)) (x1 : Int32) (x2 : Int32) : Nat → Int32 → Int32 → Mem → Option (Int32 × Mem)
  | 0 => fun _ _ _ => none
  | f + 1 => p_X12_line_B18 (p_X12_line_L18 k111 x1 x2 f) k111 x1 x2
def p_X12_line (x1 : Int32) (x2 : Int32) (σ : Mem) : Option (Int32 × Mem) := (bnd (p_X12_areTwo x1 x2 σ) fun v12 s13 => (if v12 = 0 then some ((-1 : Int32), s13) else (p_X12_line_L18 (fun (x3 : Int32) (m15 : Mem) => (bnd (p_X12_has x3 x2 m15) fun v16 s17 => (if v16 = 0 then some ((0 : Int32), s17) else some ((1 : Int32), s17)))) x1 x2 1000) ((1 : Int32) <<< (x1 &&& 31)) (0 : Int32) s13))
set_option maxHeartbeats 4000000 in
set_option maxRecDepth 100000 in
theorem c_X12_line {G : Gl} {x1 : Int32} {x2 : Int32} {σ : Mem} {res : Int32 × Mem}  (h : p_X12_line x1 x2 σ = some res) : MetX G yX12_line cX12_line 7 (some .int) 4 [.ref (ga G 65), .int x1, .int x2] σ (some (.int res.1)) res.2 := by
  refine met_V (by decide +kernel) (Nat.le_of_ble_eq_true rfl) (fun X hC => ?_)
  have hC : Ok G 4 7 X cX12_line RX12 (some .int) := hC
  have hB91 : ∀ (k42 : Int32 → Int32 → Int32 → Int32 → Mem → Option (Int32 × Mem)), (∀ (x3 : Int32), ∀ (x4 : Int32), ∀ (x5 : Int32), ∀ (x6 : Int32), ∀ σ : Mem, k42 x3 x4 x5 x6 σ = some res → V G 4 7 X ((some (.int res.1)), res.2) σ [(0, .ref (ga G 65)), (2, .int x2), (3, .int x3), (4, .int x4), (5, .int x5), (6, .int x6)] [] 42) → ∀ (x4 : Int32), ∀ (x5 : Int32), ∀ (x6 : Int32), ∀ (t0 : Int32), ∀ (t1 : Int32), ∀ σ : Mem, p_X12_line_B91 k42 x1 x2 x4 x5 x6 t0 t1 σ = some res → V G 4 7 X ((some (.int res.1)), res.2) σ [(0, .ref (ga G 65)), (2, .int x2), (4, .int x4), (5, .int x5), (6, .int x6)] [.int t1, .int t0] 91 := by
    intro k42 hk42 x4 x5 x6 t0 t1 σ h
    unfold p_X12_line_B91 at h
    refine v_blk hC (is := [(.ior, 0), (.istore_n 3, 0), (.iinc 6 1, (1 : Int32))]) (pc' := 96) (ls' := [(6, .int (x6 + (1 : Int32))), (3, .int (t0 ||| t1)), (0, .ref (ga G 65)), (2, .int x2), (4, .int x4), (5, .int x5)]) (st' := []) (by decide +kernel) rfl ?_
    refine v_goto hC (off := (-54)) (tgt := 42) (by decide +kernel) (by decide) ?_
    refine v_sub [2, 3, 1, 4, 5, 0] (ls' := [(0, .ref (ga G 65)), (2, .int x2), (3, .int (t0 ||| t1)), (4, .int x4), (5, .int x5), (6, .int (x6 + (1 : Int32)))]) rfl ?_
    exact hk42 _ _ _ _ _ h
  have hB90 : ∀ (k42 : Int32 → Int32 → Int32 → Int32 → Mem → Option (Int32 × Mem)), (∀ (x3 : Int32), ∀ (x4 : Int32), ∀ (x5 : Int32), ∀ (x6 : Int32), ∀ σ : Mem, k42 x3 x4 x5 x6 σ = some res → V G 4 7 X ((some (.int res.1)), res.2) σ [(0, .ref (ga G 65)), (2, .int x2), (3, .int x3), (4, .int x4), (5, .int x5), (6, .int x6)] [] 42) → ∀ (x4 : Int32), ∀ (x5 : Int32), ∀ (x6 : Int32), ∀ (t0 : Int32), ∀ σ : Mem, p_X12_line_B90 k42 x1 x2 x4 x5 x6 t0 σ = some res → V G 4 7 X ((some (.int res.1)), res.2) σ [(0, .ref (ga G 65)), (2, .int x2), (4, .int x4), (5, .int x5), (6, .int x6)] [.int t0] 90 := by
    intro k42 hk42 x4 x5 x6 t0 σ h
    unfold p_X12_line_B90 at h
    refine v_blk hC (is := [(.iconst 0, (0 : Int32))]) (pc' := 91) (ls' := [(0, .ref (ga G 65)), (2, .int x2), (4, .int x4), (5, .int x5), (6, .int x6)]) (st' := [.int (0 : Int32), .int t0]) (by decide +kernel) rfl ?_
    exact (hB91 _ hk42) _ _ _ _ _ _ h
  have hB42 : ∀ (k42 : Int32 → Int32 → Int32 → Int32 → Mem → Option (Int32 × Mem)), ∀ (k99 : Int32 → Int32 → Int32 → Mem → Option (Int32 × Mem)), (∀ (x3 : Int32), ∀ (x4 : Int32), ∀ (x5 : Int32), ∀ (x6 : Int32), ∀ σ : Mem, k42 x3 x4 x5 x6 σ = some res → V G 4 7 X ((some (.int res.1)), res.2) σ [(0, .ref (ga G 65)), (2, .int x2), (3, .int x3), (4, .int x4), (5, .int x5), (6, .int x6)] [] 42) → (∀ (x3 : Int32), ∀ (x4 : Int32), ∀ (x5 : Int32), ∀ σ : Mem, k99 x3 x4 x5 σ = some res → V G 4 7 X ((some (.int res.1)), res.2) σ [(0, .ref (ga G 65)), (2, .int x2), (3, .int x3), (4, .int x4), (5, .int x5)] [] 99) → ∀ (x3 : Int32), ∀ (x4 : Int32), ∀ (x5 : Int32), ∀ (x6 : Int32), ∀ σ : Mem, p_X12_line_B42 k42 k99 x1 x2 x3 x4 x5 x6 σ = some res → V G 4 7 X ((some (.int res.1)), res.2) σ [(0, .ref (ga G 65)), (2, .int x2), (3, .int x3), (4, .int x4), (5, .int x5), (6, .int x6)] [] 42 := by
    intro k42 k99 hk42 hk99 x3 x4 x5 x6 σ h
    unfold p_X12_line_B42 at h
    refine v_blk hC (is := [(.iload 6, 0), (.aload_n 0, 0)]) (pc' := 45) (ls' := [(0, .ref (ga G 65)), (2, .int x2), (3, .int x3), (4, .int x4), (5, .int x5), (6, .int x6)]) (st' := [.ref (ga G 65), .int x6]) (by decide +kernel) rfl ?_
    refine gX12_0 hC lfX12_9 (by decide +kernel) ?_
    refine v_blk hC (is := [(.iconst 0, (0 : Int32))]) (pc' := 49) (ls' := [(0, .ref (ga G 65)), (2, .int x2), (3, .int x3), (4, .int x4), (5, .int x5), (6, .int x6)]) (st' := [.int (0 : Int32), .ref (ga G 66), .int x6]) (by decide +kernel) rfl ?_
    refine v_iald hC isA_66 rfl (by decide +kernel) h (fun v1 h => ?_)
    refine v_icmp_ge hC (off := 49) (tgt := 99) (by decide +kernel) (by decide) h (fun hq h => ?_) (fun hq h => ?_)
    · refine v_sub [0, 1, 2, 3, 4] (ls' := [(0, .ref (ga G 65)), (2, .int x2), (3, .int x3), (4, .int x4), (5, .int x5)]) rfl ?_
      exact hk99 _ _ _ _ h
    · refine v_blk hC (is := [(.iload_n 3, 0), (.iload_n 3, 0), (.iload 5, 0)]) (pc' := 57) (ls' := [(0, .ref (ga G 65)), (2, .int x2), (3, .int x3), (4, .int x4), (5, .int x5), (6, .int x6)]) (st' := [.int x5, .int x3, .int x3]) (by decide +kernel) rfl ?_
      obtain ⟨v2, s3, e4, h⟩ := bndI h
      refine v_cS (idx := 85) hC ⟨tt_at 1175 (by decide +kernel) rfl, tsX12_has, tnX12_has, tcX12_has, tmX12_has⟩ (c_X12_has e4) (by decide) (by decide) (by decide +kernel) (rest := [.int x3]) rfl rfl (Nat.le_of_ble_eq_true rfl) rfl ?_
      refine v_if_eq hC (off := 30) (tgt := 90) (by decide +kernel) (by decide) h (fun hq h => ?_) (fun hq h => ?_)
      · refine v_sub [0, 1, 3, 4, 5] (ls' := [(0, .ref (ga G 65)), (2, .int x2), (4, .int x4), (5, .int x5), (6, .int x6)]) rfl ?_
        exact (hB90 _ hk42) _ _ _ _ _ h
      · refine v_blk hC (is := [(.aload_n 0, 0)]) (pc' := 64) (ls' := [(0, .ref (ga G 65)), (2, .int x2), (3, .int x3), (4, .int x4), (5, .int x5), (6, .int x6)]) (st' := [.ref (ga G 65), .int x3]) (by decide +kernel) rfl ?_
        refine gX12_0 hC lfX12_9 (by decide +kernel) ?_
        refine v_blk hC (is := [(.iload 5, 0), (.iload 6, 0), (.aload_n 0, 0)]) (pc' := 72) (ls' := [(0, .ref (ga G 65)), (2, .int x2), (3, .int x3), (4, .int x4), (5, .int x5), (6, .int x6)]) (st' := [.ref (ga G 65), .int x6, .int x5, .ref (ga G 66), .int x3]) (by decide +kernel) rfl ?_
        refine gX12_0 hC lfX12_9 (by decide +kernel) ?_
        refine v_blk hC (is := [(.iconst 1, (1 : Int32))]) (pc' := 76) (ls' := [(0, .ref (ga G 65)), (2, .int x2), (3, .int x3), (4, .int x4), (5, .int x5), (6, .int x6)]) (st' := [.int (1 : Int32), .ref (ga G 66), .int x6, .int x5, .ref (ga G 66), .int x3]) (by decide +kernel) rfl ?_
        refine v_iald hC isA_66 rfl (by decide +kernel) h (fun v5 h => ?_)
        obtain ⟨v6, s7, e8, h⟩ := bndI h
        refine v_cS (idx := 78) hC ⟨tt_at 1202 (by decide +kernel) rfl, tsX12_hasSaved, tnX12_hasSaved, tcX12_hasSaved, tmX12_hasSaved⟩ (c_X12_hasSaved row66 e8) (by decide) (by decide) (by decide +kernel) (rest := [.int x3]) rfl rfl (Nat.le_of_ble_eq_true rfl) rfl ?_
        refine v_if_eq hC (off := 10) (tgt := 90) (by decide +kernel) (by decide) h (fun hq h => ?_) (fun hq h => ?_)
        · refine v_sub [0, 1, 3, 4, 5] (ls' := [(0, .ref (ga G 65)), (2, .int x2), (4, .int x4), (5, .int x5), (6, .int x6)]) rfl ?_
          exact (hB90 _ hk42) _ _ _ _ _ h
        · refine v_blk hC (is := [(.iconst 1, (1 : Int32)), (.iload 6, 0), (.ishl, 0)]) (pc' := 87) (ls' := [(0, .ref (ga G 65)), (2, .int x2), (3, .int x3), (4, .int x4), (5, .int x5), (6, .int x6)]) (st' := [.int ((1 : Int32) <<< (x6 &&& 31)), .int x3]) (by decide +kernel) rfl ?_
          refine v_goto hC (off := 4) (tgt := 91) (by decide +kernel) (by decide) ?_
          refine v_sub [0, 1, 3, 4, 5] (ls' := [(0, .ref (ga G 65)), (2, .int x2), (4, .int x4), (5, .int x5), (6, .int x6)]) rfl ?_
          exact (hB91 _ hk42) _ _ _ _ _ _ h
  have hL42 : ∀ (k99 : Int32 → Int32 → Int32 → Mem → Option (Int32 × Mem)), (∀ (x3 : Int32), ∀ (x4 : Int32), ∀ (x5 : Int32), ∀ σ : Mem, k99 x3 x4 x5 σ = some res → V G 4 7 X ((some (.int res.1)), res.2) σ [(0, .ref (ga G 65)), (2, .int x2), (3, .int x3), (4, .int x4), (5, .int x5)] [] 99) → ∀ f : Nat, ∀ (x3 : Int32), ∀ (x4 : Int32), ∀ (x5 : Int32), ∀ (x6 : Int32), ∀ σ : Mem, p_X12_line_L42 k99 x1 x2 f x3 x4 x5 x6 σ = some res → V G 4 7 X ((some (.int res.1)), res.2) σ [(0, .ref (ga G 65)), (2, .int x2), (3, .int x3), (4, .int x4), (5, .int x5), (6, .int x6)] [] 42 := by
    intro k99 hk99 f
    induction f with
    | zero => intro x3 x4 x5 x6 σ h; exact none_some h
    | succ f ih => intro x3 x4 x5 x6 σ h; exact hB42 (p_X12_line_L42 k99 x1 x2 f) k99 ih hk99 x3 x4 x5 x6 σ h
  have hB28 : ∀ (k28 : Int32 → Int32 → Int32 → Mem → Option (Int32 × Mem)), ∀ (k105 : Int32 → Int32 → Mem → Option (Int32 × Mem)), (∀ (x3 : Int32), ∀ (x4 : Int32), ∀ (x5 : Int32), ∀ σ : Mem, k28 x3 x4 x5 σ = some res → V G 4 7 X ((some (.int res.1)), res.2) σ [(0, .ref (ga G 65)), (2, .int x2), (3, .int x3), (4, .int x4), (5, .int x5)] [] 28) → (∀ (x3 : Int32), ∀ (x4 : Int32), ∀ σ : Mem, k105 x3 x4 σ = some res → V G 4 7 X ((some (.int res.1)), res.2) σ [(0, .ref (ga G 65)), (2, .int x2), (3, .int x3), (4, .int x4)] [] 105) → ∀ (x3 : Int32), ∀ (x4 : Int32), ∀ (x5 : Int32), ∀ σ : Mem, p_X12_line_B28 k28 k105 x1 x2 x3 x4 x5 σ = some res → V G 4 7 X ((some (.int res.1)), res.2) σ [(0, .ref (ga G 65)), (2, .int x2), (3, .int x3), (4, .int x4), (5, .int x5)] [] 28 := by
    intro k28 k105 hk28 hk105 x3 x4 x5 σ h
    unfold p_X12_line_B28 at h
    refine v_blk hC (is := [(.iload 5, 0), (.aload_n 0, 0)]) (pc' := 31) (ls' := [(0, .ref (ga G 65)), (2, .int x2), (3, .int x3), (4, .int x4), (5, .int x5)]) (st' := [.ref (ga G 65), .int x5]) (by decide +kernel) rfl ?_
    refine gX12_0 hC lfX12_9 (by decide +kernel) ?_
    refine v_blk hC (is := [(.iconst 0, (0 : Int32))]) (pc' := 35) (ls' := [(0, .ref (ga G 65)), (2, .int x2), (3, .int x3), (4, .int x4), (5, .int x5)]) (st' := [.int (0 : Int32), .ref (ga G 66), .int x5]) (by decide +kernel) rfl ?_
    refine v_iald hC isA_66 rfl (by decide +kernel) h (fun v9 h => ?_)
    refine v_icmp_ge hC (off := 69) (tgt := 105) (by decide +kernel) (by decide) h (fun hq h => ?_) (fun hq h => ?_)
    · refine v_sub [0, 1, 2, 3] (ls' := [(0, .ref (ga G 65)), (2, .int x2), (3, .int x3), (4, .int x4)]) rfl ?_
      exact hk105 _ _ _ h
    · refine v_blk hC (is := [(.iconst 0, (0 : Int32)), (.istore 6, 0)]) (pc' := 42) (ls' := [(6, .int (0 : Int32)), (0, .ref (ga G 65)), (2, .int x2), (3, .int x3), (4, .int x4), (5, .int x5)]) (st' := []) (by decide +kernel) rfl ?_
      refine v_sub [1, 2, 3, 4, 5, 0] (ls' := [(0, .ref (ga G 65)), (2, .int x2), (3, .int x3), (4, .int x4), (5, .int x5), (6, .int (0 : Int32))]) rfl ?_
      exact (hL42 _ (fun x3 x4 x5  m10 h => by
            refine v_blk hC (is := [(.iinc 5 1, (1 : Int32))]) (pc' := 102) (ls' := [(5, .int (x5 + (1 : Int32))), (0, .ref (ga G 65)), (2, .int x2), (3, .int x3), (4, .int x4)]) (st' := []) (by decide +kernel) rfl ?_
            refine v_goto hC (off := (-74)) (tgt := 28) (by decide +kernel) (by decide) ?_
            refine v_sub [1, 2, 3, 4, 0] (ls' := [(0, .ref (ga G 65)), (2, .int x2), (3, .int x3), (4, .int x4), (5, .int (x5 + (1 : Int32)))]) rfl ?_
            exact hk28 _ _ _ _ h) 1000) _ _ _ _ _ h
  have hL28 : ∀ (k105 : Int32 → Int32 → Mem → Option (Int32 × Mem)), (∀ (x3 : Int32), ∀ (x4 : Int32), ∀ σ : Mem, k105 x3 x4 σ = some res → V G 4 7 X ((some (.int res.1)), res.2) σ [(0, .ref (ga G 65)), (2, .int x2), (3, .int x3), (4, .int x4)] [] 105) → ∀ f : Nat, ∀ (x3 : Int32), ∀ (x4 : Int32), ∀ (x5 : Int32), ∀ σ : Mem, p_X12_line_L28 k105 x1 x2 f x3 x4 x5 σ = some res → V G 4 7 X ((some (.int res.1)), res.2) σ [(0, .ref (ga G 65)), (2, .int x2), (3, .int x3), (4, .int x4), (5, .int x5)] [] 28 := by
    intro k105 hk105 f
    induction f with
    | zero => intro x3 x4 x5 σ h; exact none_some h
    | succ f ih => intro x3 x4 x5 σ h; exact hB28 (p_X12_line_L28 k105 x1 x2 f) k105 ih hk105 x3 x4 x5 σ h
  have hB18 : ∀ (k18 : Int32 → Int32 → Mem → Option (Int32 × Mem)), ∀ (k111 : Int32 → Mem → Option (Int32 × Mem)), (∀ (x3 : Int32), ∀ (x4 : Int32), ∀ σ : Mem, k18 x3 x4 σ = some res → V G 4 7 X ((some (.int res.1)), res.2) σ [(0, .ref (ga G 65)), (2, .int x2), (3, .int x3), (4, .int x4)] [] 18) → (∀ (x3 : Int32), ∀ σ : Mem, k111 x3 σ = some res → V G 4 7 X ((some (.int res.1)), res.2) σ [(2, .int x2), (3, .int x3)] [] 111) → ∀ (x3 : Int32), ∀ (x4 : Int32), ∀ σ : Mem, p_X12_line_B18 k18 k111 x1 x2 x3 x4 σ = some res → V G 4 7 X ((some (.int res.1)), res.2) σ [(0, .ref (ga G 65)), (2, .int x2), (3, .int x3), (4, .int x4)] [] 18 := by
    intro k18 k111 hk18 hk111 x3 x4 σ h
    unfold p_X12_line_B18 at h
    refine v_blk hC (is := [(.iload 4, 0), (.bipush 8, (8 : Int32))]) (pc' := 22) (ls' := [(0, .ref (ga G 65)), (2, .int x2), (3, .int x3), (4, .int x4)]) (st' := [.int (8 : Int32), .int x4]) (by decide +kernel) rfl ?_
    refine v_icmp_ge hC (off := 89) (tgt := 111) (by decide +kernel) (by decide) h (fun hq h => ?_) (fun hq h => ?_)
    · refine v_sub [1, 2] (ls' := [(2, .int x2), (3, .int x3)]) rfl ?_
      exact hk111 _ _ h
    · refine v_blk hC (is := [(.iconst 0, (0 : Int32)), (.istore 5, 0)]) (pc' := 28) (ls' := [(5, .int (0 : Int32)), (0, .ref (ga G 65)), (2, .int x2), (3, .int x3), (4, .int x4)]) (st' := []) (by decide +kernel) rfl ?_
      refine v_sub [1, 2, 3, 4, 0] (ls' := [(0, .ref (ga G 65)), (2, .int x2), (3, .int x3), (4, .int x4), (5, .int (0 : Int32))]) rfl ?_
      exact (hL28 _ (fun x3 x4  m11 h => by
            refine v_blk hC (is := [(.iinc 4 1, (1 : Int32))]) (pc' := 108) (ls' := [(4, .int (x4 + (1 : Int32))), (0, .ref (ga G 65)), (2, .int x2), (3, .int x3)]) (st' := []) (by decide +kernel) rfl ?_
            refine v_goto hC (off := (-90)) (tgt := 18) (by decide +kernel) (by decide) ?_
            refine v_sub [1, 2, 3, 0] (ls' := [(0, .ref (ga G 65)), (2, .int x2), (3, .int x3), (4, .int (x4 + (1 : Int32)))]) rfl ?_
            exact hk18 _ _ _ h) 1000) _ _ _ _ h
  have hL18 : ∀ (k111 : Int32 → Mem → Option (Int32 × Mem)), (∀ (x3 : Int32), ∀ σ : Mem, k111 x3 σ = some res → V G 4 7 X ((some (.int res.1)), res.2) σ [(2, .int x2), (3, .int x3)] [] 111) → ∀ f : Nat, ∀ (x3 : Int32), ∀ (x4 : Int32), ∀ σ : Mem, p_X12_line_L18 k111 x1 x2 f x3 x4 σ = some res → V G 4 7 X ((some (.int res.1)), res.2) σ [(0, .ref (ga G 65)), (2, .int x2), (3, .int x3), (4, .int x4)] [] 18 := by
    intro k111 hk111 f
    induction f with
    | zero => intro x3 x4 σ h; exact none_some h
    | succ f ih => intro x3 x4 σ h; exact hB18 (p_X12_line_L18 k111 x1 x2 f) k111 ih hk111 x3 x4 σ h
  unfold p_X12_line at h
  show V G 4 7 X ((some (.int res.1)), res.2) σ [(0, .ref (ga G 65)), (1, .int x1), (2, .int x2)] [] 0
  refine v_blk hC (is := [(.aload_n 0, 0), (.iload_n 1, 0), (.iload_n 2, 0)]) (pc' := 3) (ls' := [(0, .ref (ga G 65)), (1, .int x1), (2, .int x2)]) (st' := [.int x2, .int x1, .ref (ga G 65)]) (by decide +kernel) rfl ?_
  obtain ⟨v12, s13, e14, h⟩ := bndI h
  refine v_cV (idx := 151) hC ⟨tt_at 1146 (by decide +kernel) rfl, tiX12_areTwo, tvX12_areTwo, tnX12_areTwo, tcX12_areTwo, tmX12_areTwo⟩ isO_X12 rfl (c_X12_areTwo e14) (by decide) (by decide) (by decide +kernel) (rest := []) rfl rfl (Nat.le_of_ble_eq_true rfl) rfl ?_
  refine v_if_ne hC (off := 5) (tgt := 11) (by decide +kernel) (by decide) h (fun hq h => ?_) (fun hq h => ?_)
  · refine v_blk hC (is := [(.iconst 1, (1 : Int32)), (.iload_n 1, 0), (.ishl, 0), (.istore_n 3, 0), (.iconst 0, (0 : Int32)), (.istore 4, 0)]) (pc' := 18) (ls' := [(4, .int (0 : Int32)), (3, .int ((1 : Int32) <<< (x1 &&& 31))), (0, .ref (ga G 65)), (1, .int x1), (2, .int x2)]) (st' := []) (by decide +kernel) rfl ?_
    refine v_sub [2, 4, 1, 0] (ls' := [(0, .ref (ga G 65)), (2, .int x2), (3, .int ((1 : Int32) <<< (x1 &&& 31))), (4, .int (0 : Int32))]) rfl ?_
    exact (hL18 _ (fun x3  m15 h => by
        refine v_blk hC (is := [(.iload_n 3, 0), (.iload_n 2, 0)]) (pc' := 113) (ls' := [(2, .int x2), (3, .int x3)]) (st' := [.int x2, .int x3]) (by decide +kernel) rfl ?_
        obtain ⟨v16, s17, e18, h⟩ := bndI h
        refine v_cS (idx := 85) hC ⟨tt_at 1175 (by decide +kernel) rfl, tsX12_has, tnX12_has, tcX12_has, tmX12_has⟩ (c_X12_has e18) (by decide) (by decide) (by decide +kernel) (rest := []) rfl rfl (Nat.le_of_ble_eq_true rfl) rfl ?_
        refine v_if_eq hC (off := 7) (tgt := 123) (by decide +kernel) (by decide) h (fun hq h => ?_) (fun hq h => ?_)
        · refine v_blk hC (is := [(.iconst 0, (0 : Int32))]) (pc' := 124) (ls' := [(2, .int x2), (3, .int x3)]) (st' := [.int (0 : Int32)]) (by decide +kernel) rfl ?_
          exact v_iret hC h (by decide +kernel)
        · refine v_blk hC (is := [(.iconst 1, (1 : Int32))]) (pc' := 120) (ls' := [(2, .int x2), (3, .int x3)]) (st' := [.int (1 : Int32)]) (by decide +kernel) rfl ?_
          refine v_goto hC (off := 4) (tgt := 124) (by decide +kernel) (by decide) ?_
          exact v_iret hC h (by decide +kernel)) 1000) _ _ _ h
  · refine v_blk hC (is := [(.iconst (-1), (-1 : Int32))]) (pc' := 10) (ls' := [(0, .ref (ga G 65)), (1, .int x1), (2, .int x2)]) (st' := [.int (-1 : Int32)]) (by decide +kernel) rfl ?_
    exact v_iret hC h (by decide +kernel)

def p_X12_behind (x1 : Int32) (x2 : Int32) (σ : Mem) : Option (Int32 × Mem) := (bnd (p_X12_isMan x1 σ) fun v1 s2 => (if v1 = 0 then some ((-1 : Int32), s2) else (bnd (p_X12_isIn x2 (0 : Int32) (60 : Int32) s2) fun v4 s5 => (if v4 = 0 then some ((-1 : Int32), s5) else (bnd (p_X12_copies 66 67 s5) fun (v7 : Unit) s8 => (bnd (p_X12_seasonsOn 67 x2 s8) fun (v10 : Unit) s11 => (bnd (p_X12_of x1 (3 : Int32) s11) fun v13 s14 => (if v13 < 0 ∨ 100 ≤ (v13).toNatClampNeg then none else lt (s14 67 (v13).toNatClampNeg) fun v16 => (if v16 = (1 : Int32) then some ((-4 : Int32), s14) else (bnd (p_X12_of x1 (2 : Int32) s14) fun v17 s18 => (if v17 < 0 ∨ 100 ≤ (v17).toNatClampNeg then none else lt (s18 67 (v17).toNatClampNeg) fun v20 => some (v20, s18))))))))))))
set_option maxHeartbeats 4000000 in
set_option maxRecDepth 100000 in
theorem c_X12_behind {G : Gl} {x1 : Int32} {x2 : Int32} {σ : Mem} {res : Int32 × Mem}  (h : p_X12_behind x1 x2 σ = some res) : MetX G yX12_behind cX12_behind 3 (some .int) 8 [.ref (ga G 65), .int x1, .int x2] σ (some (.int res.1)) res.2 := by
  refine met_V (by decide +kernel) (Nat.le_of_ble_eq_true rfl) (fun X hC => ?_)
  have hC : Ok G 8 3 X cX12_behind RX12 (some .int) := hC
  unfold p_X12_behind at h
  show V G 8 3 X ((some (.int res.1)), res.2) σ [(0, .ref (ga G 65)), (1, .int x1), (2, .int x2)] [] 0
  refine v_blk hC (is := [(.aload_n 0, 0), (.iload_n 1, 0)]) (pc' := 2) (ls' := [(0, .ref (ga G 65)), (1, .int x1), (2, .int x2)]) (st' := [.int x1, .ref (ga G 65)]) (by decide +kernel) rfl ?_
  obtain ⟨v1, s2, e3, h⟩ := bndI h
  refine v_cV (idx := 53) hC ⟨tt_at 1150 (by decide +kernel) rfl, tiX12_isMan, tvX12_isMan, tnX12_isMan, tcX12_isMan, tmX12_isMan⟩ isO_X12 rfl (c_X12_isMan e3) (by decide) (by decide) (by decide +kernel) (rest := []) rfl rfl (Nat.le_of_ble_eq_true rfl) rfl ?_
  refine v_if_eq hC (off := 13) (tgt := 18) (by decide +kernel) (by decide) h (fun hq h => ?_) (fun hq h => ?_)
  · refine v_blk hC (is := [(.iconst (-1), (-1 : Int32))]) (pc' := 19) (ls' := [(0, .ref (ga G 65)), (1, .int x1), (2, .int x2)]) (st' := [.int (-1 : Int32)]) (by decide +kernel) rfl ?_
    exact v_iret hC h (by decide +kernel)
  · refine v_blk hC (is := [(.iload_n 2, 0), (.iconst 0, (0 : Int32)), (.bipush 60, (60 : Int32))]) (pc' := 12) (ls' := [(0, .ref (ga G 65)), (1, .int x1), (2, .int x2)]) (st' := [.int (60 : Int32), .int (0 : Int32), .int x2]) (by decide +kernel) rfl ?_
    obtain ⟨v4, s5, e6, h⟩ := bndI h
    refine v_cS (idx := 49) hC ⟨tt_at 1118 (by decide +kernel) rfl, tsX12_isIn, tnX12_isIn, tcX12_isIn, tmX12_isIn⟩ (c_X12_isIn e6) (by decide) (by decide) (by decide +kernel) (rest := []) rfl rfl (Nat.le_of_ble_eq_true rfl) rfl ?_
    refine v_if_ne hC (off := 5) (tgt := 20) (by decide +kernel) (by decide) h (fun hq h => ?_) (fun hq h => ?_)
    · refine v_blk hC (is := [(.aload_n 0, 0)]) (pc' := 21) (ls' := [(0, .ref (ga G 65)), (1, .int x1), (2, .int x2)]) (st' := [.ref (ga G 65)]) (by decide +kernel) rfl ?_
      refine gX12_0 hC lfX12_9 (by decide +kernel) ?_
      refine v_blk hC (is := [(.aload_n 0, 0)]) (pc' := 25) (ls' := [(0, .ref (ga G 65)), (1, .int x1), (2, .int x2)]) (st' := [.ref (ga G 65), .ref (ga G 66)]) (by decide +kernel) rfl ?_
      refine gX12_1 hC lfX12_13 (by decide +kernel) ?_
      obtain ⟨v7, s8, e9, h⟩ := bndI h
      refine v_cS (idx := 164) hC ⟨tt_at 1133 (by decide +kernel) rfl, tsX12_copies, tnX12_copies, tcX12_copies, tmX12_copies⟩ (c_X12_copies row66 row67 e9) (by decide) (by decide) (by decide +kernel) (rest := []) rfl rfl (Nat.le_of_ble_eq_true rfl) rfl ?_
      refine v_blk hC (is := [(.aload_n 0, 0)]) (pc' := 32) (ls' := [(0, .ref (ga G 65)), (1, .int x1), (2, .int x2)]) (st' := [.ref (ga G 65)]) (by decide +kernel) rfl ?_
      refine gX12_1 hC lfX12_13 (by decide +kernel) ?_
      refine v_blk hC (is := [(.iload_n 2, 0)]) (pc' := 36) (ls' := [(0, .ref (ga G 65)), (1, .int x1), (2, .int x2)]) (st' := [.int x2, .ref (ga G 67)]) (by decide +kernel) rfl ?_
      obtain ⟨v10, s11, e12, h⟩ := bndI h
      refine v_cS (idx := 123) hC ⟨tt_at 1160 (by decide +kernel) rfl, tsX12_seasonsOn, tnX12_seasonsOn, tcX12_seasonsOn, tmX12_seasonsOn⟩ (c_X12_seasonsOn row67 e12) (by decide) (by decide) (by decide +kernel) (rest := []) rfl rfl (Nat.le_of_ble_eq_true rfl) rfl ?_
      refine v_blk hC (is := [(.aload_n 0, 0)]) (pc' := 40) (ls' := [(0, .ref (ga G 65)), (1, .int x1), (2, .int x2)]) (st' := [.ref (ga G 65)]) (by decide +kernel) rfl ?_
      refine gX12_1 hC lfX12_13 (by decide +kernel) ?_
      refine v_blk hC (is := [(.iload_n 1, 0), (.iconst 3, (3 : Int32))]) (pc' := 45) (ls' := [(0, .ref (ga G 65)), (1, .int x1), (2, .int x2)]) (st' := [.int (3 : Int32), .int x1, .ref (ga G 67)]) (by decide +kernel) rfl ?_
      obtain ⟨v13, s14, e15, h⟩ := bndI h
      refine v_cS (idx := 57) hC ⟨tt_at 1143 (by decide +kernel) rfl, tsX12_of, tnX12_of, tcX12_of, tmX12_of⟩ (c_X12_of e15) (by decide) (by decide) (by decide +kernel) (rest := [.ref (ga G 67)]) rfl rfl (Nat.le_of_ble_eq_true rfl) rfl ?_
      refine v_iald hC isA_67 rfl (by decide +kernel) h (fun v16 h => ?_)
      refine v_blk hC (is := [(.iconst 1, (1 : Int32))]) (pc' := 50) (ls' := [(0, .ref (ga G 65)), (1, .int x1), (2, .int x2)]) (st' := [.int (1 : Int32), .int v16]) (by decide +kernel) rfl ?_
      refine v_icmp_ne hC (off := 8) (tgt := 58) (by decide +kernel) (by decide) h (fun hq h => ?_) (fun hq h => ?_)
      · refine v_blk hC (is := [(.aload_n 0, 0)]) (pc' := 59) (ls' := [(0, .ref (ga G 65)), (1, .int x1), (2, .int x2)]) (st' := [.ref (ga G 65)]) (by decide +kernel) rfl ?_
        refine gX12_1 hC lfX12_13 (by decide +kernel) ?_
        refine v_blk hC (is := [(.iload_n 1, 0), (.iconst 2, (2 : Int32))]) (pc' := 64) (ls' := [(0, .ref (ga G 65)), (1, .int x1), (2, .int x2)]) (st' := [.int (2 : Int32), .int x1, .ref (ga G 67)]) (by decide +kernel) rfl ?_
        obtain ⟨v17, s18, e19, h⟩ := bndI h
        refine v_cS (idx := 57) hC ⟨tt_at 1143 (by decide +kernel) rfl, tsX12_of, tnX12_of, tcX12_of, tmX12_of⟩ (c_X12_of e19) (by decide) (by decide) (by decide +kernel) (rest := [.ref (ga G 67)]) rfl rfl (Nat.le_of_ble_eq_true rfl) rfl ?_
        refine v_iald hC isA_67 rfl (by decide +kernel) h (fun v20 h => ?_)
        exact v_iret hC h (by decide +kernel)
      · refine v_blk hC (is := [(.bipush (-4), (-4 : Int32))]) (pc' := 55) (ls' := [(0, .ref (ga G 65)), (1, .int x1), (2, .int x2)]) (st' := [.int (-4 : Int32)]) (by decide +kernel) rfl ?_
        refine v_goto hC (off := 13) (tgt := 68) (by decide +kernel) (by decide) ?_
        exact v_iret hC h (by decide +kernel)
    · refine v_blk hC (is := [(.iconst (-1), (-1 : Int32))]) (pc' := 19) (ls' := [(0, .ref (ga G 65)), (1, .int x1), (2, .int x2)]) (st' := [.int (-1 : Int32)]) (by decide +kernel) rfl ?_
      exact v_iret hC h (by decide +kernel)

def p_X12_lostIn (x1 : Int32) (σ : Mem) : Option (Int32 × Mem) := (bnd (p_X12_isIn x1 (0 : Int32) (60 : Int32) σ) fun v1 s2 => (if v1 = 0 then some ((-1 : Int32), s2) else (bnd (p_X12_copies 66 67 s2) fun (v4 : Unit) s5 => (bnd (p_X12_lostBehind x1 s5) fun v7 s8 => some (v7, s8)))))
set_option maxHeartbeats 4000000 in
set_option maxRecDepth 100000 in
theorem c_X12_lostIn {G : Gl} {x1 : Int32} {σ : Mem} {res : Int32 × Mem}  (h : p_X12_lostIn x1 σ = some res) : MetX G yX12_lostIn cX12_lostIn 2 (some .int) 9 [.ref (ga G 65), .int x1] σ (some (.int res.1)) res.2 := by
  refine met_V (by decide +kernel) (Nat.le_of_ble_eq_true rfl) (fun X hC => ?_)
  have hC : Ok G 9 2 X cX12_lostIn RX12 (some .int) := hC
  unfold p_X12_lostIn at h
  show V G 9 2 X ((some (.int res.1)), res.2) σ [(0, .ref (ga G 65)), (1, .int x1)] [] 0
  refine v_blk hC (is := [(.iload_n 1, 0), (.iconst 0, (0 : Int32)), (.bipush 60, (60 : Int32))]) (pc' := 4) (ls' := [(0, .ref (ga G 65)), (1, .int x1)]) (st' := [.int (60 : Int32), .int (0 : Int32), .int x1]) (by decide +kernel) rfl ?_
  obtain ⟨v1, s2, e3, h⟩ := bndI h
  refine v_cS (idx := 49) hC ⟨tt_at 1118 (by decide +kernel) rfl, tsX12_isIn, tnX12_isIn, tcX12_isIn, tmX12_isIn⟩ (c_X12_isIn e3) (by decide) (by decide) (by decide +kernel) (rest := []) rfl rfl (Nat.le_of_ble_eq_true rfl) rfl ?_
  refine v_if_ne hC (off := 5) (tgt := 12) (by decide +kernel) (by decide) h (fun hq h => ?_) (fun hq h => ?_)
  · refine v_blk hC (is := [(.aload_n 0, 0)]) (pc' := 13) (ls' := [(0, .ref (ga G 65)), (1, .int x1)]) (st' := [.ref (ga G 65)]) (by decide +kernel) rfl ?_
    refine gX12_0 hC lfX12_9 (by decide +kernel) ?_
    refine v_blk hC (is := [(.aload_n 0, 0)]) (pc' := 17) (ls' := [(0, .ref (ga G 65)), (1, .int x1)]) (st' := [.ref (ga G 65), .ref (ga G 66)]) (by decide +kernel) rfl ?_
    refine gX12_1 hC lfX12_13 (by decide +kernel) ?_
    obtain ⟨v4, s5, e6, h⟩ := bndI h
    refine v_cS (idx := 164) hC ⟨tt_at 1133 (by decide +kernel) rfl, tsX12_copies, tnX12_copies, tcX12_copies, tmX12_copies⟩ (c_X12_copies row66 row67 e6) (by decide) (by decide) (by decide +kernel) (rest := []) rfl rfl (Nat.le_of_ble_eq_true rfl) rfl ?_
    refine v_blk hC (is := [(.aload_n 0, 0), (.iload_n 1, 0)]) (pc' := 25) (ls' := [(0, .ref (ga G 65)), (1, .int x1)]) (st' := [.int x1, .ref (ga G 65)]) (by decide +kernel) rfl ?_
    obtain ⟨v7, s8, e9, h⟩ := bndI h
    refine v_cV (idx := 204) hC ⟨tt_at 1354 (by decide +kernel) rfl, tiX12_lostBehind, tvX12_lostBehind, tnX12_lostBehind, tcX12_lostBehind, tmX12_lostBehind⟩ isO_X12 rfl (c_X12_lostBehind e9) (by decide) (by decide) (by decide +kernel) (rest := []) rfl rfl (Nat.le_of_ble_eq_true rfl) rfl ?_
    exact v_iret hC h (by decide +kernel)
  · refine v_blk hC (is := [(.iconst (-1), (-1 : Int32))]) (pc' := 11) (ls' := [(0, .ref (ga G 65)), (1, .int x1)]) (st' := [.int (-1 : Int32)]) (by decide +kernel) rfl ?_
    exact v_iret hC h (by decide +kernel)

def p_X12_unmanned_B50 (k21 : Int32 → Int32 → Mem → Option (Int32 × Mem))  (x1 : Int32) (x2 : Int32) (σ : Mem) : Option (Int32 × Mem) := k21 x1 (x2 + (1 : Int32)) σ
def p_X12_unmanned_B21 (k21 : Int32 → Int32 → Mem → Option (Int32 × Mem)) (k56 : Int32 → Mem → Option (Int32 × Mem))  (x1 : Int32) (x2 : Int32) (σ : Mem) : Option (Int32 × Mem) := (if (3 : Int32) ≤ x2 then k56 x1 σ else (bnd (p_X12_crew 66 x2 σ) fun v1 s2 => (if v1 = 0 then (p_X12_unmanned_B50 k21) x1 x2 s2 else (bnd (p_X12_crew 67 x2 s2) fun v4 s5 => (if v4 = 0 then some (x1, s5) else (p_X12_unmanned_B50 k21) x1 x2 s5)))))
def p_X12_unmanned_L21 (k56 : Int32 → Mem → Option (Int32 × Mem))  : Nat → Int32 → Int32 → Mem → Option (Int32 × Mem)
  | 0 => fun _ _ _ => none
  | f + 1 => p_X12_unmanned_B21 (p_X12_unmanned_L21 k56 f) k56
def p_X12_unmanned_B13 (k13 : Int32 → Mem → Option (Int32 × Mem))  (x1 : Int32) (σ : Mem) : Option (Int32 × Mem) := (if (60 : Int32) < x1 then some ((-4 : Int32), σ) else (p_X12_unmanned_L21 (fun (x1 : Int32) (m7 : Mem) => (bnd (p_X12_season 67 (0 : Int32) m7) fun (v8 : Unit) s9 => k13 (x1 + (1 : Int32)) s9)) 1000) x1 (0 : Int32) σ)
def p_X12_unmanned_L13   : Nat → Int32 → Mem → Option (Int32 × Mem)
  | 0 => fun _ _ => none
  | f + 1 => p_X12_unmanned_B13 (p_X12_unmanned_L13 f)
def p_X12_unmanned  (σ : Mem) : Option (Int32 × Mem) := (bnd (p_X12_copies 66 67 σ) fun (v11 : Unit) s12 => (p_X12_unmanned_L13 1000) (0 : Int32) s12)
set_option maxHeartbeats 4000000 in
set_option maxRecDepth 100000 in
theorem c_X12_unmanned {G : Gl}  {σ : Mem} {res : Int32 × Mem}  (h : p_X12_unmanned  σ = some res) : MetX G yX12_unmanned cX12_unmanned 3 (some .int) 7 [.ref (ga G 65)] σ (some (.int res.1)) res.2 := by
  refine met_V (by decide +kernel) (Nat.le_of_ble_eq_true rfl) (fun X hC => ?_)
  have hC : Ok G 7 3 X cX12_unmanned RX12 (some .int) := hC
  have hB50 : ∀ (k21 : Int32 → Int32 → Mem → Option (Int32 × Mem)), (∀ (x1 : Int32), ∀ (x2 : Int32), ∀ σ : Mem, k21 x1 x2 σ = some res → V G 7 3 X ((some (.int res.1)), res.2) σ [(0, .ref (ga G 65)), (1, .int x1), (2, .int x2)] [] 21) → ∀ (x1 : Int32), ∀ (x2 : Int32), ∀ σ : Mem, p_X12_unmanned_B50 k21  x1 x2 σ = some res → V G 7 3 X ((some (.int res.1)), res.2) σ [(0, .ref (ga G 65)), (1, .int x1), (2, .int x2)] [] 50 := by
    intro k21 hk21 x1 x2 σ h
    unfold p_X12_unmanned_B50 at h
    refine v_blk hC (is := [(.iinc 2 1, (1 : Int32))]) (pc' := 53) (ls' := [(2, .int (x2 + (1 : Int32))), (0, .ref (ga G 65)), (1, .int x1)]) (st' := []) (by decide +kernel) rfl ?_
    refine v_goto hC (off := (-32)) (tgt := 21) (by decide +kernel) (by decide) ?_
    refine v_sub [1, 2, 0] (ls' := [(0, .ref (ga G 65)), (1, .int x1), (2, .int (x2 + (1 : Int32)))]) rfl ?_
    exact hk21 _ _ _ h
  have hB21 : ∀ (k21 : Int32 → Int32 → Mem → Option (Int32 × Mem)), ∀ (k56 : Int32 → Mem → Option (Int32 × Mem)), (∀ (x1 : Int32), ∀ (x2 : Int32), ∀ σ : Mem, k21 x1 x2 σ = some res → V G 7 3 X ((some (.int res.1)), res.2) σ [(0, .ref (ga G 65)), (1, .int x1), (2, .int x2)] [] 21) → (∀ (x1 : Int32), ∀ σ : Mem, k56 x1 σ = some res → V G 7 3 X ((some (.int res.1)), res.2) σ [(0, .ref (ga G 65)), (1, .int x1)] [] 56) → ∀ (x1 : Int32), ∀ (x2 : Int32), ∀ σ : Mem, p_X12_unmanned_B21 k21 k56  x1 x2 σ = some res → V G 7 3 X ((some (.int res.1)), res.2) σ [(0, .ref (ga G 65)), (1, .int x1), (2, .int x2)] [] 21 := by
    intro k21 k56 hk21 hk56 x1 x2 σ h
    unfold p_X12_unmanned_B21 at h
    refine v_blk hC (is := [(.iload_n 2, 0), (.iconst 3, (3 : Int32))]) (pc' := 23) (ls' := [(0, .ref (ga G 65)), (1, .int x1), (2, .int x2)]) (st' := [.int (3 : Int32), .int x2]) (by decide +kernel) rfl ?_
    refine v_icmp_ge hC (off := 33) (tgt := 56) (by decide +kernel) (by decide) h (fun hq h => ?_) (fun hq h => ?_)
    · refine v_sub [0, 1] (ls' := [(0, .ref (ga G 65)), (1, .int x1)]) rfl ?_
      exact hk56 _ _ h
    · refine v_blk hC (is := [(.aload_n 0, 0)]) (pc' := 27) (ls' := [(0, .ref (ga G 65)), (1, .int x1), (2, .int x2)]) (st' := [.ref (ga G 65)]) (by decide +kernel) rfl ?_
      refine gX12_0 hC lfX12_9 (by decide +kernel) ?_
      refine v_blk hC (is := [(.iload_n 2, 0)]) (pc' := 31) (ls' := [(0, .ref (ga G 65)), (1, .int x1), (2, .int x2)]) (st' := [.int x2, .ref (ga G 66)]) (by decide +kernel) rfl ?_
      obtain ⟨v1, s2, e3, h⟩ := bndI h
      refine v_cS (idx := 93) hC ⟨tt_at 1172 (by decide +kernel) rfl, tsX12_crew, tnX12_crew, tcX12_crew, tmX12_crew⟩ (c_X12_crew row66 e3) (by decide) (by decide) (by decide +kernel) (rest := []) rfl rfl (Nat.le_of_ble_eq_true rfl) rfl ?_
      refine v_if_eq hC (off := 16) (tgt := 50) (by decide +kernel) (by decide) h (fun hq h => ?_) (fun hq h => ?_)
      · exact (hB50 _ hk21) _ _ _ h
      · refine v_blk hC (is := [(.aload_n 0, 0)]) (pc' := 38) (ls' := [(0, .ref (ga G 65)), (1, .int x1), (2, .int x2)]) (st' := [.ref (ga G 65)]) (by decide +kernel) rfl ?_
        refine gX12_1 hC lfX12_13 (by decide +kernel) ?_
        refine v_blk hC (is := [(.iload_n 2, 0)]) (pc' := 42) (ls' := [(0, .ref (ga G 65)), (1, .int x1), (2, .int x2)]) (st' := [.int x2, .ref (ga G 67)]) (by decide +kernel) rfl ?_
        obtain ⟨v4, s5, e6, h⟩ := bndI h
        refine v_cS (idx := 93) hC ⟨tt_at 1172 (by decide +kernel) rfl, tsX12_crew, tnX12_crew, tcX12_crew, tmX12_crew⟩ (c_X12_crew row67 e6) (by decide) (by decide) (by decide +kernel) (rest := []) rfl rfl (Nat.le_of_ble_eq_true rfl) rfl ?_
        refine v_if_ne hC (off := 5) (tgt := 50) (by decide +kernel) (by decide) h (fun hq h => ?_) (fun hq h => ?_)
        · exact (hB50 _ hk21) _ _ _ h
        · refine v_blk hC (is := [(.iload_n 1, 0)]) (pc' := 49) (ls' := [(0, .ref (ga G 65)), (1, .int x1), (2, .int x2)]) (st' := [.int x1]) (by decide +kernel) rfl ?_
          exact v_iret hC h (by decide +kernel)
  have hL21 : ∀ (k56 : Int32 → Mem → Option (Int32 × Mem)), (∀ (x1 : Int32), ∀ σ : Mem, k56 x1 σ = some res → V G 7 3 X ((some (.int res.1)), res.2) σ [(0, .ref (ga G 65)), (1, .int x1)] [] 56) → ∀ f : Nat, ∀ (x1 : Int32), ∀ (x2 : Int32), ∀ σ : Mem, p_X12_unmanned_L21 k56  f x1 x2 σ = some res → V G 7 3 X ((some (.int res.1)), res.2) σ [(0, .ref (ga G 65)), (1, .int x1), (2, .int x2)] [] 21 := by
    intro k56 hk56 f
    induction f with
    | zero => intro x1 x2 σ h; exact none_some h
    | succ f ih => intro x1 x2 σ h; exact hB21 (p_X12_unmanned_L21 k56  f) k56 ih hk56 x1 x2 σ h
  have hB13 : ∀ (k13 : Int32 → Mem → Option (Int32 × Mem)), (∀ (x1 : Int32), ∀ σ : Mem, k13 x1 σ = some res → V G 7 3 X ((some (.int res.1)), res.2) σ [(0, .ref (ga G 65)), (1, .int x1)] [] 13) → ∀ (x1 : Int32), ∀ σ : Mem, p_X12_unmanned_B13 k13  x1 σ = some res → V G 7 3 X ((some (.int res.1)), res.2) σ [(0, .ref (ga G 65)), (1, .int x1)] [] 13 := by
    intro k13 hk13 x1 σ h
    unfold p_X12_unmanned_B13 at h
    refine v_blk hC (is := [(.iload_n 1, 0), (.bipush 60, (60 : Int32))]) (pc' := 16) (ls' := [(0, .ref (ga G 65)), (1, .int x1)]) (st' := [.int (60 : Int32), .int x1]) (by decide +kernel) rfl ?_
    refine v_icmp_gt hC (off := 54) (tgt := 70) (by decide +kernel) (by decide) h (fun hq h => ?_) (fun hq h => ?_)
    · refine v_blk hC (is := [(.bipush (-4), (-4 : Int32))]) (pc' := 72) (ls' := [(0, .ref (ga G 65)), (1, .int x1)]) (st' := [.int (-4 : Int32)]) (by decide +kernel) rfl ?_
      exact v_iret hC h (by decide +kernel)
    · refine v_blk hC (is := [(.iconst 0, (0 : Int32)), (.istore_n 2, 0)]) (pc' := 21) (ls' := [(2, .int (0 : Int32)), (0, .ref (ga G 65)), (1, .int x1)]) (st' := []) (by decide +kernel) rfl ?_
      refine v_sub [1, 2, 0] (ls' := [(0, .ref (ga G 65)), (1, .int x1), (2, .int (0 : Int32))]) rfl ?_
      exact (hL21 _ (fun x1  m7 h => by
            refine v_blk hC (is := [(.aload_n 0, 0)]) (pc' := 57) (ls' := [(0, .ref (ga G 65)), (1, .int x1)]) (st' := [.ref (ga G 65)]) (by decide +kernel) rfl ?_
            refine gX12_1 hC lfX12_13 (by decide +kernel) ?_
            refine v_blk hC (is := [(.iconst 0, (0 : Int32))]) (pc' := 61) (ls' := [(0, .ref (ga G 65)), (1, .int x1)]) (st' := [.int (0 : Int32), .ref (ga G 67)]) (by decide +kernel) rfl ?_
            obtain ⟨v8, s9, e10, h⟩ := bndI h
            refine v_cS (idx := 119) hC ⟨tt_at 1163 (by decide +kernel) rfl, tsX12_season, tnX12_season, tcX12_season, tmX12_season⟩ (c_X12_season row67 e10) (by decide) (by decide) (by decide +kernel) (rest := []) rfl rfl (Nat.le_of_ble_eq_true rfl) rfl ?_
            refine v_blk hC (is := [(.iinc 1 1, (1 : Int32))]) (pc' := 67) (ls' := [(1, .int (x1 + (1 : Int32))), (0, .ref (ga G 65))]) (st' := []) (by decide +kernel) rfl ?_
            refine v_goto hC (off := (-54)) (tgt := 13) (by decide +kernel) (by decide) ?_
            refine v_sub [1, 0] (ls' := [(0, .ref (ga G 65)), (1, .int (x1 + (1 : Int32)))]) rfl ?_
            exact hk13 _ _ h) 1000) _ _ _ h
  have hL13 : ∀ f : Nat, ∀ (x1 : Int32), ∀ σ : Mem, p_X12_unmanned_L13  f x1 σ = some res → V G 7 3 X ((some (.int res.1)), res.2) σ [(0, .ref (ga G 65)), (1, .int x1)] [] 13 := by
    intro  f
    induction f with
    | zero => intro x1 σ h; exact none_some h
    | succ f ih => intro x1 σ h; exact hB13 (p_X12_unmanned_L13  f)  ih  x1 σ h
  unfold p_X12_unmanned at h
  show V G 7 3 X ((some (.int res.1)), res.2) σ [(0, .ref (ga G 65))] [] 0
  refine v_blk hC (is := [(.aload_n 0, 0)]) (pc' := 1) (ls' := [(0, .ref (ga G 65))]) (st' := [.ref (ga G 65)]) (by decide +kernel) rfl ?_
  refine gX12_0 hC lfX12_9 (by decide +kernel) ?_
  refine v_blk hC (is := [(.aload_n 0, 0)]) (pc' := 5) (ls' := [(0, .ref (ga G 65))]) (st' := [.ref (ga G 65), .ref (ga G 66)]) (by decide +kernel) rfl ?_
  refine gX12_1 hC lfX12_13 (by decide +kernel) ?_
  obtain ⟨v11, s12, e13, h⟩ := bndI h
  refine v_cS (idx := 164) hC ⟨tt_at 1133 (by decide +kernel) rfl, tsX12_copies, tnX12_copies, tcX12_copies, tmX12_copies⟩ (c_X12_copies row66 row67 e13) (by decide) (by decide) (by decide +kernel) (rest := []) rfl rfl (Nat.le_of_ble_eq_true rfl) rfl ?_
  refine v_blk hC (is := [(.iconst 0, (0 : Int32)), (.istore_n 1, 0)]) (pc' := 13) (ls' := [(1, .int (0 : Int32)), (0, .ref (ga G 65))]) (st' := []) (by decide +kernel) rfl ?_
  refine v_sub [1, 0] (ls' := [(0, .ref (ga G 65)), (1, .int (0 : Int32))]) rfl ?_
  exact (hL13 1000) _ _ h

def p_X12_falls_B43  (x1 : Int32) (x2 : Int32) (x3 : Int32) (σ : Mem) : Option (Int32 × Mem) := some (x3, σ)
def p_X12_falls (x1 : Int32) (x2 : Int32) (σ : Mem) : Option (Int32 × Mem) := (bnd (p_X12_isBoat x1 σ) fun v1 s2 => (if v1 = 0 then some ((-1 : Int32), s2) else (bnd (p_X12_isIn x2 (0 : Int32) (1 : Int32) s2) fun v4 s5 => (if v4 = 0 then some ((-1 : Int32), s5) else (if (3 : Int32) < 0 ∨ 100 ≤ ((3 : Int32)).toNatClampNeg then none else lt (s5 66 ((3 : Int32)).toNatClampNeg) fun v7 => (bnd (p_X12_fallsIn 66 x1 (v7 + (1 : Int32)) s5) fun v8 s9 => (if v8 < 0 then (p_X12_falls_B43 x1 x2) v8 s9 else (if x2 = 0 then (p_X12_falls_B43 x1 x2) v8 s9 else (if (3 : Int32) < 0 ∨ 100 ≤ ((3 : Int32)).toNatClampNeg then none else lt (s9 66 ((3 : Int32)).toNatClampNeg) fun v11 => (bnd (p_X12_saverOf 66 x1 v8 (v11 + (1 : Int32)) s9) fun v12 s13 => some (v12, s13)))))))))))
set_option maxHeartbeats 4000000 in
set_option maxRecDepth 100000 in
theorem c_X12_falls {G : Gl} {x1 : Int32} {x2 : Int32} {σ : Mem} {res : Int32 × Mem}  (h : p_X12_falls x1 x2 σ = some res) : MetX G yX12_falls cX12_falls 4 (some .int) 4 [.ref (ga G 65), .int x1, .int x2] σ (some (.int res.1)) res.2 := by
  refine met_V (by decide +kernel) (Nat.le_of_ble_eq_true rfl) (fun X hC => ?_)
  have hC : Ok G 4 4 X cX12_falls RX12 (some .int) := hC
  have hB43 : ∀ (x3 : Int32), ∀ σ : Mem, p_X12_falls_B43 x1 x2 x3 σ = some res → V G 4 4 X ((some (.int res.1)), res.2) σ [(3, .int x3)] [] 43 := by
    intro x3 σ h
    unfold p_X12_falls_B43 at h
    refine v_blk hC (is := [(.iload_n 3, 0)]) (pc' := 44) (ls' := [(3, .int x3)]) (st' := [.int x3]) (by decide +kernel) rfl ?_
    refine v_goto hC (off := 20) (tgt := 64) (by decide +kernel) (by decide) ?_
    exact v_iret hC h (by decide +kernel)
  unfold p_X12_falls at h
  show V G 4 4 X ((some (.int res.1)), res.2) σ [(0, .ref (ga G 65)), (1, .int x1), (2, .int x2)] [] 0
  refine v_blk hC (is := [(.iload_n 1, 0)]) (pc' := 1) (ls' := [(0, .ref (ga G 65)), (1, .int x1), (2, .int x2)]) (st' := [.int x1]) (by decide +kernel) rfl ?_
  obtain ⟨v1, s2, e3, h⟩ := bndI h
  refine v_cS (idx := 154) hC ⟨tt_at 1157 (by decide +kernel) rfl, tsX12_isBoat, tnX12_isBoat, tcX12_isBoat, tmX12_isBoat⟩ (c_X12_isBoat e3) (by decide) (by decide) (by decide +kernel) (rest := []) rfl rfl (Nat.le_of_ble_eq_true rfl) rfl ?_
  refine v_if_eq hC (off := 12) (tgt := 16) (by decide +kernel) (by decide) h (fun hq h => ?_) (fun hq h => ?_)
  · refine v_blk hC (is := [(.iconst (-1), (-1 : Int32))]) (pc' := 17) (ls' := [(0, .ref (ga G 65)), (1, .int x1), (2, .int x2)]) (st' := [.int (-1 : Int32)]) (by decide +kernel) rfl ?_
    exact v_iret hC h (by decide +kernel)
  · refine v_blk hC (is := [(.iload_n 2, 0), (.iconst 0, (0 : Int32)), (.iconst 1, (1 : Int32))]) (pc' := 10) (ls' := [(0, .ref (ga G 65)), (1, .int x1), (2, .int x2)]) (st' := [.int (1 : Int32), .int (0 : Int32), .int x2]) (by decide +kernel) rfl ?_
    obtain ⟨v4, s5, e6, h⟩ := bndI h
    refine v_cS (idx := 49) hC ⟨tt_at 1118 (by decide +kernel) rfl, tsX12_isIn, tnX12_isIn, tcX12_isIn, tmX12_isIn⟩ (c_X12_isIn e6) (by decide) (by decide) (by decide +kernel) (rest := []) rfl rfl (Nat.le_of_ble_eq_true rfl) rfl ?_
    refine v_if_ne hC (off := 5) (tgt := 18) (by decide +kernel) (by decide) h (fun hq h => ?_) (fun hq h => ?_)
    · refine v_blk hC (is := [(.aload_n 0, 0)]) (pc' := 19) (ls' := [(0, .ref (ga G 65)), (1, .int x1), (2, .int x2)]) (st' := [.ref (ga G 65)]) (by decide +kernel) rfl ?_
      refine gX12_0 hC lfX12_9 (by decide +kernel) ?_
      refine v_blk hC (is := [(.iload_n 1, 0), (.aload_n 0, 0)]) (pc' := 24) (ls' := [(0, .ref (ga G 65)), (1, .int x1), (2, .int x2)]) (st' := [.ref (ga G 65), .int x1, .ref (ga G 66)]) (by decide +kernel) rfl ?_
      refine gX12_0 hC lfX12_9 (by decide +kernel) ?_
      refine v_blk hC (is := [(.iconst 3, (3 : Int32))]) (pc' := 28) (ls' := [(0, .ref (ga G 65)), (1, .int x1), (2, .int x2)]) (st' := [.int (3 : Int32), .ref (ga G 66), .int x1, .ref (ga G 66)]) (by decide +kernel) rfl ?_
      refine v_iald hC isA_66 rfl (by decide +kernel) h (fun v7 h => ?_)
      refine v_blk hC (is := [(.iconst 1, (1 : Int32)), (.iadd, 0)]) (pc' := 31) (ls' := [(0, .ref (ga G 65)), (1, .int x1), (2, .int x2)]) (st' := [.int (v7 + (1 : Int32)), .int x1, .ref (ga G 66)]) (by decide +kernel) rfl ?_
      obtain ⟨v8, s9, e10, h⟩ := bndI h
      refine v_cS (idx := 104) hC ⟨tt_at 1169 (by decide +kernel) rfl, tsX12_fallsIn, tnX12_fallsIn, tcX12_fallsIn, tmX12_fallsIn⟩ (c_X12_fallsIn row66 e10) (by decide) (by decide) (by decide +kernel) (rest := []) rfl rfl (Nat.le_of_ble_eq_true rfl) rfl ?_
      refine v_blk hC (is := [(.istore_n 3, 0), (.iload_n 3, 0)]) (pc' := 36) (ls' := [(3, .int v8), (0, .ref (ga G 65)), (1, .int x1), (2, .int x2)]) (st' := [.int v8]) (by decide +kernel) rfl ?_
      refine v_if_lt hC (off := 7) (tgt := 43) (by decide +kernel) (by decide) h (fun hq h => ?_) (fun hq h => ?_)
      · refine v_sub [0] (ls' := [(3, .int v8)]) rfl ?_
        exact (hB43 ) _ _ h
      · refine v_blk hC (is := [(.iload_n 2, 0)]) (pc' := 40) (ls' := [(3, .int v8), (0, .ref (ga G 65)), (1, .int x1), (2, .int x2)]) (st' := [.int x2]) (by decide +kernel) rfl ?_
        refine v_if_ne hC (off := 7) (tgt := 47) (by decide +kernel) (by decide) h (fun hq h => ?_) (fun hq h => ?_)
        · refine v_blk hC (is := [(.aload_n 0, 0)]) (pc' := 48) (ls' := [(3, .int v8), (0, .ref (ga G 65)), (1, .int x1), (2, .int x2)]) (st' := [.ref (ga G 65)]) (by decide +kernel) rfl ?_
          refine gX12_0 hC lfX12_9 (by decide +kernel) ?_
          refine v_blk hC (is := [(.iload_n 1, 0), (.iload_n 3, 0), (.aload_n 0, 0)]) (pc' := 54) (ls' := [(3, .int v8), (0, .ref (ga G 65)), (1, .int x1), (2, .int x2)]) (st' := [.ref (ga G 65), .int v8, .int x1, .ref (ga G 66)]) (by decide +kernel) rfl ?_
          refine gX12_0 hC lfX12_9 (by decide +kernel) ?_
          refine v_blk hC (is := [(.iconst 3, (3 : Int32))]) (pc' := 58) (ls' := [(3, .int v8), (0, .ref (ga G 65)), (1, .int x1), (2, .int x2)]) (st' := [.int (3 : Int32), .ref (ga G 66), .int v8, .int x1, .ref (ga G 66)]) (by decide +kernel) rfl ?_
          refine v_iald hC isA_66 rfl (by decide +kernel) h (fun v11 h => ?_)
          refine v_blk hC (is := [(.iconst 1, (1 : Int32)), (.iadd, 0)]) (pc' := 61) (ls' := [(3, .int v8), (0, .ref (ga G 65)), (1, .int x1), (2, .int x2)]) (st' := [.int (v11 + (1 : Int32)), .int v8, .int x1, .ref (ga G 66)]) (by decide +kernel) rfl ?_
          obtain ⟨v12, s13, e14, h⟩ := bndI h
          refine v_cS (idx := 107) hC ⟨tt_at 1184 (by decide +kernel) rfl, tsX12_saverOf, tnX12_saverOf, tcX12_saverOf, tmX12_saverOf⟩ (c_X12_saverOf row66 e14) (by decide) (by decide) (by decide +kernel) (rest := []) rfl rfl (Nat.le_of_ble_eq_true rfl) rfl ?_
          exact v_iret hC h (by decide +kernel)
        · refine v_sub [0] (ls' := [(3, .int v8)]) rfl ?_
          exact (hB43 ) _ _ h
    · refine v_blk hC (is := [(.iconst (-1), (-1 : Int32))]) (pc' := 17) (ls' := [(0, .ref (ga G 65)), (1, .int x1), (2, .int x2)]) (st' := [.int (-1 : Int32)]) (by decide +kernel) rfl ?_
      exact v_iret hC h (by decide +kernel)

def p_X12_keepAshore_B111 (k35 : Int32 → Int32 → Int32 → Mem → Option (Int32 × Mem)) (x1 : Int32) (x2 : Int32) (x3 : Int32) (x4 : Int32) (σ : Mem) : Option (Int32 × Mem) := k35 x2 x3 (x4 + (1 : Int32)) σ
def p_X12_keepAshore_B35 (k35 : Int32 → Int32 → Int32 → Mem → Option (Int32 × Mem)) (x1 : Int32) (x2 : Int32) (x3 : Int32) (x4 : Int32) (σ : Mem) : Option (Int32 × Mem) := (if (0 : Int32) < 0 ∨ 100 ≤ ((0 : Int32)).toNatClampNeg then none else lt (σ 66 ((0 : Int32)).toNatClampNeg) fun v1 => (if v1 ≤ x4 then some (x3, σ) else (bnd (p_X12_of x4 (2 : Int32) σ) fun v2 s3 => (if v2 < 0 ∨ 100 ≤ (v2).toNatClampNeg then none else lt (s3 66 (v2).toNatClampNeg) fun v5 => (if v5 = (9 : Int32) then (p_X12_keepAshore_B111 k35 x1) x2 x3 x4 s3 else (bnd (p_X12_copies 66 67 s3) fun (v6 : Unit) s7 => (bnd (p_X12_of x4 (2 : Int32) s7) fun v9 s10 => (if v9 < 0 ∨ 100 ≤ (v9).toNatClampNeg then none else wr s10 67 (v9).toNatClampNeg (9 : Int32) fun s12 => (bnd (p_X12_lostBehind x1 s12) fun v13 s14 => (if v13 < x2 then (p_X12_keepAshore_B111 k35 x1) v13 x4 x4 s14 else (p_X12_keepAshore_B111 k35 x1) x2 x3 x4 s14))))))))))
def p_X12_keepAshore_L35  (x1 : Int32) : Nat → Int32 → Int32 → Int32 → Mem → Option (Int32 × Mem)
  | 0 => fun _ _ _ _ => none
  | f + 1 => p_X12_keepAshore_B35 (p_X12_keepAshore_L35 x1 f) x1
def p_X12_keepAshore (x1 : Int32) (σ : Mem) : Option (Int32 × Mem) := (bnd (p_X12_isIn x1 (0 : Int32) (60 : Int32) σ) fun v16 s17 => (if v16 = 0 then some ((-1 : Int32), s17) else (bnd (p_X12_copies 66 67 s17) fun (v19 : Unit) s20 => (bnd (p_X12_lostBehind x1 s20) fun v22 s23 => (p_X12_keepAshore_L35 x1 1000) v22 (-4 : Int32) (0 : Int32) s23))))
set_option maxHeartbeats 4000000 in
set_option maxRecDepth 100000 in
theorem c_X12_keepAshore {G : Gl} {x1 : Int32} {σ : Mem} {res : Int32 × Mem}  (h : p_X12_keepAshore x1 σ = some res) : MetX G yX12_keepAshore cX12_keepAshore 6 (some .int) 9 [.ref (ga G 65), .int x1] σ (some (.int res.1)) res.2 := by
  refine met_V (by decide +kernel) (Nat.le_of_ble_eq_true rfl) (fun X hC => ?_)
  have hC : Ok G 9 6 X cX12_keepAshore RX12 (some .int) := hC
  have hB111 : ∀ (k35 : Int32 → Int32 → Int32 → Mem → Option (Int32 × Mem)), (∀ (x2 : Int32), ∀ (x3 : Int32), ∀ (x4 : Int32), ∀ σ : Mem, k35 x2 x3 x4 σ = some res → V G 9 6 X ((some (.int res.1)), res.2) σ [(0, .ref (ga G 65)), (1, .int x1), (2, .int x2), (3, .int x3), (4, .int x4)] [] 35) → ∀ (x2 : Int32), ∀ (x3 : Int32), ∀ (x4 : Int32), ∀ σ : Mem, p_X12_keepAshore_B111 k35 x1 x2 x3 x4 σ = some res → V G 9 6 X ((some (.int res.1)), res.2) σ [(0, .ref (ga G 65)), (1, .int x1), (2, .int x2), (3, .int x3), (4, .int x4)] [] 111 := by
    intro k35 hk35 x2 x3 x4 σ h
    unfold p_X12_keepAshore_B111 at h
    refine v_blk hC (is := [(.iinc 4 1, (1 : Int32))]) (pc' := 114) (ls' := [(4, .int (x4 + (1 : Int32))), (0, .ref (ga G 65)), (1, .int x1), (2, .int x2), (3, .int x3)]) (st' := []) (by decide +kernel) rfl ?_
    refine v_goto hC (off := (-79)) (tgt := 35) (by decide +kernel) (by decide) ?_
    refine v_sub [1, 2, 3, 4, 0] (ls' := [(0, .ref (ga G 65)), (1, .int x1), (2, .int x2), (3, .int x3), (4, .int (x4 + (1 : Int32)))]) rfl ?_
    exact hk35 _ _ _ _ h
  have hB35 : ∀ (k35 : Int32 → Int32 → Int32 → Mem → Option (Int32 × Mem)), (∀ (x2 : Int32), ∀ (x3 : Int32), ∀ (x4 : Int32), ∀ σ : Mem, k35 x2 x3 x4 σ = some res → V G 9 6 X ((some (.int res.1)), res.2) σ [(0, .ref (ga G 65)), (1, .int x1), (2, .int x2), (3, .int x3), (4, .int x4)] [] 35) → ∀ (x2 : Int32), ∀ (x3 : Int32), ∀ (x4 : Int32), ∀ σ : Mem, p_X12_keepAshore_B35 k35 x1 x2 x3 x4 σ = some res → V G 9 6 X ((some (.int res.1)), res.2) σ [(0, .ref (ga G 65)), (1, .int x1), (2, .int x2), (3, .int x3), (4, .int x4)] [] 35 := by
    intro k35 hk35 x2 x3 x4 σ h
    unfold p_X12_keepAshore_B35 at h
    refine v_blk hC (is := [(.iload 4, 0), (.aload_n 0, 0)]) (pc' := 38) (ls' := [(0, .ref (ga G 65)), (1, .int x1), (2, .int x2), (3, .int x3), (4, .int x4)]) (st' := [.ref (ga G 65), .int x4]) (by decide +kernel) rfl ?_
    refine gX12_0 hC lfX12_9 (by decide +kernel) ?_
    refine v_blk hC (is := [(.iconst 0, (0 : Int32))]) (pc' := 42) (ls' := [(0, .ref (ga G 65)), (1, .int x1), (2, .int x2), (3, .int x3), (4, .int x4)]) (st' := [.int (0 : Int32), .ref (ga G 66), .int x4]) (by decide +kernel) rfl ?_
    refine v_iald hC isA_66 rfl (by decide +kernel) h (fun v1 h => ?_)
    refine v_icmp_ge hC (off := 74) (tgt := 117) (by decide +kernel) (by decide) h (fun hq h => ?_) (fun hq h => ?_)
    · refine v_blk hC (is := [(.iload_n 3, 0)]) (pc' := 118) (ls' := [(0, .ref (ga G 65)), (1, .int x1), (2, .int x2), (3, .int x3), (4, .int x4)]) (st' := [.int x3]) (by decide +kernel) rfl ?_
      exact v_iret hC h (by decide +kernel)
    · refine v_blk hC (is := [(.aload_n 0, 0)]) (pc' := 47) (ls' := [(0, .ref (ga G 65)), (1, .int x1), (2, .int x2), (3, .int x3), (4, .int x4)]) (st' := [.ref (ga G 65)]) (by decide +kernel) rfl ?_
      refine gX12_0 hC lfX12_9 (by decide +kernel) ?_
      refine v_blk hC (is := [(.iload 4, 0), (.iconst 2, (2 : Int32))]) (pc' := 53) (ls' := [(0, .ref (ga G 65)), (1, .int x1), (2, .int x2), (3, .int x3), (4, .int x4)]) (st' := [.int (2 : Int32), .int x4, .ref (ga G 66)]) (by decide +kernel) rfl ?_
      obtain ⟨v2, s3, e4, h⟩ := bndI h
      refine v_cS (idx := 57) hC ⟨tt_at 1143 (by decide +kernel) rfl, tsX12_of, tnX12_of, tcX12_of, tmX12_of⟩ (c_X12_of e4) (by decide) (by decide) (by decide +kernel) (rest := [.ref (ga G 66)]) rfl rfl (Nat.le_of_ble_eq_true rfl) rfl ?_
      refine v_iald hC isA_66 rfl (by decide +kernel) h (fun v5 h => ?_)
      refine v_blk hC (is := [(.bipush 9, (9 : Int32))]) (pc' := 59) (ls' := [(0, .ref (ga G 65)), (1, .int x1), (2, .int x2), (3, .int x3), (4, .int x4)]) (st' := [.int (9 : Int32), .int v5]) (by decide +kernel) rfl ?_
      refine v_icmp_ne hC (off := 6) (tgt := 65) (by decide +kernel) (by decide) h (fun hq h => ?_) (fun hq h => ?_)
      · refine v_blk hC (is := [(.aload_n 0, 0)]) (pc' := 66) (ls' := [(0, .ref (ga G 65)), (1, .int x1), (2, .int x2), (3, .int x3), (4, .int x4)]) (st' := [.ref (ga G 65)]) (by decide +kernel) rfl ?_
        refine gX12_0 hC lfX12_9 (by decide +kernel) ?_
        refine v_blk hC (is := [(.aload_n 0, 0)]) (pc' := 70) (ls' := [(0, .ref (ga G 65)), (1, .int x1), (2, .int x2), (3, .int x3), (4, .int x4)]) (st' := [.ref (ga G 65), .ref (ga G 66)]) (by decide +kernel) rfl ?_
        refine gX12_1 hC lfX12_13 (by decide +kernel) ?_
        obtain ⟨v6, s7, e8, h⟩ := bndI h
        refine v_cS (idx := 164) hC ⟨tt_at 1133 (by decide +kernel) rfl, tsX12_copies, tnX12_copies, tcX12_copies, tmX12_copies⟩ (c_X12_copies row66 row67 e8) (by decide) (by decide) (by decide +kernel) (rest := []) rfl rfl (Nat.le_of_ble_eq_true rfl) rfl ?_
        refine v_blk hC (is := [(.aload_n 0, 0)]) (pc' := 77) (ls' := [(0, .ref (ga G 65)), (1, .int x1), (2, .int x2), (3, .int x3), (4, .int x4)]) (st' := [.ref (ga G 65)]) (by decide +kernel) rfl ?_
        refine gX12_1 hC lfX12_13 (by decide +kernel) ?_
        refine v_blk hC (is := [(.iload 4, 0), (.iconst 2, (2 : Int32))]) (pc' := 83) (ls' := [(0, .ref (ga G 65)), (1, .int x1), (2, .int x2), (3, .int x3), (4, .int x4)]) (st' := [.int (2 : Int32), .int x4, .ref (ga G 67)]) (by decide +kernel) rfl ?_
        obtain ⟨v9, s10, e11, h⟩ := bndI h
        refine v_cS (idx := 57) hC ⟨tt_at 1143 (by decide +kernel) rfl, tsX12_of, tnX12_of, tcX12_of, tmX12_of⟩ (c_X12_of e11) (by decide) (by decide) (by decide +kernel) (rest := [.ref (ga G 67)]) rfl rfl (Nat.le_of_ble_eq_true rfl) rfl ?_
        refine v_blk hC (is := [(.bipush 9, (9 : Int32))]) (pc' := 88) (ls' := [(0, .ref (ga G 65)), (1, .int x1), (2, .int x2), (3, .int x3), (4, .int x4)]) (st' := [.int (9 : Int32), .int v9, .ref (ga G 67)]) (by decide +kernel) rfl ?_
        refine v_iast hC isA_67 rfl (by decide +kernel) h (fun s12 h => ?_)
        refine v_blk hC (is := [(.aload_n 0, 0), (.iload_n 1, 0)]) (pc' := 91) (ls' := [(0, .ref (ga G 65)), (1, .int x1), (2, .int x2), (3, .int x3), (4, .int x4)]) (st' := [.int x1, .ref (ga G 65)]) (by decide +kernel) rfl ?_
        obtain ⟨v13, s14, e15, h⟩ := bndI h
        refine v_cV (idx := 204) hC ⟨tt_at 1354 (by decide +kernel) rfl, tiX12_lostBehind, tvX12_lostBehind, tnX12_lostBehind, tcX12_lostBehind, tmX12_lostBehind⟩ isO_X12 rfl (c_X12_lostBehind e15) (by decide) (by decide) (by decide +kernel) (rest := []) rfl rfl (Nat.le_of_ble_eq_true rfl) rfl ?_
        refine v_blk hC (is := [(.istore 5, 0), (.iload 5, 0), (.iload_n 2, 0)]) (pc' := 99) (ls' := [(5, .int v13), (0, .ref (ga G 65)), (1, .int x1), (2, .int x2), (3, .int x3), (4, .int x4)]) (st' := [.int x2, .int v13]) (by decide +kernel) rfl ?_
        refine v_icmp_lt hC (off := 6) (tgt := 105) (by decide +kernel) (by decide) h (fun hq h => ?_) (fun hq h => ?_)
        · refine v_blk hC (is := [(.iload 4, 0), (.istore_n 3, 0), (.iload 5, 0), (.istore_n 2, 0)]) (pc' := 111) (ls' := [(2, .int v13), (3, .int x4), (5, .int v13), (0, .ref (ga G 65)), (1, .int x1), (4, .int x4)]) (st' := []) (by decide +kernel) rfl ?_
          refine v_sub [3, 4, 0, 1, 5] (ls' := [(0, .ref (ga G 65)), (1, .int x1), (2, .int v13), (3, .int x4), (4, .int x4)]) rfl ?_
          exact (hB111 _ hk35) _ _ _ _ h
        · refine v_goto hC (off := 9) (tgt := 111) (by decide +kernel) (by decide) ?_
          refine v_sub [1, 2, 3, 4, 5] (ls' := [(0, .ref (ga G 65)), (1, .int x1), (2, .int x2), (3, .int x3), (4, .int x4)]) rfl ?_
          exact (hB111 _ hk35) _ _ _ _ h
      · refine v_goto hC (off := 49) (tgt := 111) (by decide +kernel) (by decide) ?_
        exact (hB111 _ hk35) _ _ _ _ h
  have hL35 : ∀ f : Nat, ∀ (x2 : Int32), ∀ (x3 : Int32), ∀ (x4 : Int32), ∀ σ : Mem, p_X12_keepAshore_L35 x1 f x2 x3 x4 σ = some res → V G 9 6 X ((some (.int res.1)), res.2) σ [(0, .ref (ga G 65)), (1, .int x1), (2, .int x2), (3, .int x3), (4, .int x4)] [] 35 := by
    intro  f
    induction f with
    | zero => intro x2 x3 x4 σ h; exact none_some h
    | succ f ih => intro x2 x3 x4 σ h; exact hB35 (p_X12_keepAshore_L35 x1 f)  ih  x2 x3 x4 σ h
  unfold p_X12_keepAshore at h
  show V G 9 6 X ((some (.int res.1)), res.2) σ [(0, .ref (ga G 65)), (1, .int x1)] [] 0
  refine v_blk hC (is := [(.iload_n 1, 0), (.iconst 0, (0 : Int32)), (.bipush 60, (60 : Int32))]) (pc' := 4) (ls' := [(0, .ref (ga G 65)), (1, .int x1)]) (st' := [.int (60 : Int32), .int (0 : Int32), .int x1]) (by decide +kernel) rfl ?_
  obtain ⟨v16, s17, e18, h⟩ := bndI h
  refine v_cS (idx := 49) hC ⟨tt_at 1118 (by decide +kernel) rfl, tsX12_isIn, tnX12_isIn, tcX12_isIn, tmX12_isIn⟩ (c_X12_isIn e18) (by decide) (by decide) (by decide +kernel) (rest := []) rfl rfl (Nat.le_of_ble_eq_true rfl) rfl ?_
  refine v_if_ne hC (off := 5) (tgt := 12) (by decide +kernel) (by decide) h (fun hq h => ?_) (fun hq h => ?_)
  · refine v_blk hC (is := [(.aload_n 0, 0)]) (pc' := 13) (ls' := [(0, .ref (ga G 65)), (1, .int x1)]) (st' := [.ref (ga G 65)]) (by decide +kernel) rfl ?_
    refine gX12_0 hC lfX12_9 (by decide +kernel) ?_
    refine v_blk hC (is := [(.aload_n 0, 0)]) (pc' := 17) (ls' := [(0, .ref (ga G 65)), (1, .int x1)]) (st' := [.ref (ga G 65), .ref (ga G 66)]) (by decide +kernel) rfl ?_
    refine gX12_1 hC lfX12_13 (by decide +kernel) ?_
    obtain ⟨v19, s20, e21, h⟩ := bndI h
    refine v_cS (idx := 164) hC ⟨tt_at 1133 (by decide +kernel) rfl, tsX12_copies, tnX12_copies, tcX12_copies, tmX12_copies⟩ (c_X12_copies row66 row67 e21) (by decide) (by decide) (by decide +kernel) (rest := []) rfl rfl (Nat.le_of_ble_eq_true rfl) rfl ?_
    refine v_blk hC (is := [(.aload_n 0, 0), (.iload_n 1, 0)]) (pc' := 25) (ls' := [(0, .ref (ga G 65)), (1, .int x1)]) (st' := [.int x1, .ref (ga G 65)]) (by decide +kernel) rfl ?_
    obtain ⟨v22, s23, e24, h⟩ := bndI h
    refine v_cV (idx := 204) hC ⟨tt_at 1354 (by decide +kernel) rfl, tiX12_lostBehind, tvX12_lostBehind, tnX12_lostBehind, tcX12_lostBehind, tmX12_lostBehind⟩ isO_X12 rfl (c_X12_lostBehind e24) (by decide) (by decide) (by decide +kernel) (rest := []) rfl rfl (Nat.le_of_ble_eq_true rfl) rfl ?_
    refine v_blk hC (is := [(.istore_n 2, 0), (.bipush (-4), (-4 : Int32)), (.istore_n 3, 0), (.iconst 0, (0 : Int32)), (.istore 4, 0)]) (pc' := 35) (ls' := [(4, .int (0 : Int32)), (3, .int (-4 : Int32)), (2, .int v22), (0, .ref (ga G 65)), (1, .int x1)]) (st' := []) (by decide +kernel) rfl ?_
    refine v_sub [3, 4, 2, 1, 0] (ls' := [(0, .ref (ga G 65)), (1, .int x1), (2, .int v22), (3, .int (-4 : Int32)), (4, .int (0 : Int32))]) rfl ?_
    exact (hL35 1000) _ _ _ _ h
  · refine v_blk hC (is := [(.iconst (-1), (-1 : Int32))]) (pc' := 11) (ls' := [(0, .ref (ga G 65)), (1, .int x1)]) (st' := [.int (-1 : Int32)]) (by decide +kernel) rfl ?_
    exact v_iret hC h (by decide +kernel)

def p_X12_calm_B14 (k14 : Int32 → Mem → Option (Int32 × Mem)) (x1 : Int32) (x2 : Int32) (σ : Mem) : Option (Int32 × Mem) := (if (10 : Int32) ≤ x2 then some ((-4 : Int32), σ) else (bnd (p_X12_copies 66 67 σ) fun (v1 : Unit) s2 => (if (2 : Int32) < 0 ∨ 100 ≤ ((2 : Int32)).toNatClampNeg then none else wr s2 67 ((2 : Int32)).toNatClampNeg x2 fun s4 => (bnd (p_X12_lostBehind x1 s4) fun v5 s6 => (bnd (p_X12_lostSet 66 s6) fun v8 s9 => (bnd (p_X12_bits v8 s9) fun v11 s12 => (if v5 = v11 then some (x2, s12) else k14 (x2 + (1 : Int32)) s12)))))))
def p_X12_calm_L14  (x1 : Int32) : Nat → Int32 → Mem → Option (Int32 × Mem)
  | 0 => fun _ _ => none
  | f + 1 => p_X12_calm_B14 (p_X12_calm_L14 x1 f) x1
def p_X12_calm (x1 : Int32) (σ : Mem) : Option (Int32 × Mem) := (bnd (p_X12_isIn x1 (0 : Int32) (60 : Int32) σ) fun v14 s15 => (if v14 = 0 then some ((-1 : Int32), s15) else (p_X12_calm_L14 x1 1000) (0 : Int32) s15))
set_option maxHeartbeats 4000000 in
set_option maxRecDepth 100000 in
theorem c_X12_calm {G : Gl} {x1 : Int32} {σ : Mem} {res : Int32 × Mem}  (h : p_X12_calm x1 σ = some res) : MetX G yX12_calm cX12_calm 3 (some .int) 9 [.ref (ga G 65), .int x1] σ (some (.int res.1)) res.2 := by
  refine met_V (by decide +kernel) (Nat.le_of_ble_eq_true rfl) (fun X hC => ?_)
  have hC : Ok G 9 3 X cX12_calm RX12 (some .int) := hC
  have hB14 : ∀ (k14 : Int32 → Mem → Option (Int32 × Mem)), (∀ (x2 : Int32), ∀ σ : Mem, k14 x2 σ = some res → V G 9 3 X ((some (.int res.1)), res.2) σ [(0, .ref (ga G 65)), (1, .int x1), (2, .int x2)] [] 14) → ∀ (x2 : Int32), ∀ σ : Mem, p_X12_calm_B14 k14 x1 x2 σ = some res → V G 9 3 X ((some (.int res.1)), res.2) σ [(0, .ref (ga G 65)), (1, .int x1), (2, .int x2)] [] 14 := by
    intro k14 hk14 x2 σ h
    unfold p_X12_calm_B14 at h
    refine v_blk hC (is := [(.iload_n 2, 0), (.bipush 10, (10 : Int32))]) (pc' := 17) (ls' := [(0, .ref (ga G 65)), (1, .int x1), (2, .int x2)]) (st' := [.int (10 : Int32), .int x2]) (by decide +kernel) rfl ?_
    refine v_icmp_ge hC (off := 47) (tgt := 64) (by decide +kernel) (by decide) h (fun hq h => ?_) (fun hq h => ?_)
    · refine v_blk hC (is := [(.bipush (-4), (-4 : Int32))]) (pc' := 66) (ls' := [(0, .ref (ga G 65)), (1, .int x1), (2, .int x2)]) (st' := [.int (-4 : Int32)]) (by decide +kernel) rfl ?_
      exact v_iret hC h (by decide +kernel)
    · refine v_blk hC (is := [(.aload_n 0, 0)]) (pc' := 21) (ls' := [(0, .ref (ga G 65)), (1, .int x1), (2, .int x2)]) (st' := [.ref (ga G 65)]) (by decide +kernel) rfl ?_
      refine gX12_0 hC lfX12_9 (by decide +kernel) ?_
      refine v_blk hC (is := [(.aload_n 0, 0)]) (pc' := 25) (ls' := [(0, .ref (ga G 65)), (1, .int x1), (2, .int x2)]) (st' := [.ref (ga G 65), .ref (ga G 66)]) (by decide +kernel) rfl ?_
      refine gX12_1 hC lfX12_13 (by decide +kernel) ?_
      obtain ⟨v1, s2, e3, h⟩ := bndI h
      refine v_cS (idx := 164) hC ⟨tt_at 1133 (by decide +kernel) rfl, tsX12_copies, tnX12_copies, tcX12_copies, tmX12_copies⟩ (c_X12_copies row66 row67 e3) (by decide) (by decide) (by decide +kernel) (rest := []) rfl rfl (Nat.le_of_ble_eq_true rfl) rfl ?_
      refine v_blk hC (is := [(.aload_n 0, 0)]) (pc' := 32) (ls' := [(0, .ref (ga G 65)), (1, .int x1), (2, .int x2)]) (st' := [.ref (ga G 65)]) (by decide +kernel) rfl ?_
      refine gX12_1 hC lfX12_13 (by decide +kernel) ?_
      refine v_blk hC (is := [(.iconst 2, (2 : Int32)), (.iload_n 2, 0)]) (pc' := 37) (ls' := [(0, .ref (ga G 65)), (1, .int x1), (2, .int x2)]) (st' := [.int x2, .int (2 : Int32), .ref (ga G 67)]) (by decide +kernel) rfl ?_
      refine v_iast hC isA_67 rfl (by decide +kernel) h (fun s4 h => ?_)
      refine v_blk hC (is := [(.aload_n 0, 0), (.iload_n 1, 0)]) (pc' := 40) (ls' := [(0, .ref (ga G 65)), (1, .int x1), (2, .int x2)]) (st' := [.int x1, .ref (ga G 65)]) (by decide +kernel) rfl ?_
      obtain ⟨v5, s6, e7, h⟩ := bndI h
      refine v_cV (idx := 204) hC ⟨tt_at 1354 (by decide +kernel) rfl, tiX12_lostBehind, tvX12_lostBehind, tnX12_lostBehind, tcX12_lostBehind, tmX12_lostBehind⟩ isO_X12 rfl (c_X12_lostBehind e7) (by decide) (by decide) (by decide +kernel) (rest := []) rfl rfl (Nat.le_of_ble_eq_true rfl) rfl ?_
      refine v_blk hC (is := [(.aload_n 0, 0)]) (pc' := 44) (ls' := [(0, .ref (ga G 65)), (1, .int x1), (2, .int x2)]) (st' := [.ref (ga G 65), .int v5]) (by decide +kernel) rfl ?_
      refine gX12_0 hC lfX12_9 (by decide +kernel) ?_
      obtain ⟨v8, s9, e10, h⟩ := bndI h
      refine v_cS (idx := 89) hC ⟨tt_at 1246 (by decide +kernel) rfl, tsX12_lostSet, tnX12_lostSet, tcX12_lostSet, tmX12_lostSet⟩ (c_X12_lostSet row66 e10) (by decide) (by decide) (by decide +kernel) (rest := [.int v5]) rfl rfl (Nat.le_of_ble_eq_true rfl) rfl ?_
      obtain ⟨v11, s12, e13, h⟩ := bndI h
      refine v_cS (idx := 126) hC ⟨tt_at 1249 (by decide +kernel) rfl, tsX12_bits, tnX12_bits, tcX12_bits, tmX12_bits⟩ (c_X12_bits e13) (by decide) (by decide) (by decide +kernel) (rest := [.int v5]) rfl rfl (Nat.le_of_ble_eq_true rfl) rfl ?_
      refine v_icmp_ne hC (off := 5) (tgt := 58) (by decide +kernel) (by decide) h (fun hq h => ?_) (fun hq h => ?_)
      · refine v_blk hC (is := [(.iinc 2 1, (1 : Int32))]) (pc' := 61) (ls' := [(2, .int (x2 + (1 : Int32))), (0, .ref (ga G 65)), (1, .int x1)]) (st' := []) (by decide +kernel) rfl ?_
        refine v_goto hC (off := (-47)) (tgt := 14) (by decide +kernel) (by decide) ?_
        refine v_sub [1, 2, 0] (ls' := [(0, .ref (ga G 65)), (1, .int x1), (2, .int (x2 + (1 : Int32)))]) rfl ?_
        exact hk14 _ _ h
      · refine v_blk hC (is := [(.iload_n 2, 0)]) (pc' := 57) (ls' := [(0, .ref (ga G 65)), (1, .int x1), (2, .int x2)]) (st' := [.int x2]) (by decide +kernel) rfl ?_
        exact v_iret hC h (by decide +kernel)
  have hL14 : ∀ f : Nat, ∀ (x2 : Int32), ∀ σ : Mem, p_X12_calm_L14 x1 f x2 σ = some res → V G 9 3 X ((some (.int res.1)), res.2) σ [(0, .ref (ga G 65)), (1, .int x1), (2, .int x2)] [] 14 := by
    intro  f
    induction f with
    | zero => intro x2 σ h; exact none_some h
    | succ f ih => intro x2 σ h; exact hB14 (p_X12_calm_L14 x1 f)  ih  x2 σ h
  unfold p_X12_calm at h
  show V G 9 3 X ((some (.int res.1)), res.2) σ [(0, .ref (ga G 65)), (1, .int x1)] [] 0
  refine v_blk hC (is := [(.iload_n 1, 0), (.iconst 0, (0 : Int32)), (.bipush 60, (60 : Int32))]) (pc' := 4) (ls' := [(0, .ref (ga G 65)), (1, .int x1)]) (st' := [.int (60 : Int32), .int (0 : Int32), .int x1]) (by decide +kernel) rfl ?_
  obtain ⟨v14, s15, e16, h⟩ := bndI h
  refine v_cS (idx := 49) hC ⟨tt_at 1118 (by decide +kernel) rfl, tsX12_isIn, tnX12_isIn, tcX12_isIn, tmX12_isIn⟩ (c_X12_isIn e16) (by decide) (by decide) (by decide +kernel) (rest := []) rfl rfl (Nat.le_of_ble_eq_true rfl) rfl ?_
  refine v_if_ne hC (off := 5) (tgt := 12) (by decide +kernel) (by decide) h (fun hq h => ?_) (fun hq h => ?_)
  · refine v_blk hC (is := [(.iconst 0, (0 : Int32)), (.istore_n 2, 0)]) (pc' := 14) (ls' := [(2, .int (0 : Int32)), (0, .ref (ga G 65)), (1, .int x1)]) (st' := []) (by decide +kernel) rfl ?_
    refine v_sub [1, 2, 0] (ls' := [(0, .ref (ga G 65)), (1, .int x1), (2, .int (0 : Int32))]) rfl ?_
    exact (hL14 1000) _ _ h
  · refine v_blk hC (is := [(.iconst (-1), (-1 : Int32))]) (pc' := 11) (ls' := [(0, .ref (ga G 65)), (1, .int x1)]) (st' := [.int (-1 : Int32)]) (by decide +kernel) rfl ?_
    exact v_iret hC h (by decide +kernel)

def p_X12_stranger_B110 (k69 : Int32 → Int32 → Int32 → Int32 → Int32 → Int32 → Mem → Option (Int32 × Mem)) (x1 : Int32) (x2 : Int32) (x3 : Int32) (x4 : Int32) (x5 : Int32) (x6 : Int32) (x8 : Int32) (t0 : Int32) (t1 : Int32) (σ : Mem) : Option (Int32 × Mem) := k69 x3 x4 x5 x6 (t0 &&& t1) (x8 + (1 : Int32)) σ
def p_X12_stranger_B105 (k69 : Int32 → Int32 → Int32 → Int32 → Int32 → Int32 → Mem → Option (Int32 × Mem)) (x1 : Int32) (x2 : Int32) (x3 : Int32) (x4 : Int32) (x5 : Int32) (x6 : Int32) (x8 : Int32) (t0 : Int32) (σ : Mem) : Option (Int32 × Mem) := (p_X12_stranger_B110 k69 x1 x2) x3 x4 x5 x6 x8 t0 (1 : Int32) σ
def p_X12_stranger_B147 (k46 : Int32 → Int32 → Int32 → Mem → Option (Int32 × Mem)) (x1 : Int32) (x2 : Int32) (x3 : Int32) (x4 : Int32) (x5 : Int32) (σ : Mem) : Option (Int32 × Mem) := k46 x3 x4 (x5 + (1 : Int32)) σ
def p_X12_stranger_B69 (k69 : Int32 → Int32 → Int32 → Int32 → Int32 → Int32 → Mem → Option (Int32 × Mem)) (k119 : Int32 → Int32 → Int32 → Int32 → Int32 → Mem → Option (Int32 × Mem)) (x1 : Int32) (x2 : Int32) (x3 : Int32) (x4 : Int32) (x5 : Int32) (x6 : Int32) (x7 : Int32) (x8 : Int32) (σ : Mem) : Option (Int32 × Mem) := (if (0 : Int32) < 0 ∨ 100 ≤ ((0 : Int32)).toNatClampNeg then none else lt (σ 66 ((0 : Int32)).toNatClampNeg) fun v1 => (if v1 ≤ x8 then k119 x3 x4 x5 x6 x7 σ else (bnd (p_X12_has x6 x8 σ) fun v2 s3 => (if v2 = 0 then (p_X12_stranger_B105 k69 x1 x2) x3 x4 x5 x6 x8 x7 s3 else (bnd (p_X12_mayIn 66 x1 x8 s3) fun v5 s6 => (if v5 = 0 then (p_X12_stranger_B110 k69 x1 x2) x3 x4 x5 x6 x8 x7 (0 : Int32) s6 else (p_X12_stranger_B105 k69 x1 x2) x3 x4 x5 x6 x8 x7 s6))))))
def p_X12_stranger_L69 (k119 : Int32 → Int32 → Int32 → Int32 → Int32 → Mem → Option (Int32 × Mem)) (x1 : Int32) (x2 : Int32) : Nat → Int32 → Int32 → Int32 → Int32 → Int32 → Int32 → Mem → Option (Int32 × Mem)
  | 0 => fun _ _ _ _ _ _ _ => none
  | f + 1 => p_X12_stranger_B69 (p_X12_stranger_L69 k119 x1 x2 f) k119 x1 x2
def p_X12_stranger_B161  (x1 : Int32) (x2 : Int32) (x3 : Int32) (σ : Mem) : Option (Int32 × Mem) := some (x3, σ)
def p_X12_stranger_B46 (k46 : Int32 → Int32 → Int32 → Mem → Option (Int32 × Mem)) (k153 : Int32 → Int32 → Mem → Option (Int32 × Mem)) (x1 : Int32) (x2 : Int32) (x3 : Int32) (x4 : Int32) (x5 : Int32) (σ : Mem) : Option (Int32 × Mem) := (if (3 : Int32) ≤ x5 then k153 x3 x4 σ else (bnd (p_X12_crew 66 x5 σ) fun v8 s9 => (p_X12_stranger_L69 (fun (x3 : Int32) (x4 : Int32) (x5 : Int32) (x6 : Int32) (x7 : Int32) (m11 : Mem) => (if x7 = 0 then (p_X12_stranger_B147 k46 x1 x2) x3 x4 x5 m11 else (bnd (p_X12_bits x6 m11) fun v12 s13 => (if x4 < v12 then (bnd (p_X12_bits x6 s13) fun v15 s16 => (p_X12_stranger_B147 k46 x1 x2) x5 v15 x5 s16) else (p_X12_stranger_B147 k46 x1 x2) x3 x4 x5 s13)))) x1 x2 1000) x3 x4 x5 v8 (1 : Int32) (0 : Int32) s9))
def p_X12_stranger_L46 (k153 : Int32 → Int32 → Mem → Option (Int32 × Mem)) (x1 : Int32) (x2 : Int32) : Nat → Int32 → Int32 → Int32 → Mem → Option (Int32 × Mem)
  | 0 => fun _ _ _ _ => none
  | f + 1 => p_X12_stranger_B46 (p_X12_stranger_L46 k153 x1 x2 f) k153 x1 x2
def p_X12_stranger (x1 : Int32) (x2 : Int32) (σ : Mem) : Option (Int32 × Mem) := (bnd (p_X12_isMan x1 σ) fun v18 s19 => (if v18 = 0 then some ((-1 : Int32), s19) else (bnd (p_X12_isIn x2 (0 : Int32) (1 : Int32) s19) fun v21 s22 => (if v21 = 0 then some ((-1 : Int32), s22) else (bnd (p_X12_of x1 (2 : Int32) s22) fun v24 s25 => (if v24 < 0 ∨ 100 ≤ (v24).toNatClampNeg then none else lt (s25 66 (v24).toNatClampNeg) fun v27 => (if v27 = (9 : Int32) then (p_X12_stranger_L46 (fun (x3 : Int32) (x4 : Int32) (m28 : Mem) => (if x3 < 0 then (p_X12_stranger_B161 x1 x2) x3 m28 else (if x2 = 0 then (p_X12_stranger_B161 x1 x2) x3 m28 else some (x4, m28)))) x1 x2 1000) (-4 : Int32) (0 : Int32) (0 : Int32) s25 else some ((-3 : Int32), s25))))))))
set_option maxHeartbeats 4000000 in
set_option maxRecDepth 100000 in
theorem c_X12_stranger {G : Gl} {x1 : Int32} {x2 : Int32} {σ : Mem} {res : Int32 × Mem}  (h : p_X12_stranger x1 x2 σ = some res) : MetX G yX12_stranger cX12_stranger 9 (some .int) 5 [.ref (ga G 65), .int x1, .int x2] σ (some (.int res.1)) res.2 := by
  refine met_V (by decide +kernel) (Nat.le_of_ble_eq_true rfl) (fun X hC => ?_)
  have hC : Ok G 5 9 X cX12_stranger RX12 (some .int) := hC
  have hB110 : ∀ (k69 : Int32 → Int32 → Int32 → Int32 → Int32 → Int32 → Mem → Option (Int32 × Mem)), (∀ (x3 : Int32), ∀ (x4 : Int32), ∀ (x5 : Int32), ∀ (x6 : Int32), ∀ (x7 : Int32), ∀ (x8 : Int32), ∀ σ : Mem, k69 x3 x4 x5 x6 x7 x8 σ = some res → V G 5 9 X ((some (.int res.1)), res.2) σ [(0, .ref (ga G 65)), (1, .int x1), (2, .int x2), (3, .int x3), (4, .int x4), (5, .int x5), (6, .int x6), (7, .int x7), (8, .int x8)] [] 69) → ∀ (x3 : Int32), ∀ (x4 : Int32), ∀ (x5 : Int32), ∀ (x6 : Int32), ∀ (x8 : Int32), ∀ (t0 : Int32), ∀ (t1 : Int32), ∀ σ : Mem, p_X12_stranger_B110 k69 x1 x2 x3 x4 x5 x6 x8 t0 t1 σ = some res → V G 5 9 X ((some (.int res.1)), res.2) σ [(0, .ref (ga G 65)), (1, .int x1), (2, .int x2), (3, .int x3), (4, .int x4), (5, .int x5), (6, .int x6), (8, .int x8)] [.int t1, .int t0] 110 := by
    intro k69 hk69 x3 x4 x5 x6 x8 t0 t1 σ h
    unfold p_X12_stranger_B110 at h
    refine v_blk hC (is := [(.iand, 0), (.istore 7, 0), (.iinc 8 1, (1 : Int32))]) (pc' := 116) (ls' := [(8, .int (x8 + (1 : Int32))), (7, .int (t0 &&& t1)), (0, .ref (ga G 65)), (1, .int x1), (2, .int x2), (3, .int x3), (4, .int x4), (5, .int x5), (6, .int x6)]) (st' := []) (by decide +kernel) rfl ?_
    refine v_goto hC (off := (-47)) (tgt := 69) (by decide +kernel) (by decide) ?_
    refine v_sub [2, 3, 4, 5, 6, 7, 8, 1, 0] (ls' := [(0, .ref (ga G 65)), (1, .int x1), (2, .int x2), (3, .int x3), (4, .int x4), (5, .int x5), (6, .int x6), (7, .int (t0 &&& t1)), (8, .int (x8 + (1 : Int32)))]) rfl ?_
    exact hk69 _ _ _ _ _ _ _ h
  have hB105 : ∀ (k69 : Int32 → Int32 → Int32 → Int32 → Int32 → Int32 → Mem → Option (Int32 × Mem)), (∀ (x3 : Int32), ∀ (x4 : Int32), ∀ (x5 : Int32), ∀ (x6 : Int32), ∀ (x7 : Int32), ∀ (x8 : Int32), ∀ σ : Mem, k69 x3 x4 x5 x6 x7 x8 σ = some res → V G 5 9 X ((some (.int res.1)), res.2) σ [(0, .ref (ga G 65)), (1, .int x1), (2, .int x2), (3, .int x3), (4, .int x4), (5, .int x5), (6, .int x6), (7, .int x7), (8, .int x8)] [] 69) → ∀ (x3 : Int32), ∀ (x4 : Int32), ∀ (x5 : Int32), ∀ (x6 : Int32), ∀ (x8 : Int32), ∀ (t0 : Int32), ∀ σ : Mem, p_X12_stranger_B105 k69 x1 x2 x3 x4 x5 x6 x8 t0 σ = some res → V G 5 9 X ((some (.int res.1)), res.2) σ [(0, .ref (ga G 65)), (1, .int x1), (2, .int x2), (3, .int x3), (4, .int x4), (5, .int x5), (6, .int x6), (8, .int x8)] [.int t0] 105 := by
    intro k69 hk69 x3 x4 x5 x6 x8 t0 σ h
    unfold p_X12_stranger_B105 at h
    refine v_blk hC (is := [(.iconst 1, (1 : Int32))]) (pc' := 106) (ls' := [(0, .ref (ga G 65)), (1, .int x1), (2, .int x2), (3, .int x3), (4, .int x4), (5, .int x5), (6, .int x6), (8, .int x8)]) (st' := [.int (1 : Int32), .int t0]) (by decide +kernel) rfl ?_
    refine v_goto hC (off := 4) (tgt := 110) (by decide +kernel) (by decide) ?_
    exact (hB110 _ hk69) _ _ _ _ _ _ _ _ h
  have hB147 : ∀ (k46 : Int32 → Int32 → Int32 → Mem → Option (Int32 × Mem)), (∀ (x3 : Int32), ∀ (x4 : Int32), ∀ (x5 : Int32), ∀ σ : Mem, k46 x3 x4 x5 σ = some res → V G 5 9 X ((some (.int res.1)), res.2) σ [(0, .ref (ga G 65)), (1, .int x1), (2, .int x2), (3, .int x3), (4, .int x4), (5, .int x5)] [] 46) → ∀ (x3 : Int32), ∀ (x4 : Int32), ∀ (x5 : Int32), ∀ σ : Mem, p_X12_stranger_B147 k46 x1 x2 x3 x4 x5 σ = some res → V G 5 9 X ((some (.int res.1)), res.2) σ [(0, .ref (ga G 65)), (1, .int x1), (2, .int x2), (3, .int x3), (4, .int x4), (5, .int x5)] [] 147 := by
    intro k46 hk46 x3 x4 x5 σ h
    unfold p_X12_stranger_B147 at h
    refine v_blk hC (is := [(.iinc 5 1, (1 : Int32))]) (pc' := 150) (ls' := [(5, .int (x5 + (1 : Int32))), (0, .ref (ga G 65)), (1, .int x1), (2, .int x2), (3, .int x3), (4, .int x4)]) (st' := []) (by decide +kernel) rfl ?_
    refine v_goto hC (off := (-104)) (tgt := 46) (by decide +kernel) (by decide) ?_
    refine v_sub [1, 2, 3, 4, 5, 0] (ls' := [(0, .ref (ga G 65)), (1, .int x1), (2, .int x2), (3, .int x3), (4, .int x4), (5, .int (x5 + (1 : Int32)))]) rfl ?_
    exact hk46 _ _ _ _ h
  have hB69 : ∀ (k69 : Int32 → Int32 → Int32 → Int32 → Int32 → Int32 → Mem → Option (Int32 × Mem)), ∀ (k119 : Int32 → Int32 → Int32 → Int32 → Int32 → Mem → Option (Int32 × Mem)), (∀ (x3 : Int32), ∀ (x4 : Int32), ∀ (x5 : Int32), ∀ (x6 : Int32), ∀ (x7 : Int32), ∀ (x8 : Int32), ∀ σ : Mem, k69 x3 x4 x5 x6 x7 x8 σ = some res → V G 5 9 X ((some (.int res.1)), res.2) σ [(0, .ref (ga G 65)), (1, .int x1), (2, .int x2), (3, .int x3), (4, .int x4), (5, .int x5), (6, .int x6), (7, .int x7), (8, .int x8)] [] 69) → (∀ (x3 : Int32), ∀ (x4 : Int32), ∀ (x5 : Int32), ∀ (x6 : Int32), ∀ (x7 : Int32), ∀ σ : Mem, k119 x3 x4 x5 x6 x7 σ = some res → V G 5 9 X ((some (.int res.1)), res.2) σ [(0, .ref (ga G 65)), (1, .int x1), (2, .int x2), (3, .int x3), (4, .int x4), (5, .int x5), (6, .int x6), (7, .int x7)] [] 119) → ∀ (x3 : Int32), ∀ (x4 : Int32), ∀ (x5 : Int32), ∀ (x6 : Int32), ∀ (x7 : Int32), ∀ (x8 : Int32), ∀ σ : Mem, p_X12_stranger_B69 k69 k119 x1 x2 x3 x4 x5 x6 x7 x8 σ = some res → V G 5 9 X ((some (.int res.1)), res.2) σ [(0, .ref (ga G 65)), (1, .int x1), (2, .int x2), (3, .int x3), (4, .int x4), (5, .int x5), (6, .int x6), (7, .int x7), (8, .int x8)] [] 69 := by
    intro k69 k119 hk69 hk119 x3 x4 x5 x6 x7 x8 σ h
    unfold p_X12_stranger_B69 at h
    refine v_blk hC (is := [(.iload 8, 0), (.aload_n 0, 0)]) (pc' := 72) (ls' := [(0, .ref (ga G 65)), (1, .int x1), (2, .int x2), (3, .int x3), (4, .int x4), (5, .int x5), (6, .int x6), (7, .int x7), (8, .int x8)]) (st' := [.ref (ga G 65), .int x8]) (by decide +kernel) rfl ?_
    refine gX12_0 hC lfX12_9 (by decide +kernel) ?_
    refine v_blk hC (is := [(.iconst 0, (0 : Int32))]) (pc' := 76) (ls' := [(0, .ref (ga G 65)), (1, .int x1), (2, .int x2), (3, .int x3), (4, .int x4), (5, .int x5), (6, .int x6), (7, .int x7), (8, .int x8)]) (st' := [.int (0 : Int32), .ref (ga G 66), .int x8]) (by decide +kernel) rfl ?_
    refine v_iald hC isA_66 rfl (by decide +kernel) h (fun v1 h => ?_)
    refine v_icmp_ge hC (off := 42) (tgt := 119) (by decide +kernel) (by decide) h (fun hq h => ?_) (fun hq h => ?_)
    · refine v_sub [0, 1, 2, 3, 4, 5, 6, 7] (ls' := [(0, .ref (ga G 65)), (1, .int x1), (2, .int x2), (3, .int x3), (4, .int x4), (5, .int x5), (6, .int x6), (7, .int x7)]) rfl ?_
      exact hk119 _ _ _ _ _ _ h
    · refine v_blk hC (is := [(.iload 7, 0), (.iload 6, 0), (.iload 8, 0)]) (pc' := 86) (ls' := [(0, .ref (ga G 65)), (1, .int x1), (2, .int x2), (3, .int x3), (4, .int x4), (5, .int x5), (6, .int x6), (7, .int x7), (8, .int x8)]) (st' := [.int x8, .int x6, .int x7]) (by decide +kernel) rfl ?_
      obtain ⟨v2, s3, e4, h⟩ := bndI h
      refine v_cS (idx := 85) hC ⟨tt_at 1175 (by decide +kernel) rfl, tsX12_has, tnX12_has, tcX12_has, tmX12_has⟩ (c_X12_has e4) (by decide) (by decide) (by decide +kernel) (rest := [.int x7]) rfl rfl (Nat.le_of_ble_eq_true rfl) rfl ?_
      refine v_if_eq hC (off := 16) (tgt := 105) (by decide +kernel) (by decide) h (fun hq h => ?_) (fun hq h => ?_)
      · refine v_sub [0, 1, 2, 3, 4, 5, 6, 8] (ls' := [(0, .ref (ga G 65)), (1, .int x1), (2, .int x2), (3, .int x3), (4, .int x4), (5, .int x5), (6, .int x6), (8, .int x8)]) rfl ?_
        exact (hB105 _ hk69) _ _ _ _ _ _ _ h
      · refine v_blk hC (is := [(.aload_n 0, 0)]) (pc' := 93) (ls' := [(0, .ref (ga G 65)), (1, .int x1), (2, .int x2), (3, .int x3), (4, .int x4), (5, .int x5), (6, .int x6), (7, .int x7), (8, .int x8)]) (st' := [.ref (ga G 65), .int x7]) (by decide +kernel) rfl ?_
        refine gX12_0 hC lfX12_9 (by decide +kernel) ?_
        refine v_blk hC (is := [(.iload_n 1, 0), (.iload 8, 0)]) (pc' := 99) (ls' := [(0, .ref (ga G 65)), (1, .int x1), (2, .int x2), (3, .int x3), (4, .int x4), (5, .int x5), (6, .int x6), (7, .int x7), (8, .int x8)]) (st' := [.int x8, .int x1, .ref (ga G 66), .int x7]) (by decide +kernel) rfl ?_
        obtain ⟨v5, s6, e7, h⟩ := bndI h
        refine v_cS (idx := 111) hC ⟨tt_at 1193 (by decide +kernel) rfl, tsX12_mayIn, tnX12_mayIn, tcX12_mayIn, tmX12_mayIn⟩ (c_X12_mayIn row66 e7) (by decide) (by decide) (by decide +kernel) (rest := [.int x7]) rfl rfl (Nat.le_of_ble_eq_true rfl) rfl ?_
        refine v_if_eq hC (off := 7) (tgt := 109) (by decide +kernel) (by decide) h (fun hq h => ?_) (fun hq h => ?_)
        · refine v_blk hC (is := [(.iconst 0, (0 : Int32))]) (pc' := 110) (ls' := [(0, .ref (ga G 65)), (1, .int x1), (2, .int x2), (3, .int x3), (4, .int x4), (5, .int x5), (6, .int x6), (7, .int x7), (8, .int x8)]) (st' := [.int (0 : Int32), .int x7]) (by decide +kernel) rfl ?_
          refine v_sub [0, 1, 2, 3, 4, 5, 6, 8] (ls' := [(0, .ref (ga G 65)), (1, .int x1), (2, .int x2), (3, .int x3), (4, .int x4), (5, .int x5), (6, .int x6), (8, .int x8)]) rfl ?_
          exact (hB110 _ hk69) _ _ _ _ _ _ _ _ h
        · refine v_sub [0, 1, 2, 3, 4, 5, 6, 8] (ls' := [(0, .ref (ga G 65)), (1, .int x1), (2, .int x2), (3, .int x3), (4, .int x4), (5, .int x5), (6, .int x6), (8, .int x8)]) rfl ?_
          exact (hB105 _ hk69) _ _ _ _ _ _ _ h
  have hL69 : ∀ (k119 : Int32 → Int32 → Int32 → Int32 → Int32 → Mem → Option (Int32 × Mem)), (∀ (x3 : Int32), ∀ (x4 : Int32), ∀ (x5 : Int32), ∀ (x6 : Int32), ∀ (x7 : Int32), ∀ σ : Mem, k119 x3 x4 x5 x6 x7 σ = some res → V G 5 9 X ((some (.int res.1)), res.2) σ [(0, .ref (ga G 65)), (1, .int x1), (2, .int x2), (3, .int x3), (4, .int x4), (5, .int x5), (6, .int x6), (7, .int x7)] [] 119) → ∀ f : Nat, ∀ (x3 : Int32), ∀ (x4 : Int32), ∀ (x5 : Int32), ∀ (x6 : Int32), ∀ (x7 : Int32), ∀ (x8 : Int32), ∀ σ : Mem, p_X12_stranger_L69 k119 x1 x2 f x3 x4 x5 x6 x7 x8 σ = some res → V G 5 9 X ((some (.int res.1)), res.2) σ [(0, .ref (ga G 65)), (1, .int x1), (2, .int x2), (3, .int x3), (4, .int x4), (5, .int x5), (6, .int x6), (7, .int x7), (8, .int x8)] [] 69 := by
    intro k119 hk119 f
    induction f with
    | zero => intro x3 x4 x5 x6 x7 x8 σ h; exact none_some h
    | succ f ih => intro x3 x4 x5 x6 x7 x8 σ h; exact hB69 (p_X12_stranger_L69 k119 x1 x2 f) k119 ih hk119 x3 x4 x5 x6 x7 x8 σ h
  have hB161 : ∀ (x3 : Int32), ∀ σ : Mem, p_X12_stranger_B161 x1 x2 x3 σ = some res → V G 5 9 X ((some (.int res.1)), res.2) σ [(3, .int x3)] [] 161 := by
    intro x3 σ h
    unfold p_X12_stranger_B161 at h
    refine v_blk hC (is := [(.iload_n 3, 0)]) (pc' := 162) (ls' := [(3, .int x3)]) (st' := [.int x3]) (by decide +kernel) rfl ?_
    refine v_goto hC (off := 5) (tgt := 167) (by decide +kernel) (by decide) ?_
    exact v_iret hC h (by decide +kernel)
  have hB46 : ∀ (k46 : Int32 → Int32 → Int32 → Mem → Option (Int32 × Mem)), ∀ (k153 : Int32 → Int32 → Mem → Option (Int32 × Mem)), (∀ (x3 : Int32), ∀ (x4 : Int32), ∀ (x5 : Int32), ∀ σ : Mem, k46 x3 x4 x5 σ = some res → V G 5 9 X ((some (.int res.1)), res.2) σ [(0, .ref (ga G 65)), (1, .int x1), (2, .int x2), (3, .int x3), (4, .int x4), (5, .int x5)] [] 46) → (∀ (x3 : Int32), ∀ (x4 : Int32), ∀ σ : Mem, k153 x3 x4 σ = some res → V G 5 9 X ((some (.int res.1)), res.2) σ [(2, .int x2), (3, .int x3), (4, .int x4)] [] 153) → ∀ (x3 : Int32), ∀ (x4 : Int32), ∀ (x5 : Int32), ∀ σ : Mem, p_X12_stranger_B46 k46 k153 x1 x2 x3 x4 x5 σ = some res → V G 5 9 X ((some (.int res.1)), res.2) σ [(0, .ref (ga G 65)), (1, .int x1), (2, .int x2), (3, .int x3), (4, .int x4), (5, .int x5)] [] 46 := by
    intro k46 k153 hk46 hk153 x3 x4 x5 σ h
    unfold p_X12_stranger_B46 at h
    refine v_blk hC (is := [(.iload 5, 0), (.iconst 3, (3 : Int32))]) (pc' := 49) (ls' := [(0, .ref (ga G 65)), (1, .int x1), (2, .int x2), (3, .int x3), (4, .int x4), (5, .int x5)]) (st' := [.int (3 : Int32), .int x5]) (by decide +kernel) rfl ?_
    refine v_icmp_ge hC (off := 104) (tgt := 153) (by decide +kernel) (by decide) h (fun hq h => ?_) (fun hq h => ?_)
    · refine v_sub [2, 3, 4] (ls' := [(2, .int x2), (3, .int x3), (4, .int x4)]) rfl ?_
      exact hk153 _ _ _ h
    · refine v_blk hC (is := [(.aload_n 0, 0)]) (pc' := 53) (ls' := [(0, .ref (ga G 65)), (1, .int x1), (2, .int x2), (3, .int x3), (4, .int x4), (5, .int x5)]) (st' := [.ref (ga G 65)]) (by decide +kernel) rfl ?_
      refine gX12_0 hC lfX12_9 (by decide +kernel) ?_
      refine v_blk hC (is := [(.iload 5, 0)]) (pc' := 58) (ls' := [(0, .ref (ga G 65)), (1, .int x1), (2, .int x2), (3, .int x3), (4, .int x4), (5, .int x5)]) (st' := [.int x5, .ref (ga G 66)]) (by decide +kernel) rfl ?_
      obtain ⟨v8, s9, e10, h⟩ := bndI h
      refine v_cS (idx := 93) hC ⟨tt_at 1172 (by decide +kernel) rfl, tsX12_crew, tnX12_crew, tcX12_crew, tmX12_crew⟩ (c_X12_crew row66 e10) (by decide) (by decide) (by decide +kernel) (rest := []) rfl rfl (Nat.le_of_ble_eq_true rfl) rfl ?_
      refine v_blk hC (is := [(.istore 6, 0), (.iconst 1, (1 : Int32)), (.istore 7, 0), (.iconst 0, (0 : Int32)), (.istore 8, 0)]) (pc' := 69) (ls' := [(8, .int (0 : Int32)), (7, .int (1 : Int32)), (6, .int v8), (0, .ref (ga G 65)), (1, .int x1), (2, .int x2), (3, .int x3), (4, .int x4), (5, .int x5)]) (st' := []) (by decide +kernel) rfl ?_
      refine v_sub [3, 4, 5, 6, 7, 8, 2, 1, 0] (ls' := [(0, .ref (ga G 65)), (1, .int x1), (2, .int x2), (3, .int x3), (4, .int x4), (5, .int x5), (6, .int v8), (7, .int (1 : Int32)), (8, .int (0 : Int32))]) rfl ?_
      exact (hL69 _ (fun x3 x4 x5 x6 x7  m11 h => by
            refine v_blk hC (is := [(.iload 7, 0)]) (pc' := 121) (ls' := [(0, .ref (ga G 65)), (1, .int x1), (2, .int x2), (3, .int x3), (4, .int x4), (5, .int x5), (6, .int x6), (7, .int x7)]) (st' := [.int x7]) (by decide +kernel) rfl ?_
            refine v_if_eq hC (off := 26) (tgt := 147) (by decide +kernel) (by decide) h (fun hq h => ?_) (fun hq h => ?_)
            · refine v_sub [0, 1, 2, 3, 4, 5] (ls' := [(0, .ref (ga G 65)), (1, .int x1), (2, .int x2), (3, .int x3), (4, .int x4), (5, .int x5)]) rfl ?_
              exact (hB147 _ hk46) _ _ _ _ h
            · refine v_blk hC (is := [(.iload 6, 0)]) (pc' := 126) (ls' := [(0, .ref (ga G 65)), (1, .int x1), (2, .int x2), (3, .int x3), (4, .int x4), (5, .int x5), (6, .int x6), (7, .int x7)]) (st' := [.int x6]) (by decide +kernel) rfl ?_
              obtain ⟨v12, s13, e14, h⟩ := bndI h
              refine v_cS (idx := 126) hC ⟨tt_at 1249 (by decide +kernel) rfl, tsX12_bits, tnX12_bits, tcX12_bits, tmX12_bits⟩ (c_X12_bits e14) (by decide) (by decide) (by decide +kernel) (rest := []) rfl rfl (Nat.le_of_ble_eq_true rfl) rfl ?_
              refine v_blk hC (is := [(.iload 4, 0)]) (pc' := 131) (ls' := [(0, .ref (ga G 65)), (1, .int x1), (2, .int x2), (3, .int x3), (4, .int x4), (5, .int x5), (6, .int x6), (7, .int x7)]) (st' := [.int x4, .int v12]) (by decide +kernel) rfl ?_
              refine v_icmp_gt hC (off := 6) (tgt := 137) (by decide +kernel) (by decide) h (fun hq h => ?_) (fun hq h => ?_)
              · refine v_blk hC (is := [(.iload 5, 0), (.istore_n 3, 0), (.iload 6, 0)]) (pc' := 142) (ls' := [(3, .int x5), (0, .ref (ga G 65)), (1, .int x1), (2, .int x2), (4, .int x4), (5, .int x5), (6, .int x6), (7, .int x7)]) (st' := [.int x6]) (by decide +kernel) rfl ?_
                obtain ⟨v15, s16, e17, h⟩ := bndI h
                refine v_cS (idx := 126) hC ⟨tt_at 1249 (by decide +kernel) rfl, tsX12_bits, tnX12_bits, tcX12_bits, tmX12_bits⟩ (c_X12_bits e17) (by decide) (by decide) (by decide +kernel) (rest := []) rfl rfl (Nat.le_of_ble_eq_true rfl) rfl ?_
                refine v_blk hC (is := [(.istore 4, 0)]) (pc' := 147) (ls' := [(4, .int v15), (3, .int x5), (0, .ref (ga G 65)), (1, .int x1), (2, .int x2), (5, .int x5), (6, .int x6), (7, .int x7)]) (st' := []) (by decide +kernel) rfl ?_
                refine v_sub [2, 3, 4, 1, 0, 5] (ls' := [(0, .ref (ga G 65)), (1, .int x1), (2, .int x2), (3, .int x5), (4, .int v15), (5, .int x5)]) rfl ?_
                exact (hB147 _ hk46) _ _ _ _ h
              · refine v_goto hC (off := 13) (tgt := 147) (by decide +kernel) (by decide) ?_
                refine v_sub [0, 1, 2, 3, 4, 5] (ls' := [(0, .ref (ga G 65)), (1, .int x1), (2, .int x2), (3, .int x3), (4, .int x4), (5, .int x5)]) rfl ?_
                exact (hB147 _ hk46) _ _ _ _ h) 1000) _ _ _ _ _ _ _ h
  have hL46 : ∀ (k153 : Int32 → Int32 → Mem → Option (Int32 × Mem)), (∀ (x3 : Int32), ∀ (x4 : Int32), ∀ σ : Mem, k153 x3 x4 σ = some res → V G 5 9 X ((some (.int res.1)), res.2) σ [(2, .int x2), (3, .int x3), (4, .int x4)] [] 153) → ∀ f : Nat, ∀ (x3 : Int32), ∀ (x4 : Int32), ∀ (x5 : Int32), ∀ σ : Mem, p_X12_stranger_L46 k153 x1 x2 f x3 x4 x5 σ = some res → V G 5 9 X ((some (.int res.1)), res.2) σ [(0, .ref (ga G 65)), (1, .int x1), (2, .int x2), (3, .int x3), (4, .int x4), (5, .int x5)] [] 46 := by
    intro k153 hk153 f
    induction f with
    | zero => intro x3 x4 x5 σ h; exact none_some h
    | succ f ih => intro x3 x4 x5 σ h; exact hB46 (p_X12_stranger_L46 k153 x1 x2 f) k153 ih hk153 x3 x4 x5 σ h
  unfold p_X12_stranger at h
  show V G 5 9 X ((some (.int res.1)), res.2) σ [(0, .ref (ga G 65)), (1, .int x1), (2, .int x2)] [] 0
  refine v_blk hC (is := [(.aload_n 0, 0), (.iload_n 1, 0)]) (pc' := 2) (ls' := [(0, .ref (ga G 65)), (1, .int x1), (2, .int x2)]) (st' := [.int x1, .ref (ga G 65)]) (by decide +kernel) rfl ?_
  obtain ⟨v18, s19, e20, h⟩ := bndI h
  refine v_cV (idx := 53) hC ⟨tt_at 1150 (by decide +kernel) rfl, tiX12_isMan, tvX12_isMan, tnX12_isMan, tcX12_isMan, tmX12_isMan⟩ isO_X12 rfl (c_X12_isMan e20) (by decide) (by decide) (by decide +kernel) (rest := []) rfl rfl (Nat.le_of_ble_eq_true rfl) rfl ?_
  refine v_if_eq hC (off := 12) (tgt := 17) (by decide +kernel) (by decide) h (fun hq h => ?_) (fun hq h => ?_)
  · refine v_blk hC (is := [(.iconst (-1), (-1 : Int32))]) (pc' := 18) (ls' := [(0, .ref (ga G 65)), (1, .int x1), (2, .int x2)]) (st' := [.int (-1 : Int32)]) (by decide +kernel) rfl ?_
    exact v_iret hC h (by decide +kernel)
  · refine v_blk hC (is := [(.iload_n 2, 0), (.iconst 0, (0 : Int32)), (.iconst 1, (1 : Int32))]) (pc' := 11) (ls' := [(0, .ref (ga G 65)), (1, .int x1), (2, .int x2)]) (st' := [.int (1 : Int32), .int (0 : Int32), .int x2]) (by decide +kernel) rfl ?_
    obtain ⟨v21, s22, e23, h⟩ := bndI h
    refine v_cS (idx := 49) hC ⟨tt_at 1118 (by decide +kernel) rfl, tsX12_isIn, tnX12_isIn, tcX12_isIn, tmX12_isIn⟩ (c_X12_isIn e23) (by decide) (by decide) (by decide +kernel) (rest := []) rfl rfl (Nat.le_of_ble_eq_true rfl) rfl ?_
    refine v_if_ne hC (off := 5) (tgt := 19) (by decide +kernel) (by decide) h (fun hq h => ?_) (fun hq h => ?_)
    · refine v_blk hC (is := [(.aload_n 0, 0)]) (pc' := 20) (ls' := [(0, .ref (ga G 65)), (1, .int x1), (2, .int x2)]) (st' := [.ref (ga G 65)]) (by decide +kernel) rfl ?_
      refine gX12_0 hC lfX12_9 (by decide +kernel) ?_
      refine v_blk hC (is := [(.iload_n 1, 0), (.iconst 2, (2 : Int32))]) (pc' := 25) (ls' := [(0, .ref (ga G 65)), (1, .int x1), (2, .int x2)]) (st' := [.int (2 : Int32), .int x1, .ref (ga G 66)]) (by decide +kernel) rfl ?_
      obtain ⟨v24, s25, e26, h⟩ := bndI h
      refine v_cS (idx := 57) hC ⟨tt_at 1143 (by decide +kernel) rfl, tsX12_of, tnX12_of, tcX12_of, tmX12_of⟩ (c_X12_of e26) (by decide) (by decide) (by decide +kernel) (rest := [.ref (ga G 66)]) rfl rfl (Nat.le_of_ble_eq_true rfl) rfl ?_
      refine v_iald hC isA_66 rfl (by decide +kernel) h (fun v27 h => ?_)
      refine v_blk hC (is := [(.bipush 9, (9 : Int32))]) (pc' := 31) (ls' := [(0, .ref (ga G 65)), (1, .int x1), (2, .int x2)]) (st' := [.int (9 : Int32), .int v27]) (by decide +kernel) rfl ?_
      refine v_icmp_eq hC (off := 6) (tgt := 37) (by decide +kernel) (by decide) h (fun hq h => ?_) (fun hq h => ?_)
      · refine v_blk hC (is := [(.bipush (-4), (-4 : Int32)), (.istore_n 3, 0), (.iconst 0, (0 : Int32)), (.istore 4, 0), (.iconst 0, (0 : Int32)), (.istore 5, 0)]) (pc' := 46) (ls' := [(5, .int (0 : Int32)), (4, .int (0 : Int32)), (3, .int (-4 : Int32)), (0, .ref (ga G 65)), (1, .int x1), (2, .int x2)]) (st' := []) (by decide +kernel) rfl ?_
        refine v_sub [3, 4, 5, 2, 1, 0] (ls' := [(0, .ref (ga G 65)), (1, .int x1), (2, .int x2), (3, .int (-4 : Int32)), (4, .int (0 : Int32)), (5, .int (0 : Int32))]) rfl ?_
        exact (hL46 _ (fun x3 x4  m28 h => by
            refine v_blk hC (is := [(.iload_n 3, 0)]) (pc' := 154) (ls' := [(2, .int x2), (3, .int x3), (4, .int x4)]) (st' := [.int x3]) (by decide +kernel) rfl ?_
            refine v_if_lt hC (off := 7) (tgt := 161) (by decide +kernel) (by decide) h (fun hq h => ?_) (fun hq h => ?_)
            · refine v_sub [1] (ls' := [(3, .int x3)]) rfl ?_
              exact (hB161 ) _ _ h
            · refine v_blk hC (is := [(.iload_n 2, 0)]) (pc' := 158) (ls' := [(2, .int x2), (3, .int x3), (4, .int x4)]) (st' := [.int x2]) (by decide +kernel) rfl ?_
              refine v_if_ne hC (off := 7) (tgt := 165) (by decide +kernel) (by decide) h (fun hq h => ?_) (fun hq h => ?_)
              · refine v_blk hC (is := [(.iload 4, 0)]) (pc' := 167) (ls' := [(2, .int x2), (3, .int x3), (4, .int x4)]) (st' := [.int x4]) (by decide +kernel) rfl ?_
                exact v_iret hC h (by decide +kernel)
              · refine v_sub [1] (ls' := [(3, .int x3)]) rfl ?_
                exact (hB161 ) _ _ h) 1000) _ _ _ _ h
      · refine v_blk hC (is := [(.bipush (-3), (-3 : Int32))]) (pc' := 36) (ls' := [(0, .ref (ga G 65)), (1, .int x1), (2, .int x2)]) (st' := [.int (-3 : Int32)]) (by decide +kernel) rfl ?_
        exact v_iret hC h (by decide +kernel)
    · refine v_blk hC (is := [(.iconst (-1), (-1 : Int32))]) (pc' := 18) (ls' := [(0, .ref (ga G 65)), (1, .int x1), (2, .int x2)]) (st' := [.int (-1 : Int32)]) (by decide +kernel) rfl ?_
      exact v_iret hC h (by decide +kernel)

def p_X12_hire_B107 (k53 : Int32 → Int32 → Int32 → Mem → Option (Int32 × Mem)) (x1 : Int32) (x2 : Int32) (x3 : Int32) (x4 : Int32) (x5 : Int32) (x6 : Int32) (σ : Mem) : Option (Int32 × Mem) := k53 x4 x5 (x6 + (1 : Int32)) σ
def p_X12_hire_B53 (k53 : Int32 → Int32 → Int32 → Mem → Option (Int32 × Mem)) (x1 : Int32) (x2 : Int32) (x3 : Int32) (x4 : Int32) (x5 : Int32) (x6 : Int32) (σ : Mem) : Option (Int32 × Mem) := (if (8 : Int32) ≤ x6 then some (x4, σ) else (bnd (p_X12_copies 66 67 σ) fun (v1 : Unit) s2 => (bnd (p_X12_adds 67 x6 x2 x1 s2) fun (v4 : Unit) s5 => (bnd (p_X12_lostBehind x3 s5) fun v7 s8 => (if v7 < x5 then (p_X12_hire_B107 k53 x1 x2 x3) x6 v7 x6 s8 else (p_X12_hire_B107 k53 x1 x2 x3) x4 x5 x6 s8)))))
def p_X12_hire_L53  (x1 : Int32) (x2 : Int32) (x3 : Int32) : Nat → Int32 → Int32 → Int32 → Mem → Option (Int32 × Mem)
  | 0 => fun _ _ _ _ => none
  | f + 1 => p_X12_hire_B53 (p_X12_hire_L53 x1 x2 x3 f) x1 x2 x3
def p_X12_hire (x1 : Int32) (x2 : Int32) (x3 : Int32) (σ : Mem) : Option (Int32 × Mem) := (bnd (p_X12_isBoat x1 σ) fun v10 s11 => (if v10 = 0 then some ((-1 : Int32), s11) else (bnd (p_X12_isIn x2 (0 : Int32) (9 : Int32) s11) fun v13 s14 => (if v13 = 0 then some ((-1 : Int32), s14) else (bnd (p_X12_isIn x3 (0 : Int32) (60 : Int32) s14) fun v16 s17 => (if v16 = 0 then some ((-1 : Int32), s17) else (if (0 : Int32) < 0 ∨ 100 ≤ ((0 : Int32)).toNatClampNeg then none else lt (s17 66 ((0 : Int32)).toNatClampNeg) fun v19 => (if v19 = (8 : Int32) then some ((-4 : Int32), s17) else (p_X12_hire_L53 x1 x2 x3 1000) (0 : Int32) (1000000000 : Int32) (0 : Int32) s17))))))))
set_option maxHeartbeats 4000000 in
set_option maxRecDepth 100000 in
theorem c_X12_hire {G : Gl} {x1 : Int32} {x2 : Int32} {x3 : Int32} {σ : Mem} {res : Int32 × Mem}  (h : p_X12_hire x1 x2 x3 σ = some res) : MetX G yX12_hire cX12_hire 8 (some .int) 9 [.ref (ga G 65), .int x1, .int x2, .int x3] σ (some (.int res.1)) res.2 := by
  refine met_V (by decide +kernel) (Nat.le_of_ble_eq_true rfl) (fun X hC => ?_)
  have hC : Ok G 9 8 X cX12_hire RX12 (some .int) := hC
  have hB107 : ∀ (k53 : Int32 → Int32 → Int32 → Mem → Option (Int32 × Mem)), (∀ (x4 : Int32), ∀ (x5 : Int32), ∀ (x6 : Int32), ∀ σ : Mem, k53 x4 x5 x6 σ = some res → V G 9 8 X ((some (.int res.1)), res.2) σ [(0, .ref (ga G 65)), (1, .int x1), (2, .int x2), (3, .int x3), (4, .int x4), (5, .int x5), (6, .int x6)] [] 53) → ∀ (x4 : Int32), ∀ (x5 : Int32), ∀ (x6 : Int32), ∀ σ : Mem, p_X12_hire_B107 k53 x1 x2 x3 x4 x5 x6 σ = some res → V G 9 8 X ((some (.int res.1)), res.2) σ [(0, .ref (ga G 65)), (1, .int x1), (2, .int x2), (3, .int x3), (4, .int x4), (5, .int x5), (6, .int x6)] [] 107 := by
    intro k53 hk53 x4 x5 x6 σ h
    unfold p_X12_hire_B107 at h
    refine v_blk hC (is := [(.iinc 6 1, (1 : Int32))]) (pc' := 110) (ls' := [(6, .int (x6 + (1 : Int32))), (0, .ref (ga G 65)), (1, .int x1), (2, .int x2), (3, .int x3), (4, .int x4), (5, .int x5)]) (st' := []) (by decide +kernel) rfl ?_
    refine v_goto hC (off := (-57)) (tgt := 53) (by decide +kernel) (by decide) ?_
    refine v_sub [1, 2, 3, 4, 5, 6, 0] (ls' := [(0, .ref (ga G 65)), (1, .int x1), (2, .int x2), (3, .int x3), (4, .int x4), (5, .int x5), (6, .int (x6 + (1 : Int32)))]) rfl ?_
    exact hk53 _ _ _ _ h
  have hB53 : ∀ (k53 : Int32 → Int32 → Int32 → Mem → Option (Int32 × Mem)), (∀ (x4 : Int32), ∀ (x5 : Int32), ∀ (x6 : Int32), ∀ σ : Mem, k53 x4 x5 x6 σ = some res → V G 9 8 X ((some (.int res.1)), res.2) σ [(0, .ref (ga G 65)), (1, .int x1), (2, .int x2), (3, .int x3), (4, .int x4), (5, .int x5), (6, .int x6)] [] 53) → ∀ (x4 : Int32), ∀ (x5 : Int32), ∀ (x6 : Int32), ∀ σ : Mem, p_X12_hire_B53 k53 x1 x2 x3 x4 x5 x6 σ = some res → V G 9 8 X ((some (.int res.1)), res.2) σ [(0, .ref (ga G 65)), (1, .int x1), (2, .int x2), (3, .int x3), (4, .int x4), (5, .int x5), (6, .int x6)] [] 53 := by
    intro k53 hk53 x4 x5 x6 σ h
    unfold p_X12_hire_B53 at h
    refine v_blk hC (is := [(.iload 6, 0), (.bipush 8, (8 : Int32))]) (pc' := 57) (ls' := [(0, .ref (ga G 65)), (1, .int x1), (2, .int x2), (3, .int x3), (4, .int x4), (5, .int x5), (6, .int x6)]) (st' := [.int (8 : Int32), .int x6]) (by decide +kernel) rfl ?_
    refine v_icmp_ge hC (off := 56) (tgt := 113) (by decide +kernel) (by decide) h (fun hq h => ?_) (fun hq h => ?_)
    · refine v_blk hC (is := [(.iload 4, 0)]) (pc' := 115) (ls' := [(0, .ref (ga G 65)), (1, .int x1), (2, .int x2), (3, .int x3), (4, .int x4), (5, .int x5), (6, .int x6)]) (st' := [.int x4]) (by decide +kernel) rfl ?_
      exact v_iret hC h (by decide +kernel)
    · refine v_blk hC (is := [(.aload_n 0, 0)]) (pc' := 61) (ls' := [(0, .ref (ga G 65)), (1, .int x1), (2, .int x2), (3, .int x3), (4, .int x4), (5, .int x5), (6, .int x6)]) (st' := [.ref (ga G 65)]) (by decide +kernel) rfl ?_
      refine gX12_0 hC lfX12_9 (by decide +kernel) ?_
      refine v_blk hC (is := [(.aload_n 0, 0)]) (pc' := 65) (ls' := [(0, .ref (ga G 65)), (1, .int x1), (2, .int x2), (3, .int x3), (4, .int x4), (5, .int x5), (6, .int x6)]) (st' := [.ref (ga G 65), .ref (ga G 66)]) (by decide +kernel) rfl ?_
      refine gX12_1 hC lfX12_13 (by decide +kernel) ?_
      obtain ⟨v1, s2, e3, h⟩ := bndI h
      refine v_cS (idx := 164) hC ⟨tt_at 1133 (by decide +kernel) rfl, tsX12_copies, tnX12_copies, tcX12_copies, tmX12_copies⟩ (c_X12_copies row66 row67 e3) (by decide) (by decide) (by decide +kernel) (rest := []) rfl rfl (Nat.le_of_ble_eq_true rfl) rfl ?_
      refine v_blk hC (is := [(.aload_n 0, 0)]) (pc' := 72) (ls' := [(0, .ref (ga G 65)), (1, .int x1), (2, .int x2), (3, .int x3), (4, .int x4), (5, .int x5), (6, .int x6)]) (st' := [.ref (ga G 65)]) (by decide +kernel) rfl ?_
      refine gX12_1 hC lfX12_13 (by decide +kernel) ?_
      refine v_blk hC (is := [(.iload 6, 0), (.iload_n 2, 0), (.iload_n 1, 0)]) (pc' := 79) (ls' := [(0, .ref (ga G 65)), (1, .int x1), (2, .int x2), (3, .int x3), (4, .int x4), (5, .int x5), (6, .int x6)]) (st' := [.int x1, .int x2, .int x6, .ref (ga G 67)]) (by decide +kernel) rfl ?_
      obtain ⟨v4, s5, e6, h⟩ := bndI h
      refine v_cS (idx := 147) hC ⟨tt_at 1140 (by decide +kernel) rfl, tsX12_adds, tnX12_adds, tcX12_adds, tmX12_adds⟩ (c_X12_adds row67 e6) (by decide) (by decide) (by decide +kernel) (rest := []) rfl rfl (Nat.le_of_ble_eq_true rfl) rfl ?_
      refine v_blk hC (is := [(.aload_n 0, 0), (.iload_n 3, 0)]) (pc' := 84) (ls' := [(0, .ref (ga G 65)), (1, .int x1), (2, .int x2), (3, .int x3), (4, .int x4), (5, .int x5), (6, .int x6)]) (st' := [.int x3, .ref (ga G 65)]) (by decide +kernel) rfl ?_
      obtain ⟨v7, s8, e9, h⟩ := bndI h
      refine v_cV (idx := 204) hC ⟨tt_at 1354 (by decide +kernel) rfl, tiX12_lostBehind, tvX12_lostBehind, tnX12_lostBehind, tcX12_lostBehind, tmX12_lostBehind⟩ isO_X12 rfl (c_X12_lostBehind e9) (by decide) (by decide) (by decide +kernel) (rest := []) rfl rfl (Nat.le_of_ble_eq_true rfl) rfl ?_
      refine v_blk hC (is := [(.istore 7, 0), (.iload 7, 0), (.iload 5, 0)]) (pc' := 93) (ls' := [(7, .int v7), (0, .ref (ga G 65)), (1, .int x1), (2, .int x2), (3, .int x3), (4, .int x4), (5, .int x5), (6, .int x6)]) (st' := [.int x5, .int v7]) (by decide +kernel) rfl ?_
      refine v_icmp_lt hC (off := 6) (tgt := 99) (by decide +kernel) (by decide) h (fun hq h => ?_) (fun hq h => ?_)
      · refine v_blk hC (is := [(.iload 6, 0), (.istore 4, 0), (.iload 7, 0), (.istore 5, 0)]) (pc' := 107) (ls' := [(5, .int v7), (4, .int x6), (7, .int v7), (0, .ref (ga G 65)), (1, .int x1), (2, .int x2), (3, .int x3), (6, .int x6)]) (st' := []) (by decide +kernel) rfl ?_
        refine v_sub [3, 4, 5, 6, 1, 0, 7] (ls' := [(0, .ref (ga G 65)), (1, .int x1), (2, .int x2), (3, .int x3), (4, .int x6), (5, .int v7), (6, .int x6)]) rfl ?_
        exact (hB107 _ hk53) _ _ _ _ h
      · refine v_goto hC (off := 11) (tgt := 107) (by decide +kernel) (by decide) ?_
        refine v_sub [1, 2, 3, 4, 5, 6, 7] (ls' := [(0, .ref (ga G 65)), (1, .int x1), (2, .int x2), (3, .int x3), (4, .int x4), (5, .int x5), (6, .int x6)]) rfl ?_
        exact (hB107 _ hk53) _ _ _ _ h
  have hL53 : ∀ f : Nat, ∀ (x4 : Int32), ∀ (x5 : Int32), ∀ (x6 : Int32), ∀ σ : Mem, p_X12_hire_L53 x1 x2 x3 f x4 x5 x6 σ = some res → V G 9 8 X ((some (.int res.1)), res.2) σ [(0, .ref (ga G 65)), (1, .int x1), (2, .int x2), (3, .int x3), (4, .int x4), (5, .int x5), (6, .int x6)] [] 53 := by
    intro  f
    induction f with
    | zero => intro x4 x5 x6 σ h; exact none_some h
    | succ f ih => intro x4 x5 x6 σ h; exact hB53 (p_X12_hire_L53 x1 x2 x3 f)  ih  x4 x5 x6 σ h
  unfold p_X12_hire at h
  show V G 9 8 X ((some (.int res.1)), res.2) σ [(0, .ref (ga G 65)), (1, .int x1), (2, .int x2), (3, .int x3)] [] 0
  refine v_blk hC (is := [(.iload_n 1, 0)]) (pc' := 1) (ls' := [(0, .ref (ga G 65)), (1, .int x1), (2, .int x2), (3, .int x3)]) (st' := [.int x1]) (by decide +kernel) rfl ?_
  obtain ⟨v10, s11, e12, h⟩ := bndI h
  refine v_cS (idx := 154) hC ⟨tt_at 1157 (by decide +kernel) rfl, tsX12_isBoat, tnX12_isBoat, tcX12_isBoat, tmX12_isBoat⟩ (c_X12_isBoat e12) (by decide) (by decide) (by decide +kernel) (rest := []) rfl rfl (Nat.le_of_ble_eq_true rfl) rfl ?_
  refine v_if_eq hC (off := 23) (tgt := 27) (by decide +kernel) (by decide) h (fun hq h => ?_) (fun hq h => ?_)
  · refine v_blk hC (is := [(.iconst (-1), (-1 : Int32))]) (pc' := 28) (ls' := [(0, .ref (ga G 65)), (1, .int x1), (2, .int x2), (3, .int x3)]) (st' := [.int (-1 : Int32)]) (by decide +kernel) rfl ?_
    exact v_iret hC h (by decide +kernel)
  · refine v_blk hC (is := [(.iload_n 2, 0), (.iconst 0, (0 : Int32)), (.bipush 9, (9 : Int32))]) (pc' := 11) (ls' := [(0, .ref (ga G 65)), (1, .int x1), (2, .int x2), (3, .int x3)]) (st' := [.int (9 : Int32), .int (0 : Int32), .int x2]) (by decide +kernel) rfl ?_
    obtain ⟨v13, s14, e15, h⟩ := bndI h
    refine v_cS (idx := 49) hC ⟨tt_at 1118 (by decide +kernel) rfl, tsX12_isIn, tnX12_isIn, tcX12_isIn, tmX12_isIn⟩ (c_X12_isIn e15) (by decide) (by decide) (by decide +kernel) (rest := []) rfl rfl (Nat.le_of_ble_eq_true rfl) rfl ?_
    refine v_if_eq hC (off := 13) (tgt := 27) (by decide +kernel) (by decide) h (fun hq h => ?_) (fun hq h => ?_)
    · refine v_blk hC (is := [(.iconst (-1), (-1 : Int32))]) (pc' := 28) (ls' := [(0, .ref (ga G 65)), (1, .int x1), (2, .int x2), (3, .int x3)]) (st' := [.int (-1 : Int32)]) (by decide +kernel) rfl ?_
      exact v_iret hC h (by decide +kernel)
    · refine v_blk hC (is := [(.iload_n 3, 0), (.iconst 0, (0 : Int32)), (.bipush 60, (60 : Int32))]) (pc' := 21) (ls' := [(0, .ref (ga G 65)), (1, .int x1), (2, .int x2), (3, .int x3)]) (st' := [.int (60 : Int32), .int (0 : Int32), .int x3]) (by decide +kernel) rfl ?_
      obtain ⟨v16, s17, e18, h⟩ := bndI h
      refine v_cS (idx := 49) hC ⟨tt_at 1118 (by decide +kernel) rfl, tsX12_isIn, tnX12_isIn, tcX12_isIn, tmX12_isIn⟩ (c_X12_isIn e18) (by decide) (by decide) (by decide +kernel) (rest := []) rfl rfl (Nat.le_of_ble_eq_true rfl) rfl ?_
      refine v_if_ne hC (off := 5) (tgt := 29) (by decide +kernel) (by decide) h (fun hq h => ?_) (fun hq h => ?_)
      · refine v_blk hC (is := [(.aload_n 0, 0)]) (pc' := 30) (ls' := [(0, .ref (ga G 65)), (1, .int x1), (2, .int x2), (3, .int x3)]) (st' := [.ref (ga G 65)]) (by decide +kernel) rfl ?_
        refine gX12_0 hC lfX12_9 (by decide +kernel) ?_
        refine v_blk hC (is := [(.iconst 0, (0 : Int32))]) (pc' := 34) (ls' := [(0, .ref (ga G 65)), (1, .int x1), (2, .int x2), (3, .int x3)]) (st' := [.int (0 : Int32), .ref (ga G 66)]) (by decide +kernel) rfl ?_
        refine v_iald hC isA_66 rfl (by decide +kernel) h (fun v19 h => ?_)
        refine v_blk hC (is := [(.bipush 8, (8 : Int32))]) (pc' := 37) (ls' := [(0, .ref (ga G 65)), (1, .int x1), (2, .int x2), (3, .int x3)]) (st' := [.int (8 : Int32), .int v19]) (by decide +kernel) rfl ?_
        refine v_icmp_ne hC (off := 6) (tgt := 43) (by decide +kernel) (by decide) h (fun hq h => ?_) (fun hq h => ?_)
        · refine v_blk hC (is := [(.iconst 0, (0 : Int32)), (.istore 4, 0)]) (pc' := 46) (ls' := [(4, .int (0 : Int32)), (0, .ref (ga G 65)), (1, .int x1), (2, .int x2), (3, .int x3)]) (st' := []) (by decide +kernel) rfl ?_
          refine v_ldc hC (idx := 207) (v := (1000000000 : Int32)) (tt_at 1382 (by decide +kernel) rfl) (by decide +kernel) ?_
          refine v_blk hC (is := [(.istore 5, 0), (.iconst 0, (0 : Int32)), (.istore 6, 0)]) (pc' := 53) (ls' := [(6, .int (0 : Int32)), (5, .int (1000000000 : Int32)), (4, .int (0 : Int32)), (0, .ref (ga G 65)), (1, .int x1), (2, .int x2), (3, .int x3)]) (st' := []) (by decide +kernel) rfl ?_
          refine v_sub [3, 4, 5, 6, 2, 1, 0] (ls' := [(0, .ref (ga G 65)), (1, .int x1), (2, .int x2), (3, .int x3), (4, .int (0 : Int32)), (5, .int (1000000000 : Int32)), (6, .int (0 : Int32))]) rfl ?_
          exact (hL53 1000) _ _ _ _ h
        · refine v_blk hC (is := [(.bipush (-4), (-4 : Int32))]) (pc' := 42) (ls' := [(0, .ref (ga G 65)), (1, .int x1), (2, .int x2), (3, .int x3)]) (st' := [.int (-4 : Int32)]) (by decide +kernel) rfl ?_
          exact v_iret hC h (by decide +kernel)
      · refine v_blk hC (is := [(.iconst (-1), (-1 : Int32))]) (pc' := 28) (ls' := [(0, .ref (ga G 65)), (1, .int x1), (2, .int x2), (3, .int x3)]) (st' := [.int (-1 : Int32)]) (by decide +kernel) rfl ?_
        exact v_iret hC h (by decide +kernel)

def p_X12_hasBy_B48  (x1 : Int32) (x2 : Int32) (x3 : Int32) (x4 : Int32) (x5 : Int32) (x6 : Int32) (t0 : Int32) (σ : Mem) : Option (Int32 × Mem) := (if x6 = 0 then (if t0 = 0 then some ((-5 : Int32), σ) else some ((0 : Int32), σ)) else (if t0 = 0 then some ((-2 : Int32), σ) else some ((-1 : Int32), σ)))
def p_X12_hasBy_B47  (x1 : Int32) (x2 : Int32) (x3 : Int32) (x4 : Int32) (x5 : Int32) (x6 : Int32) (σ : Mem) : Option (Int32 × Mem) := (p_X12_hasBy_B48 x1 x2 x3 x4 x5) x6 (0 : Int32) σ
def p_X12_hasBy_B23  (x1 : Int32) (x2 : Int32) (x3 : Int32) (x4 : Int32) (x5 : Int32) (t0 : Int32) (σ : Mem) : Option (Int32 × Mem) := (if x5 = (1 : Int32) then (bnd (p_X12_reachOf 66 x2 σ) fun v1 s2 => (if v1 < x3 then (p_X12_hasBy_B47 x1 x2 x3 x4 x5) t0 s2 else (p_X12_hasBy_B48 x1 x2 x3 x4 x5) t0 (1 : Int32) s2)) else (p_X12_hasBy_B47 x1 x2 x3 x4 x5) t0 σ)
def p_X12_hasBy_B22  (x1 : Int32) (x2 : Int32) (x3 : Int32) (x4 : Int32) (x5 : Int32)  (σ : Mem) : Option (Int32 × Mem) := (p_X12_hasBy_B23 x1 x2 x3 x4 x5) (0 : Int32) σ
def p_X12_hasBy (x1 : Int32) (x2 : Int32) (x3 : Int32) (x4 : Int32) (x5 : Int32) (σ : Mem) : Option (Int32 × Mem) := (if x4 = (1 : Int32) then (bnd (p_X12_reachOf 66 x1 σ) fun v4 s5 => (if v4 < x3 then (p_X12_hasBy_B22 x1 x2 x3 x4 x5) s5 else (p_X12_hasBy_B23 x1 x2 x3 x4 x5) (1 : Int32) s5)) else (p_X12_hasBy_B22 x1 x2 x3 x4 x5) σ)
set_option maxHeartbeats 4000000 in
set_option maxRecDepth 100000 in
theorem c_X12_hasBy {G : Gl} {x1 : Int32} {x2 : Int32} {x3 : Int32} {x4 : Int32} {x5 : Int32} {σ : Mem} {res : Int32 × Mem}  (h : p_X12_hasBy x1 x2 x3 x4 x5 σ = some res) : MetX G yX12_hasBy cX12_hasBy 8 (some .int) 3 [.ref (ga G 65), .int x1, .int x2, .int x3, .int x4, .int x5] σ (some (.int res.1)) res.2 := by
  refine met_V (by decide +kernel) (Nat.le_of_ble_eq_true rfl) (fun X hC => ?_)
  have hC : Ok G 3 8 X cX12_hasBy RX12 (some .int) := hC
  have hB48 : ∀ (x6 : Int32), ∀ (t0 : Int32), ∀ σ : Mem, p_X12_hasBy_B48 x1 x2 x3 x4 x5 x6 t0 σ = some res → V G 3 8 X ((some (.int res.1)), res.2) σ [(6, .int x6)] [.int t0] 48 := by
    intro x6 t0 σ h
    unfold p_X12_hasBy_B48 at h
    refine v_blk hC (is := [(.istore 7, 0), (.iload 6, 0)]) (pc' := 52) (ls' := [(7, .int t0), (6, .int x6)]) (st' := [.int x6]) (by decide +kernel) rfl ?_
    refine v_if_eq hC (off := 17) (tgt := 69) (by decide +kernel) (by decide) h (fun hq h => ?_) (fun hq h => ?_)
    · refine v_blk hC (is := [(.iload 7, 0)]) (pc' := 71) (ls' := [(7, .int t0), (6, .int x6)]) (st' := [.int t0]) (by decide +kernel) rfl ?_
      refine v_if_eq hC (off := 7) (tgt := 78) (by decide +kernel) (by decide) h (fun hq h => ?_) (fun hq h => ?_)
      · refine v_blk hC (is := [(.bipush (-5), (-5 : Int32))]) (pc' := 80) (ls' := [(7, .int t0), (6, .int x6)]) (st' := [.int (-5 : Int32)]) (by decide +kernel) rfl ?_
        exact v_iret hC h (by decide +kernel)
      · refine v_blk hC (is := [(.iconst 0, (0 : Int32))]) (pc' := 75) (ls' := [(7, .int t0), (6, .int x6)]) (st' := [.int (0 : Int32)]) (by decide +kernel) rfl ?_
        refine v_goto hC (off := 5) (tgt := 80) (by decide +kernel) (by decide) ?_
        exact v_iret hC h (by decide +kernel)
    · refine v_blk hC (is := [(.iload 7, 0)]) (pc' := 57) (ls' := [(7, .int t0), (6, .int x6)]) (st' := [.int t0]) (by decide +kernel) rfl ?_
      refine v_if_eq hC (off := 7) (tgt := 64) (by decide +kernel) (by decide) h (fun hq h => ?_) (fun hq h => ?_)
      · refine v_blk hC (is := [(.bipush (-2), (-2 : Int32))]) (pc' := 66) (ls' := [(7, .int t0), (6, .int x6)]) (st' := [.int (-2 : Int32)]) (by decide +kernel) rfl ?_
        refine v_goto hC (off := 14) (tgt := 80) (by decide +kernel) (by decide) ?_
        exact v_iret hC h (by decide +kernel)
      · refine v_blk hC (is := [(.iconst (-1), (-1 : Int32))]) (pc' := 61) (ls' := [(7, .int t0), (6, .int x6)]) (st' := [.int (-1 : Int32)]) (by decide +kernel) rfl ?_
        refine v_goto hC (off := 19) (tgt := 80) (by decide +kernel) (by decide) ?_
        exact v_iret hC h (by decide +kernel)
  have hB47 : ∀ (x6 : Int32), ∀ σ : Mem, p_X12_hasBy_B47 x1 x2 x3 x4 x5 x6 σ = some res → V G 3 8 X ((some (.int res.1)), res.2) σ [(6, .int x6)] [] 47 := by
    intro x6 σ h
    unfold p_X12_hasBy_B47 at h
    refine v_blk hC (is := [(.iconst 0, (0 : Int32))]) (pc' := 48) (ls' := [(6, .int x6)]) (st' := [.int (0 : Int32)]) (by decide +kernel) rfl ?_
    exact (hB48 ) _ _ _ h
  have hB23 : ∀ (t0 : Int32), ∀ σ : Mem, p_X12_hasBy_B23 x1 x2 x3 x4 x5 t0 σ = some res → V G 3 8 X ((some (.int res.1)), res.2) σ [(0, .ref (ga G 65)), (2, .int x2), (3, .int x3), (5, .int x5)] [.int t0] 23 := by
    intro t0 σ h
    unfold p_X12_hasBy_B23 at h
    refine v_blk hC (is := [(.istore 6, 0), (.iload 5, 0), (.iconst 1, (1 : Int32))]) (pc' := 28) (ls' := [(6, .int t0), (0, .ref (ga G 65)), (2, .int x2), (3, .int x3), (5, .int x5)]) (st' := [.int (1 : Int32), .int x5]) (by decide +kernel) rfl ?_
    refine v_icmp_ne hC (off := 19) (tgt := 47) (by decide +kernel) (by decide) h (fun hq h => ?_) (fun hq h => ?_)
    · refine v_sub [0] (ls' := [(6, .int t0)]) rfl ?_
      exact (hB47 ) _ _ h
    · refine v_blk hC (is := [(.aload_n 0, 0)]) (pc' := 32) (ls' := [(6, .int t0), (0, .ref (ga G 65)), (2, .int x2), (3, .int x3), (5, .int x5)]) (st' := [.ref (ga G 65)]) (by decide +kernel) rfl ?_
      refine gX12_0 hC lfX12_9 (by decide +kernel) ?_
      refine v_blk hC (is := [(.iload_n 2, 0)]) (pc' := 36) (ls' := [(6, .int t0), (0, .ref (ga G 65)), (2, .int x2), (3, .int x3), (5, .int x5)]) (st' := [.int x2, .ref (ga G 66)]) (by decide +kernel) rfl ?_
      obtain ⟨v1, s2, e3, h⟩ := bndI h
      refine v_cS (idx := 101) hC ⟨tt_at 1187 (by decide +kernel) rfl, tsX12_reachOf, tnX12_reachOf, tcX12_reachOf, tmX12_reachOf⟩ (c_X12_reachOf row66 e3) (by decide) (by decide) (by decide +kernel) (rest := []) rfl rfl (Nat.le_of_ble_eq_true rfl) rfl ?_
      refine v_blk hC (is := [(.iload_n 3, 0)]) (pc' := 40) (ls' := [(6, .int t0), (0, .ref (ga G 65)), (2, .int x2), (3, .int x3), (5, .int x5)]) (st' := [.int x3, .int v1]) (by decide +kernel) rfl ?_
      refine v_icmp_lt hC (off := 7) (tgt := 47) (by decide +kernel) (by decide) h (fun hq h => ?_) (fun hq h => ?_)
      · refine v_sub [0] (ls' := [(6, .int t0)]) rfl ?_
        exact (hB47 ) _ _ h
      · refine v_blk hC (is := [(.iconst 1, (1 : Int32))]) (pc' := 44) (ls' := [(6, .int t0), (0, .ref (ga G 65)), (2, .int x2), (3, .int x3), (5, .int x5)]) (st' := [.int (1 : Int32)]) (by decide +kernel) rfl ?_
        refine v_goto hC (off := 4) (tgt := 48) (by decide +kernel) (by decide) ?_
        refine v_sub [0] (ls' := [(6, .int t0)]) rfl ?_
        exact (hB48 ) _ _ _ h
  have hB22 : ∀ σ : Mem, p_X12_hasBy_B22 x1 x2 x3 x4 x5 σ = some res → V G 3 8 X ((some (.int res.1)), res.2) σ [(0, .ref (ga G 65)), (2, .int x2), (3, .int x3), (5, .int x5)] [] 22 := by
    intro  σ h
    unfold p_X12_hasBy_B22 at h
    refine v_blk hC (is := [(.iconst 0, (0 : Int32))]) (pc' := 23) (ls' := [(0, .ref (ga G 65)), (2, .int x2), (3, .int x3), (5, .int x5)]) (st' := [.int (0 : Int32)]) (by decide +kernel) rfl ?_
    exact (hB23 ) _ _ h
  unfold p_X12_hasBy at h
  show V G 3 8 X ((some (.int res.1)), res.2) σ [(0, .ref (ga G 65)), (1, .int x1), (2, .int x2), (3, .int x3), (4, .int x4), (5, .int x5)] [] 0
  refine v_blk hC (is := [(.iload 4, 0), (.iconst 1, (1 : Int32))]) (pc' := 3) (ls' := [(0, .ref (ga G 65)), (1, .int x1), (2, .int x2), (3, .int x3), (4, .int x4), (5, .int x5)]) (st' := [.int (1 : Int32), .int x4]) (by decide +kernel) rfl ?_
  refine v_icmp_ne hC (off := 19) (tgt := 22) (by decide +kernel) (by decide) h (fun hq h => ?_) (fun hq h => ?_)
  · refine v_sub [0, 2, 3, 5] (ls' := [(0, .ref (ga G 65)), (2, .int x2), (3, .int x3), (5, .int x5)]) rfl ?_
    exact (hB22 ) _ h
  · refine v_blk hC (is := [(.aload_n 0, 0)]) (pc' := 7) (ls' := [(0, .ref (ga G 65)), (1, .int x1), (2, .int x2), (3, .int x3), (4, .int x4), (5, .int x5)]) (st' := [.ref (ga G 65)]) (by decide +kernel) rfl ?_
    refine gX12_0 hC lfX12_9 (by decide +kernel) ?_
    refine v_blk hC (is := [(.iload_n 1, 0)]) (pc' := 11) (ls' := [(0, .ref (ga G 65)), (1, .int x1), (2, .int x2), (3, .int x3), (4, .int x4), (5, .int x5)]) (st' := [.int x1, .ref (ga G 66)]) (by decide +kernel) rfl ?_
    obtain ⟨v4, s5, e6, h⟩ := bndI h
    refine v_cS (idx := 101) hC ⟨tt_at 1187 (by decide +kernel) rfl, tsX12_reachOf, tnX12_reachOf, tcX12_reachOf, tmX12_reachOf⟩ (c_X12_reachOf row66 e6) (by decide) (by decide) (by decide +kernel) (rest := []) rfl rfl (Nat.le_of_ble_eq_true rfl) rfl ?_
    refine v_blk hC (is := [(.iload_n 3, 0)]) (pc' := 15) (ls' := [(0, .ref (ga G 65)), (1, .int x1), (2, .int x2), (3, .int x3), (4, .int x4), (5, .int x5)]) (st' := [.int x3, .int v4]) (by decide +kernel) rfl ?_
    refine v_icmp_lt hC (off := 7) (tgt := 22) (by decide +kernel) (by decide) h (fun hq h => ?_) (fun hq h => ?_)
    · refine v_sub [0, 2, 3, 5] (ls' := [(0, .ref (ga G 65)), (2, .int x2), (3, .int x3), (5, .int x5)]) rfl ?_
      exact (hB22 ) _ h
    · refine v_blk hC (is := [(.iconst 1, (1 : Int32))]) (pc' := 19) (ls' := [(0, .ref (ga G 65)), (1, .int x1), (2, .int x2), (3, .int x3), (4, .int x4), (5, .int x5)]) (st' := [.int (1 : Int32)]) (by decide +kernel) rfl ?_
      refine v_goto hC (off := 4) (tgt := 23) (by decide +kernel) (by decide) ?_
      refine v_sub [0, 2, 3, 5] (ls' := [(0, .ref (ga G 65)), (2, .int x2), (3, .int x3), (5, .int x5)]) rfl ?_
      exact (hB23 ) _ _ h

def p_X12_two_B105 (k24 : Int32 → Mem → Option (Int32 × Mem)) (x1 : Int32) (x2 : Int32) (x3 : Int32) (x4 : Int32) (σ : Mem) : Option (Int32 × Mem) := k24 (x4 + (1 : Int32)) σ
def p_X12_two_B24 (k24 : Int32 → Mem → Option (Int32 × Mem)) (k96 : Int32 → Int32 → Mem → Option (Int32 × Mem)) (x1 : Int32) (x2 : Int32) (x3 : Int32) (x4 : Int32) (σ : Mem) : Option (Int32 × Mem) := (if (4 : Int32) ≤ x4 then some ((-4 : Int32), σ) else (bnd (p_X12_hasBy x1 x2 x3 ((1 : Int32) - (x4 / (2 : Int32))) (x4 - x4 / (2 : Int32) * (2 : Int32)) σ) fun v1 s2 => (bnd (p_X12_hasBy x1 x2 x3 (x4 / (2 : Int32)) (x4 - x4 / (2 : Int32) * (2 : Int32)) s2) fun v4 s5 => (if v4 < v1 then (p_X12_two_B105 k24 x1 x2 x3) x4 s5 else (bnd (p_X12_hasBy x2 x1 x3 ((1 : Int32) - (x4 - x4 / (2 : Int32) * (2 : Int32))) (x4 / (2 : Int32)) s5) fun v7 s8 => (bnd (p_X12_hasBy x2 x1 x3 (x4 - x4 / (2 : Int32) * (2 : Int32)) (x4 / (2 : Int32)) s8) fun v10 s11 => (if v10 < v7 then (p_X12_two_B105 k24 x1 x2 x3) x4 s11 else k96 (x4 / (2 : Int32)) (x4 - x4 / (2 : Int32) * (2 : Int32)) s11)))))))
def p_X12_two_L24 (k96 : Int32 → Int32 → Mem → Option (Int32 × Mem)) (x1 : Int32) (x2 : Int32) (x3 : Int32) : Nat → Int32 → Mem → Option (Int32 × Mem)
  | 0 => fun _ _ => none
  | f + 1 => p_X12_two_B24 (p_X12_two_L24 k96 x1 x2 x3 f) k96 x1 x2 x3
def p_X12_two (x1 : Int32) (x2 : Int32) (x3 : Int32) (σ : Mem) : Option (Int32 × Mem) := (bnd (p_X12_areTwo x1 x2 σ) fun v13 s14 => (if v13 = 0 then some ((-1 : Int32), s14) else (bnd (p_X12_isIn x3 (0 : Int32) (9 : Int32) s14) fun v16 s17 => (if v16 = 0 then some ((-1 : Int32), s17) else (p_X12_two_L24 (fun (x5 : Int32) (x6 : Int32) (m19 : Mem) => some ((((10 : Int32) * x5) + x6), m19)) x1 x2 x3 1000) (0 : Int32) s17))))
set_option maxHeartbeats 4000000 in
set_option maxRecDepth 100000 in
theorem c_X12_two {G : Gl} {x1 : Int32} {x2 : Int32} {x3 : Int32} {σ : Mem} {res : Int32 × Mem}  (h : p_X12_two x1 x2 x3 σ = some res) : MetX G yX12_two cX12_two 7 (some .int) 4 [.ref (ga G 65), .int x1, .int x2, .int x3] σ (some (.int res.1)) res.2 := by
  refine met_V (by decide +kernel) (Nat.le_of_ble_eq_true rfl) (fun X hC => ?_)
  have hC : Ok G 4 7 X cX12_two RX12 (some .int) := hC
  have hB105 : ∀ (k24 : Int32 → Mem → Option (Int32 × Mem)), (∀ (x4 : Int32), ∀ σ : Mem, k24 x4 σ = some res → V G 4 7 X ((some (.int res.1)), res.2) σ [(0, .ref (ga G 65)), (1, .int x1), (2, .int x2), (3, .int x3), (4, .int x4)] [] 24) → ∀ (x4 : Int32), ∀ σ : Mem, p_X12_two_B105 k24 x1 x2 x3 x4 σ = some res → V G 4 7 X ((some (.int res.1)), res.2) σ [(0, .ref (ga G 65)), (1, .int x1), (2, .int x2), (3, .int x3), (4, .int x4)] [] 105 := by
    intro k24 hk24 x4 σ h
    unfold p_X12_two_B105 at h
    refine v_blk hC (is := [(.iinc 4 1, (1 : Int32))]) (pc' := 108) (ls' := [(4, .int (x4 + (1 : Int32))), (0, .ref (ga G 65)), (1, .int x1), (2, .int x2), (3, .int x3)]) (st' := []) (by decide +kernel) rfl ?_
    refine v_goto hC (off := (-84)) (tgt := 24) (by decide +kernel) (by decide) ?_
    refine v_sub [1, 2, 3, 4, 0] (ls' := [(0, .ref (ga G 65)), (1, .int x1), (2, .int x2), (3, .int x3), (4, .int (x4 + (1 : Int32)))]) rfl ?_
    exact hk24 _ _ h
  have hB24 : ∀ (k24 : Int32 → Mem → Option (Int32 × Mem)), ∀ (k96 : Int32 → Int32 → Mem → Option (Int32 × Mem)), (∀ (x4 : Int32), ∀ σ : Mem, k24 x4 σ = some res → V G 4 7 X ((some (.int res.1)), res.2) σ [(0, .ref (ga G 65)), (1, .int x1), (2, .int x2), (3, .int x3), (4, .int x4)] [] 24) → (∀ (x5 : Int32), ∀ (x6 : Int32), ∀ σ : Mem, k96 x5 x6 σ = some res → V G 4 7 X ((some (.int res.1)), res.2) σ [(5, .int x5), (6, .int x6)] [] 96) → ∀ (x4 : Int32), ∀ σ : Mem, p_X12_two_B24 k24 k96 x1 x2 x3 x4 σ = some res → V G 4 7 X ((some (.int res.1)), res.2) σ [(0, .ref (ga G 65)), (1, .int x1), (2, .int x2), (3, .int x3), (4, .int x4)] [] 24 := by
    intro k24 k96 hk24 hk96 x4 σ h
    unfold p_X12_two_B24 at h
    refine v_blk hC (is := [(.iload 4, 0), (.iconst 4, (4 : Int32))]) (pc' := 27) (ls' := [(0, .ref (ga G 65)), (1, .int x1), (2, .int x2), (3, .int x3), (4, .int x4)]) (st' := [.int (4 : Int32), .int x4]) (by decide +kernel) rfl ?_
    refine v_icmp_ge hC (off := 84) (tgt := 111) (by decide +kernel) (by decide) h (fun hq h => ?_) (fun hq h => ?_)
    · refine v_blk hC (is := [(.bipush (-4), (-4 : Int32))]) (pc' := 113) (ls' := [(0, .ref (ga G 65)), (1, .int x1), (2, .int x2), (3, .int x3), (4, .int x4)]) (st' := [.int (-4 : Int32)]) (by decide +kernel) rfl ?_
      exact v_iret hC h (by decide +kernel)
    · refine v_blk hC (is := [(.iload 4, 0), (.iconst 2, (2 : Int32))]) (pc' := 33) (ls' := [(0, .ref (ga G 65)), (1, .int x1), (2, .int x2), (3, .int x3), (4, .int x4)]) (st' := [.int (2 : Int32), .int x4]) (by decide +kernel) rfl ?_
      refine v_idiv hC (by decide +kernel) (by decide) ?_
      refine v_blk hC (is := [(.istore 5, 0), (.iload 4, 0), (.iconst 2, (2 : Int32))]) (pc' := 39) (ls' := [(5, .int (x4 / (2 : Int32))), (0, .ref (ga G 65)), (1, .int x1), (2, .int x2), (3, .int x3), (4, .int x4)]) (st' := [.int (2 : Int32), .int x4]) (by decide +kernel) rfl ?_
      refine v_irem hC (by decide +kernel) (by decide) ?_
      refine v_blk hC (is := [(.istore 6, 0), (.aload_n 0, 0), (.iload_n 1, 0), (.iload_n 2, 0), (.iload_n 3, 0), (.iconst 1, (1 : Int32)), (.iload 5, 0), (.isub, 0), (.iload 6, 0)]) (pc' := 52) (ls' := [(6, .int (x4 - x4 / (2 : Int32) * (2 : Int32))), (5, .int (x4 / (2 : Int32))), (0, .ref (ga G 65)), (1, .int x1), (2, .int x2), (3, .int x3), (4, .int x4)]) (st' := [.int (x4 - x4 / (2 : Int32) * (2 : Int32)), .int ((1 : Int32) - (x4 / (2 : Int32))), .int x3, .int x2, .int x1, .ref (ga G 65)]) (by decide +kernel) rfl ?_
      obtain ⟨v1, s2, e3, h⟩ := bndI h
      refine v_cV (idx := 208) hC ⟨tt_at 1387 (by decide +kernel) rfl, tiX12_hasBy, tvX12_hasBy, tnX12_hasBy, tcX12_hasBy, tmX12_hasBy⟩ isO_X12 rfl (c_X12_hasBy e3) (by decide) (by decide) (by decide +kernel) (rest := []) rfl rfl (Nat.le_of_ble_eq_true rfl) rfl ?_
      refine v_blk hC (is := [(.aload_n 0, 0), (.iload_n 1, 0), (.iload_n 2, 0), (.iload_n 3, 0), (.iload 5, 0), (.iload 6, 0)]) (pc' := 63) (ls' := [(6, .int (x4 - x4 / (2 : Int32) * (2 : Int32))), (5, .int (x4 / (2 : Int32))), (0, .ref (ga G 65)), (1, .int x1), (2, .int x2), (3, .int x3), (4, .int x4)]) (st' := [.int (x4 - x4 / (2 : Int32) * (2 : Int32)), .int (x4 / (2 : Int32)), .int x3, .int x2, .int x1, .ref (ga G 65), .int v1]) (by decide +kernel) rfl ?_
      obtain ⟨v4, s5, e6, h⟩ := bndI h
      refine v_cV (idx := 208) hC ⟨tt_at 1387 (by decide +kernel) rfl, tiX12_hasBy, tvX12_hasBy, tnX12_hasBy, tcX12_hasBy, tmX12_hasBy⟩ isO_X12 rfl (c_X12_hasBy e6) (by decide) (by decide) (by decide +kernel) (rest := [.int v1]) rfl rfl (Nat.le_of_ble_eq_true rfl) rfl ?_
      refine v_icmp_gt hC (off := 39) (tgt := 105) (by decide +kernel) (by decide) h (fun hq h => ?_) (fun hq h => ?_)
      · refine v_sub [2, 3, 4, 5, 6] (ls' := [(0, .ref (ga G 65)), (1, .int x1), (2, .int x2), (3, .int x3), (4, .int x4)]) rfl ?_
        exact (hB105 _ hk24) _ _ h
      · refine v_blk hC (is := [(.aload_n 0, 0), (.iload_n 2, 0), (.iload_n 1, 0), (.iload_n 3, 0), (.iconst 1, (1 : Int32)), (.iload 6, 0), (.isub, 0), (.iload 5, 0)]) (pc' := 79) (ls' := [(6, .int (x4 - x4 / (2 : Int32) * (2 : Int32))), (5, .int (x4 / (2 : Int32))), (0, .ref (ga G 65)), (1, .int x1), (2, .int x2), (3, .int x3), (4, .int x4)]) (st' := [.int (x4 / (2 : Int32)), .int ((1 : Int32) - (x4 - x4 / (2 : Int32) * (2 : Int32))), .int x3, .int x1, .int x2, .ref (ga G 65)]) (by decide +kernel) rfl ?_
        obtain ⟨v7, s8, e9, h⟩ := bndI h
        refine v_cV (idx := 208) hC ⟨tt_at 1387 (by decide +kernel) rfl, tiX12_hasBy, tvX12_hasBy, tnX12_hasBy, tcX12_hasBy, tmX12_hasBy⟩ isO_X12 rfl (c_X12_hasBy e9) (by decide) (by decide) (by decide +kernel) (rest := []) rfl rfl (Nat.le_of_ble_eq_true rfl) rfl ?_
        refine v_blk hC (is := [(.aload_n 0, 0), (.iload_n 2, 0), (.iload_n 1, 0), (.iload_n 3, 0), (.iload 6, 0), (.iload 5, 0)]) (pc' := 90) (ls' := [(6, .int (x4 - x4 / (2 : Int32) * (2 : Int32))), (5, .int (x4 / (2 : Int32))), (0, .ref (ga G 65)), (1, .int x1), (2, .int x2), (3, .int x3), (4, .int x4)]) (st' := [.int (x4 / (2 : Int32)), .int (x4 - x4 / (2 : Int32) * (2 : Int32)), .int x3, .int x1, .int x2, .ref (ga G 65), .int v7]) (by decide +kernel) rfl ?_
        obtain ⟨v10, s11, e12, h⟩ := bndI h
        refine v_cV (idx := 208) hC ⟨tt_at 1387 (by decide +kernel) rfl, tiX12_hasBy, tvX12_hasBy, tnX12_hasBy, tcX12_hasBy, tmX12_hasBy⟩ isO_X12 rfl (c_X12_hasBy e12) (by decide) (by decide) (by decide +kernel) (rest := [.int v7]) rfl rfl (Nat.le_of_ble_eq_true rfl) rfl ?_
        refine v_icmp_gt hC (off := 12) (tgt := 105) (by decide +kernel) (by decide) h (fun hq h => ?_) (fun hq h => ?_)
        · refine v_sub [2, 3, 4, 5, 6] (ls' := [(0, .ref (ga G 65)), (1, .int x1), (2, .int x2), (3, .int x3), (4, .int x4)]) rfl ?_
          exact (hB105 _ hk24) _ _ h
        · refine v_sub [1, 0] (ls' := [(5, .int (x4 / (2 : Int32))), (6, .int (x4 - x4 / (2 : Int32) * (2 : Int32)))]) rfl ?_
          exact hk96 _ _ _ h
  have hL24 : ∀ (k96 : Int32 → Int32 → Mem → Option (Int32 × Mem)), (∀ (x5 : Int32), ∀ (x6 : Int32), ∀ σ : Mem, k96 x5 x6 σ = some res → V G 4 7 X ((some (.int res.1)), res.2) σ [(5, .int x5), (6, .int x6)] [] 96) → ∀ f : Nat, ∀ (x4 : Int32), ∀ σ : Mem, p_X12_two_L24 k96 x1 x2 x3 f x4 σ = some res → V G 4 7 X ((some (.int res.1)), res.2) σ [(0, .ref (ga G 65)), (1, .int x1), (2, .int x2), (3, .int x3), (4, .int x4)] [] 24 := by
    intro k96 hk96 f
    induction f with
    | zero => intro x4 σ h; exact none_some h
    | succ f ih => intro x4 σ h; exact hB24 (p_X12_two_L24 k96 x1 x2 x3 f) k96 ih hk96 x4 σ h
  unfold p_X12_two at h
  show V G 4 7 X ((some (.int res.1)), res.2) σ [(0, .ref (ga G 65)), (1, .int x1), (2, .int x2), (3, .int x3)] [] 0
  refine v_blk hC (is := [(.aload_n 0, 0), (.iload_n 1, 0), (.iload_n 2, 0)]) (pc' := 3) (ls' := [(0, .ref (ga G 65)), (1, .int x1), (2, .int x2), (3, .int x3)]) (st' := [.int x2, .int x1, .ref (ga G 65)]) (by decide +kernel) rfl ?_
  obtain ⟨v13, s14, e15, h⟩ := bndI h
  refine v_cV (idx := 151) hC ⟨tt_at 1146 (by decide +kernel) rfl, tiX12_areTwo, tvX12_areTwo, tnX12_areTwo, tcX12_areTwo, tmX12_areTwo⟩ isO_X12 rfl (c_X12_areTwo e15) (by decide) (by decide) (by decide +kernel) (rest := []) rfl rfl (Nat.le_of_ble_eq_true rfl) rfl ?_
  refine v_if_eq hC (off := 13) (tgt := 19) (by decide +kernel) (by decide) h (fun hq h => ?_) (fun hq h => ?_)
  · refine v_blk hC (is := [(.iconst (-1), (-1 : Int32))]) (pc' := 20) (ls' := [(0, .ref (ga G 65)), (1, .int x1), (2, .int x2), (3, .int x3)]) (st' := [.int (-1 : Int32)]) (by decide +kernel) rfl ?_
    exact v_iret hC h (by decide +kernel)
  · refine v_blk hC (is := [(.iload_n 3, 0), (.iconst 0, (0 : Int32)), (.bipush 9, (9 : Int32))]) (pc' := 13) (ls' := [(0, .ref (ga G 65)), (1, .int x1), (2, .int x2), (3, .int x3)]) (st' := [.int (9 : Int32), .int (0 : Int32), .int x3]) (by decide +kernel) rfl ?_
    obtain ⟨v16, s17, e18, h⟩ := bndI h
    refine v_cS (idx := 49) hC ⟨tt_at 1118 (by decide +kernel) rfl, tsX12_isIn, tnX12_isIn, tcX12_isIn, tmX12_isIn⟩ (c_X12_isIn e18) (by decide) (by decide) (by decide +kernel) (rest := []) rfl rfl (Nat.le_of_ble_eq_true rfl) rfl ?_
    refine v_if_ne hC (off := 5) (tgt := 21) (by decide +kernel) (by decide) h (fun hq h => ?_) (fun hq h => ?_)
    · refine v_blk hC (is := [(.iconst 0, (0 : Int32)), (.istore 4, 0)]) (pc' := 24) (ls' := [(4, .int (0 : Int32)), (0, .ref (ga G 65)), (1, .int x1), (2, .int x2), (3, .int x3)]) (st' := []) (by decide +kernel) rfl ?_
      refine v_sub [1, 2, 3, 4, 0] (ls' := [(0, .ref (ga G 65)), (1, .int x1), (2, .int x2), (3, .int x3), (4, .int (0 : Int32))]) rfl ?_
      exact (hL24 _ (fun x5 x6  m19 h => by
          refine v_blk hC (is := [(.bipush 10, (10 : Int32)), (.iload 5, 0), (.imul, 0), (.iload 6, 0), (.iadd, 0)]) (pc' := 104) (ls' := [(5, .int x5), (6, .int x6)]) (st' := [.int (((10 : Int32) * x5) + x6)]) (by decide +kernel) rfl ?_
          exact v_iret hC h (by decide +kernel)) 1000) _ _ h
    · refine v_blk hC (is := [(.iconst (-1), (-1 : Int32))]) (pc' := 20) (ls' := [(0, .ref (ga G 65)), (1, .int x1), (2, .int x2), (3, .int x3)]) (st' := [.int (-1 : Int32)]) (by decide +kernel) rfl ?_
      exact v_iret hC h (by decide +kernel)

def p_X12_gcd_B6 (k6 : Int64 → Int64 → Mem → Option (Int64 × Mem)) (x0 : Int64) (x2 : Int64) (x4 : Int64) (x6 : Int64) (σ : Mem) : Option (Int64 × Mem) := (if (lg_cmp x6 (0 : Int64)) = 0 then some (x4, σ) else (if x6 = 0 then none else k6 x6 (x4 - x4 / x6 * x6) σ))
def p_X12_gcd_L6  (x0 : Int64) (x2 : Int64) : Nat → Int64 → Int64 → Mem → Option (Int64 × Mem)
  | 0 => fun _ _ _ => none
  | f + 1 => p_X12_gcd_B6 (p_X12_gcd_L6 x0 x2 f) x0 x2
def p_X12_gcd (x0 : Int64) (x2 : Int64) (σ : Mem) : Option (Int64 × Mem) := (p_X12_gcd_L6 x0 x2 1000) x0 x2 σ
set_option maxHeartbeats 4000000 in
set_option maxRecDepth 100000 in
theorem c_X12_gcd {G : Gl} {x0 : Int64} {x2 : Int64} {σ : Mem} {res : Int64 × Mem}  (h : p_X12_gcd x0 x2 σ = some res) : MetX G yX12_gcd cX12_gcd 10 (some .long) 1 [.long x0, .long x2] σ (some (.long res.1)) res.2 := by
  refine met_V (by decide +kernel) (Nat.le_of_ble_eq_true rfl) (fun X hC => ?_)
  have hC : Ok G 1 10 X cX12_gcd RX12 (some .long) := hC
  have hB6 : ∀ (k6 : Int64 → Int64 → Mem → Option (Int64 × Mem)), (∀ (x4 : Int64), ∀ (x6 : Int64), ∀ σ : Mem, k6 x4 x6 σ = some res → V G 1 10 X ((some (.long res.1)), res.2) σ [(4, .long x4), (6, .long x6)] [] 6) → ∀ (x4 : Int64), ∀ (x6 : Int64), ∀ σ : Mem, p_X12_gcd_B6 k6 x0 x2 x4 x6 σ = some res → V G 1 10 X ((some (.long res.1)), res.2) σ [(4, .long x4), (6, .long x6)] [] 6 := by
    intro k6 hk6 x4 x6 σ h
    unfold p_X12_gcd_B6 at h
    refine v_blk hC (is := [(.lload 6, 0), (.lconst 0, 0), (.lcmp, 0)]) (pc' := 10) (ls' := [(4, .long x4), (6, .long x6)]) (st' := [.int (lg_cmp x6 (0 : Int64))]) (by decide +kernel) rfl ?_
    refine v_if_eq hC (off := 21) (tgt := 31) (by decide +kernel) (by decide) h (fun hq h => ?_) (fun hq h => ?_)
    · refine v_blk hC (is := [(.lload 4, 0)]) (pc' := 33) (ls' := [(4, .long x4), (6, .long x6)]) (st' := [.long x4]) (by decide +kernel) rfl ?_
      exact v_lret hC h (by decide +kernel)
    · refine v_blk hC (is := [(.lload 4, 0), (.lload 6, 0)]) (pc' := 17) (ls' := [(4, .long x4), (6, .long x6)]) (st' := [.long x6, .long x4]) (by decide +kernel) rfl ?_
      refine v_lrem hC (by decide +kernel) h (fun h => ?_)
      refine v_blk hC (is := [(.lstore 8, 0), (.lload 6, 0), (.lstore 4, 0), (.lload 8, 0), (.lstore 6, 0)]) (pc' := 28) (ls' := [(6, .long (x4 - x4 / x6 * x6)), (4, .long x6), (8, .long (x4 - x4 / x6 * x6))]) (st' := []) (by decide +kernel) rfl ?_
      refine v_goto hC (off := (-22)) (tgt := 6) (by decide +kernel) (by decide) ?_
      refine v_sub [1, 0] (ls' := [(4, .long x6), (6, .long (x4 - x4 / x6 * x6))]) rfl ?_
      exact hk6 _ _ _ h
  have hL6 : ∀ f : Nat, ∀ (x4 : Int64), ∀ (x6 : Int64), ∀ σ : Mem, p_X12_gcd_L6 x0 x2 f x4 x6 σ = some res → V G 1 10 X ((some (.long res.1)), res.2) σ [(4, .long x4), (6, .long x6)] [] 6 := by
    intro  f
    induction f with
    | zero => intro x4 x6 σ h; exact none_some h
    | succ f ih => intro x4 x6 σ h; exact hB6 (p_X12_gcd_L6 x0 x2 f)  ih  x4 x6 σ h
  unfold p_X12_gcd at h
  show V G 1 10 X ((some (.long res.1)), res.2) σ [(0, .long x0), (2, .long x2)] [] 0
  refine v_blk hC (is := [(.lload_n 0, 0), (.lstore 4, 0), (.lload_n 2, 0), (.lstore 6, 0)]) (pc' := 6) (ls' := [(6, .long x2), (4, .long x0), (0, .long x0), (2, .long x2)]) (st' := []) (by decide +kernel) rfl ?_
  refine v_sub [1, 0] (ls' := [(4, .long x0), (6, .long x2)]) rfl ?_
  exact (hL6 1000) _ _ _ h

def p_X12_partOf_B20  (x0 : Int64) (x2 : Int64) (x4 : Int32) (t0 : Int64) (σ : Mem) : Option (Int64 × Mem) := (bnd (p_X12_gcd x0 x2 σ) fun v1 s2 => (if v1 = 0 then none else some ((t0 / v1), s2)))
def p_X12_partOf (x0 : Int64) (x2 : Int64) (x4 : Int32) (σ : Mem) : Option (Int64 × Mem) := (if (lg_cmp x0 (0 : Int64)) = 0 then some ((Int32.toInt64 x4), σ) else (if x4 = 0 then (p_X12_partOf_B20 x0 x2 x4) x0 σ else (p_X12_partOf_B20 x0 x2 x4) x2 σ))
set_option maxHeartbeats 4000000 in
set_option maxRecDepth 100000 in
theorem c_X12_partOf {G : Gl} {x0 : Int64} {x2 : Int64} {x4 : Int32} {σ : Mem} {res : Int64 × Mem}  (h : p_X12_partOf x0 x2 x4 σ = some res) : MetX G yX12_partOf cX12_partOf 5 (some .long) 2 [.long x0, .long x2, .int x4] σ (some (.long res.1)) res.2 := by
  refine met_V (by decide +kernel) (Nat.le_of_ble_eq_true rfl) (fun X hC => ?_)
  have hC : Ok G 2 5 X cX12_partOf RX12 (some .long) := hC
  have hB20 : ∀ (t0 : Int64), ∀ σ : Mem, p_X12_partOf_B20 x0 x2 x4 t0 σ = some res → V G 2 5 X ((some (.long res.1)), res.2) σ [(0, .long x0), (2, .long x2)] [.long t0] 20 := by
    intro t0 σ h
    unfold p_X12_partOf_B20 at h
    refine v_blk hC (is := [(.lload_n 0, 0), (.lload_n 2, 0)]) (pc' := 22) (ls' := [(0, .long x0), (2, .long x2)]) (st' := [.long x2, .long x0, .long t0]) (by decide +kernel) rfl ?_
    obtain ⟨v1, s2, e3, h⟩ := bndI h
    refine v_cS (idx := 212) hC ⟨tt_at 1399 (by decide +kernel) rfl, tsX12_gcd, tnX12_gcd, tcX12_gcd, tmX12_gcd⟩ (c_X12_gcd e3) (by decide) (by decide) (by decide +kernel) (rest := [.long t0]) rfl rfl (Nat.le_of_ble_eq_true rfl) rfl ?_
    refine v_ldiv hC (by decide +kernel) h (fun h => ?_)
    exact v_lret hC h (by decide +kernel)
  unfold p_X12_partOf at h
  show V G 2 5 X ((some (.long res.1)), res.2) σ [(0, .long x0), (2, .long x2), (4, .int x4)] [] 0
  refine v_blk hC (is := [(.lload_n 0, 0), (.lconst 0, 0), (.lcmp, 0)]) (pc' := 3) (ls' := [(0, .long x0), (2, .long x2), (4, .int x4)]) (st' := [.int (lg_cmp x0 (0 : Int64))]) (by decide +kernel) rfl ?_
  refine v_if_ne hC (off := 7) (tgt := 10) (by decide +kernel) (by decide) h (fun hq h => ?_) (fun hq h => ?_)
  · refine v_blk hC (is := [(.iload 4, 0)]) (pc' := 12) (ls' := [(0, .long x0), (2, .long x2), (4, .int x4)]) (st' := [.int x4]) (by decide +kernel) rfl ?_
    refine v_if_ne hC (off := 7) (tgt := 19) (by decide +kernel) (by decide) h (fun hq h => ?_) (fun hq h => ?_)
    · refine v_blk hC (is := [(.lload_n 2, 0)]) (pc' := 20) (ls' := [(0, .long x0), (2, .long x2), (4, .int x4)]) (st' := [.long x2]) (by decide +kernel) rfl ?_
      refine v_sub [0, 1] (ls' := [(0, .long x0), (2, .long x2)]) rfl ?_
      exact (hB20 ) _ _ h
    · refine v_blk hC (is := [(.lload_n 0, 0)]) (pc' := 16) (ls' := [(0, .long x0), (2, .long x2), (4, .int x4)]) (st' := [.long x0]) (by decide +kernel) rfl ?_
      refine v_goto hC (off := 4) (tgt := 20) (by decide +kernel) (by decide) ?_
      refine v_sub [0, 1] (ls' := [(0, .long x0), (2, .long x2)]) rfl ?_
      exact (hB20 ) _ _ h
  · refine v_blk hC (is := [(.iload 4, 0), (.i2l, 0)]) (pc' := 9) (ls' := [(0, .long x0), (2, .long x2), (4, .int x4)]) (st' := [.long (Int32.toInt64 x4)]) (by decide +kernel) rfl ?_
    exact v_lret hC h (by decide +kernel)

def p_X12_odds_B38  (x1 : Int32) (x2 : Int32) (x3 : Int32) (x4 : Int32)  (σ : Mem) : Option (Int64 × Mem) := some ((1000000001 : Int64), σ)
def p_X12_odds_B124 (k98 : Int64 → Int64 → Int32 → Int64 → Int32 → Mem → Option (Int64 × Mem)) (x1 : Int32) (x2 : Int32) (x3 : Int32) (x4 : Int32) (x5 : Int64) (x7 : Int64) (x9 : Int32) (x12 : Int32) (t0 : Int64) (t1 : Int64) (σ : Mem) : Option (Int64 × Mem) := (bnd (p_X12_has x9 x12 σ) fun v1 s2 => (bnd (p_X12_season 67 v1 s2) fun (v4 : Unit) s5 => k98 x5 x7 x9 (t0 * t1) (x12 + (1 : Int32)) s5))
def p_X12_odds_B168 (k73 : Int64 → Int64 → Int32 → Mem → Option (Int64 × Mem)) (x1 : Int32) (x2 : Int32) (x3 : Int32) (x4 : Int32) (x7 : Int64) (x9 : Int32) (t0 : Int64) (t1 : Int64) (σ : Mem) : Option (Int64 × Mem) := k73 (t0 + t1) x7 (x9 + (1 : Int32)) σ
def p_X12_odds_B98 (k98 : Int64 → Int64 → Int32 → Int64 → Int32 → Mem → Option (Int64 × Mem)) (k147 : Int64 → Int64 → Int32 → Int64 → Mem → Option (Int64 × Mem)) (x1 : Int32) (x2 : Int32) (x3 : Int32) (x4 : Int32) (x5 : Int64) (x7 : Int64) (x9 : Int32) (x10 : Int64) (x12 : Int32) (σ : Mem) : Option (Int64 × Mem) := (if x2 ≤ x12 then k147 x5 x7 x9 x10 σ else (bnd (p_X12_has x9 x12 σ) fun v7 s8 => (if v7 = 0 then (p_X12_odds_B124 k98 x1 x2 x3 x4) x5 x7 x9 x12 x10 (Int32.toInt64 (x3 - (1 : Int32))) s8 else (p_X12_odds_B124 k98 x1 x2 x3 x4) x5 x7 x9 x12 x10 (1 : Int64) s8)))
def p_X12_odds_L98 (k147 : Int64 → Int64 → Int32 → Int64 → Mem → Option (Int64 × Mem)) (x1 : Int32) (x2 : Int32) (x3 : Int32) (x4 : Int32) : Nat → Int64 → Int64 → Int32 → Int64 → Int32 → Mem → Option (Int64 × Mem)
  | 0 => fun _ _ _ _ _ _ => none
  | f + 1 => p_X12_odds_B98 (p_X12_odds_L98 k147 x1 x2 x3 x4 f) k147 x1 x2 x3 x4
def p_X12_odds_B73 (k73 : Int64 → Int64 → Int32 → Mem → Option (Int64 × Mem)) (k177 : Int64 → Int64 → Mem → Option (Int64 × Mem)) (x1 : Int32) (x2 : Int32) (x3 : Int32) (x4 : Int32) (x5 : Int64) (x7 : Int64) (x9 : Int32) (σ : Mem) : Option (Int64 × Mem) := (if ((1 : Int32) <<< (x2 &&& 31)) ≤ x9 then k177 x5 x7 σ else (bnd (p_X12_copies 66 67 σ) fun (v10 : Unit) s11 => (p_X12_odds_L98 (fun (x5 : Int64) (x7 : Int64) (x9 : Int32) (x10 : Int64) (m13 : Mem) => (bnd (p_X12_of x1 (3 : Int32) m13) fun v14 s15 => (if v14 < 0 ∨ 100 ≤ (v14).toNatClampNeg then none else lt (s15 67 (v14).toNatClampNeg) fun v17 => (if v17 = 0 then (p_X12_odds_B168 k73 x1 x2 x3 x4) x7 x9 x5 x10 s15 else (p_X12_odds_B168 k73 x1 x2 x3 x4) x7 x9 x5 (0 : Int64) s15)))) x1 x2 x3 x4 1000) x5 x7 x9 (1 : Int64) (0 : Int32) s11))
def p_X12_odds_L73 (k177 : Int64 → Int64 → Mem → Option (Int64 × Mem)) (x1 : Int32) (x2 : Int32) (x3 : Int32) (x4 : Int32) : Nat → Int64 → Int64 → Int32 → Mem → Option (Int64 × Mem)
  | 0 => fun _ _ _ _ => none
  | f + 1 => p_X12_odds_B73 (p_X12_odds_L73 k177 x1 x2 x3 x4 f) k177 x1 x2 x3 x4
def p_X12_odds_B51 (k51 : Int64 → Int64 → Int32 → Mem → Option (Int64 × Mem)) (k70 : Int64 → Int64 → Mem → Option (Int64 × Mem)) (x1 : Int32) (x2 : Int32) (x3 : Int32) (x4 : Int32) (x5 : Int64) (x7 : Int64) (x9 : Int32) (σ : Mem) : Option (Int64 × Mem) := (if x2 ≤ x9 then k70 x5 x7 σ else k51 x5 (x7 * (Int32.toInt64 x3)) (x9 + (1 : Int32)) σ)
def p_X12_odds_L51 (k70 : Int64 → Int64 → Mem → Option (Int64 × Mem)) (x1 : Int32) (x2 : Int32) (x3 : Int32) (x4 : Int32) : Nat → Int64 → Int64 → Int32 → Mem → Option (Int64 × Mem)
  | 0 => fun _ _ _ _ => none
  | f + 1 => p_X12_odds_B51 (p_X12_odds_L51 k70 x1 x2 x3 x4 f) k70 x1 x2 x3 x4
def p_X12_odds (x1 : Int32) (x2 : Int32) (x3 : Int32) (x4 : Int32) (σ : Mem) : Option (Int64 × Mem) := (bnd (p_X12_isMan x1 σ) fun v18 s19 => (if v18 = 0 then (p_X12_odds_B38 x1 x2 x3 x4) s19 else (bnd (p_X12_isIn x2 (0 : Int32) (7 : Int32) s19) fun v21 s22 => (if v21 = 0 then (p_X12_odds_B38 x1 x2 x3 x4) s22 else (bnd (p_X12_isIn x3 (2 : Int32) (20 : Int32) s22) fun v24 s25 => (if v24 = 0 then (p_X12_odds_B38 x1 x2 x3 x4) s25 else (bnd (p_X12_isIn x4 (0 : Int32) (1 : Int32) s25) fun v27 s28 => (if v27 = 0 then (p_X12_odds_B38 x1 x2 x3 x4) s28 else (p_X12_odds_L51 (fun (x5 : Int64) (x7 : Int64) (m30 : Mem) => (p_X12_odds_L73 (fun (x5 : Int64) (x7 : Int64) (m31 : Mem) => (bnd (p_X12_partOf x5 x7 x4 m31) fun v32 s33 => some (v32, s33))) x1 x2 x3 x4 1000) x5 x7 (0 : Int32) m30) x1 x2 x3 x4 1000) (0 : Int64) (1 : Int64) (0 : Int32) s28))))))))
set_option maxHeartbeats 4000000 in
set_option maxRecDepth 100000 in
theorem c_X12_odds {G : Gl} {x1 : Int32} {x2 : Int32} {x3 : Int32} {x4 : Int32} {σ : Mem} {res : Int64 × Mem}  (h : p_X12_odds x1 x2 x3 x4 σ = some res) : MetX G yX12_odds cX12_odds 13 (some .long) 7 [.ref (ga G 65), .int x1, .int x2, .int x3, .int x4] σ (some (.long res.1)) res.2 := by
  refine met_V (by decide +kernel) (Nat.le_of_ble_eq_true rfl) (fun X hC => ?_)
  have hC : Ok G 7 13 X cX12_odds RX12 (some .long) := hC
  have hB38 : ∀ σ : Mem, p_X12_odds_B38 x1 x2 x3 x4 σ = some res → V G 7 13 X ((some (.long res.1)), res.2) σ [] [] 38 := by
    intro  σ h
    unfold p_X12_odds_B38 at h
    refine v_ldc2 hC (idx := 216) (v := (1000000001 : Int64)) (tt_at 1395 (by decide +kernel) rfl) (by decide +kernel) ?_
    exact v_lret hC h (by decide +kernel)
  have hB124 : ∀ (k98 : Int64 → Int64 → Int32 → Int64 → Int32 → Mem → Option (Int64 × Mem)), (∀ (x5 : Int64), ∀ (x7 : Int64), ∀ (x9 : Int32), ∀ (x10 : Int64), ∀ (x12 : Int32), ∀ σ : Mem, k98 x5 x7 x9 x10 x12 σ = some res → V G 7 13 X ((some (.long res.1)), res.2) σ [(0, .ref (ga G 65)), (1, .int x1), (2, .int x2), (3, .int x3), (4, .int x4), (5, .long x5), (7, .long x7), (9, .int x9), (10, .long x10), (12, .int x12)] [] 98) → ∀ (x5 : Int64), ∀ (x7 : Int64), ∀ (x9 : Int32), ∀ (x12 : Int32), ∀ (t0 : Int64), ∀ (t1 : Int64), ∀ σ : Mem, p_X12_odds_B124 k98 x1 x2 x3 x4 x5 x7 x9 x12 t0 t1 σ = some res → V G 7 13 X ((some (.long res.1)), res.2) σ [(0, .ref (ga G 65)), (1, .int x1), (2, .int x2), (3, .int x3), (4, .int x4), (5, .long x5), (7, .long x7), (9, .int x9), (12, .int x12)] [.long t1, .long t0] 124 := by
    intro k98 hk98 x5 x7 x9 x12 t0 t1 σ h
    unfold p_X12_odds_B124 at h
    refine v_blk hC (is := [(.lmul, 0), (.lstore 10, 0), (.aload_n 0, 0)]) (pc' := 128) (ls' := [(10, .long (t0 * t1)), (0, .ref (ga G 65)), (1, .int x1), (2, .int x2), (3, .int x3), (4, .int x4), (5, .long x5), (7, .long x7), (9, .int x9), (12, .int x12)]) (st' := [.ref (ga G 65)]) (by decide +kernel) rfl ?_
    refine gX12_1 hC lfX12_13 (by decide +kernel) ?_
    refine v_blk hC (is := [(.iload 9, 0), (.iload 12, 0)]) (pc' := 135) (ls' := [(10, .long (t0 * t1)), (0, .ref (ga G 65)), (1, .int x1), (2, .int x2), (3, .int x3), (4, .int x4), (5, .long x5), (7, .long x7), (9, .int x9), (12, .int x12)]) (st' := [.int x12, .int x9, .ref (ga G 67)]) (by decide +kernel) rfl ?_
    obtain ⟨v1, s2, e3, h⟩ := bndI h
    refine v_cS (idx := 85) hC ⟨tt_at 1175 (by decide +kernel) rfl, tsX12_has, tnX12_has, tcX12_has, tmX12_has⟩ (c_X12_has e3) (by decide) (by decide) (by decide +kernel) (rest := [.ref (ga G 67)]) rfl rfl (Nat.le_of_ble_eq_true rfl) rfl ?_
    obtain ⟨v4, s5, e6, h⟩ := bndI h
    refine v_cS (idx := 119) hC ⟨tt_at 1163 (by decide +kernel) rfl, tsX12_season, tnX12_season, tcX12_season, tmX12_season⟩ (c_X12_season row67 e6) (by decide) (by decide) (by decide +kernel) (rest := []) rfl rfl (Nat.le_of_ble_eq_true rfl) rfl ?_
    refine v_blk hC (is := [(.iinc 12 1, (1 : Int32))]) (pc' := 144) (ls' := [(12, .int (x12 + (1 : Int32))), (10, .long (t0 * t1)), (0, .ref (ga G 65)), (1, .int x1), (2, .int x2), (3, .int x3), (4, .int x4), (5, .long x5), (7, .long x7), (9, .int x9)]) (st' := []) (by decide +kernel) rfl ?_
    refine v_goto hC (off := (-46)) (tgt := 98) (by decide +kernel) (by decide) ?_
    refine v_sub [2, 3, 4, 5, 6, 7, 8, 9, 1, 0] (ls' := [(0, .ref (ga G 65)), (1, .int x1), (2, .int x2), (3, .int x3), (4, .int x4), (5, .long x5), (7, .long x7), (9, .int x9), (10, .long (t0 * t1)), (12, .int (x12 + (1 : Int32)))]) rfl ?_
    exact hk98 _ _ _ _ _ _ h
  have hB168 : ∀ (k73 : Int64 → Int64 → Int32 → Mem → Option (Int64 × Mem)), (∀ (x5 : Int64), ∀ (x7 : Int64), ∀ (x9 : Int32), ∀ σ : Mem, k73 x5 x7 x9 σ = some res → V G 7 13 X ((some (.long res.1)), res.2) σ [(0, .ref (ga G 65)), (1, .int x1), (2, .int x2), (3, .int x3), (4, .int x4), (5, .long x5), (7, .long x7), (9, .int x9)] [] 73) → ∀ (x7 : Int64), ∀ (x9 : Int32), ∀ (t0 : Int64), ∀ (t1 : Int64), ∀ σ : Mem, p_X12_odds_B168 k73 x1 x2 x3 x4 x7 x9 t0 t1 σ = some res → V G 7 13 X ((some (.long res.1)), res.2) σ [(0, .ref (ga G 65)), (1, .int x1), (2, .int x2), (3, .int x3), (4, .int x4), (7, .long x7), (9, .int x9)] [.long t1, .long t0] 168 := by
    intro k73 hk73 x7 x9 t0 t1 σ h
    unfold p_X12_odds_B168 at h
    refine v_blk hC (is := [(.ladd, 0), (.lstore 5, 0), (.iinc 9 1, (1 : Int32))]) (pc' := 174) (ls' := [(9, .int (x9 + (1 : Int32))), (5, .long (t0 + t1)), (0, .ref (ga G 65)), (1, .int x1), (2, .int x2), (3, .int x3), (4, .int x4), (7, .long x7)]) (st' := []) (by decide +kernel) rfl ?_
    refine v_goto hC (off := (-101)) (tgt := 73) (by decide +kernel) (by decide) ?_
    refine v_sub [2, 3, 4, 5, 6, 1, 7, 0] (ls' := [(0, .ref (ga G 65)), (1, .int x1), (2, .int x2), (3, .int x3), (4, .int x4), (5, .long (t0 + t1)), (7, .long x7), (9, .int (x9 + (1 : Int32)))]) rfl ?_
    exact hk73 _ _ _ _ h
  have hB98 : ∀ (k98 : Int64 → Int64 → Int32 → Int64 → Int32 → Mem → Option (Int64 × Mem)), ∀ (k147 : Int64 → Int64 → Int32 → Int64 → Mem → Option (Int64 × Mem)), (∀ (x5 : Int64), ∀ (x7 : Int64), ∀ (x9 : Int32), ∀ (x10 : Int64), ∀ (x12 : Int32), ∀ σ : Mem, k98 x5 x7 x9 x10 x12 σ = some res → V G 7 13 X ((some (.long res.1)), res.2) σ [(0, .ref (ga G 65)), (1, .int x1), (2, .int x2), (3, .int x3), (4, .int x4), (5, .long x5), (7, .long x7), (9, .int x9), (10, .long x10), (12, .int x12)] [] 98) → (∀ (x5 : Int64), ∀ (x7 : Int64), ∀ (x9 : Int32), ∀ (x10 : Int64), ∀ σ : Mem, k147 x5 x7 x9 x10 σ = some res → V G 7 13 X ((some (.long res.1)), res.2) σ [(0, .ref (ga G 65)), (1, .int x1), (2, .int x2), (3, .int x3), (4, .int x4), (5, .long x5), (7, .long x7), (9, .int x9), (10, .long x10)] [] 147) → ∀ (x5 : Int64), ∀ (x7 : Int64), ∀ (x9 : Int32), ∀ (x10 : Int64), ∀ (x12 : Int32), ∀ σ : Mem, p_X12_odds_B98 k98 k147 x1 x2 x3 x4 x5 x7 x9 x10 x12 σ = some res → V G 7 13 X ((some (.long res.1)), res.2) σ [(0, .ref (ga G 65)), (1, .int x1), (2, .int x2), (3, .int x3), (4, .int x4), (5, .long x5), (7, .long x7), (9, .int x9), (10, .long x10), (12, .int x12)] [] 98 := by
    intro k98 k147 hk98 hk147 x5 x7 x9 x10 x12 σ h
    unfold p_X12_odds_B98 at h
    refine v_blk hC (is := [(.iload 12, 0), (.iload_n 2, 0)]) (pc' := 101) (ls' := [(0, .ref (ga G 65)), (1, .int x1), (2, .int x2), (3, .int x3), (4, .int x4), (5, .long x5), (7, .long x7), (9, .int x9), (10, .long x10), (12, .int x12)]) (st' := [.int x2, .int x12]) (by decide +kernel) rfl ?_
    refine v_icmp_ge hC (off := 46) (tgt := 147) (by decide +kernel) (by decide) h (fun hq h => ?_) (fun hq h => ?_)
    · refine v_sub [0, 1, 2, 3, 4, 5, 6, 7, 8] (ls' := [(0, .ref (ga G 65)), (1, .int x1), (2, .int x2), (3, .int x3), (4, .int x4), (5, .long x5), (7, .long x7), (9, .int x9), (10, .long x10)]) rfl ?_
      exact hk147 _ _ _ _ _ h
    · refine v_blk hC (is := [(.lload 10, 0), (.iload 9, 0), (.iload 12, 0)]) (pc' := 110) (ls' := [(0, .ref (ga G 65)), (1, .int x1), (2, .int x2), (3, .int x3), (4, .int x4), (5, .long x5), (7, .long x7), (9, .int x9), (10, .long x10), (12, .int x12)]) (st' := [.int x12, .int x9, .long x10]) (by decide +kernel) rfl ?_
      obtain ⟨v7, s8, e9, h⟩ := bndI h
      refine v_cS (idx := 85) hC ⟨tt_at 1175 (by decide +kernel) rfl, tsX12_has, tnX12_has, tcX12_has, tmX12_has⟩ (c_X12_has e9) (by decide) (by decide) (by decide +kernel) (rest := [.long x10]) rfl rfl (Nat.le_of_ble_eq_true rfl) rfl ?_
      refine v_if_eq hC (off := 7) (tgt := 120) (by decide +kernel) (by decide) h (fun hq h => ?_) (fun hq h => ?_)
      · refine v_blk hC (is := [(.iload_n 3, 0), (.iconst 1, (1 : Int32)), (.isub, 0), (.i2l, 0)]) (pc' := 124) (ls' := [(0, .ref (ga G 65)), (1, .int x1), (2, .int x2), (3, .int x3), (4, .int x4), (5, .long x5), (7, .long x7), (9, .int x9), (10, .long x10), (12, .int x12)]) (st' := [.long (Int32.toInt64 (x3 - (1 : Int32))), .long x10]) (by decide +kernel) rfl ?_
        refine v_sub [0, 1, 2, 3, 4, 5, 6, 7, 9] (ls' := [(0, .ref (ga G 65)), (1, .int x1), (2, .int x2), (3, .int x3), (4, .int x4), (5, .long x5), (7, .long x7), (9, .int x9), (12, .int x12)]) rfl ?_
        exact (hB124 _ hk98) _ _ _ _ _ _ _ h
      · refine v_blk hC (is := [(.lconst 1, 0)]) (pc' := 117) (ls' := [(0, .ref (ga G 65)), (1, .int x1), (2, .int x2), (3, .int x3), (4, .int x4), (5, .long x5), (7, .long x7), (9, .int x9), (10, .long x10), (12, .int x12)]) (st' := [.long (1 : Int64), .long x10]) (by decide +kernel) rfl ?_
        refine v_goto hC (off := 7) (tgt := 124) (by decide +kernel) (by decide) ?_
        refine v_sub [0, 1, 2, 3, 4, 5, 6, 7, 9] (ls' := [(0, .ref (ga G 65)), (1, .int x1), (2, .int x2), (3, .int x3), (4, .int x4), (5, .long x5), (7, .long x7), (9, .int x9), (12, .int x12)]) rfl ?_
        exact (hB124 _ hk98) _ _ _ _ _ _ _ h
  have hL98 : ∀ (k147 : Int64 → Int64 → Int32 → Int64 → Mem → Option (Int64 × Mem)), (∀ (x5 : Int64), ∀ (x7 : Int64), ∀ (x9 : Int32), ∀ (x10 : Int64), ∀ σ : Mem, k147 x5 x7 x9 x10 σ = some res → V G 7 13 X ((some (.long res.1)), res.2) σ [(0, .ref (ga G 65)), (1, .int x1), (2, .int x2), (3, .int x3), (4, .int x4), (5, .long x5), (7, .long x7), (9, .int x9), (10, .long x10)] [] 147) → ∀ f : Nat, ∀ (x5 : Int64), ∀ (x7 : Int64), ∀ (x9 : Int32), ∀ (x10 : Int64), ∀ (x12 : Int32), ∀ σ : Mem, p_X12_odds_L98 k147 x1 x2 x3 x4 f x5 x7 x9 x10 x12 σ = some res → V G 7 13 X ((some (.long res.1)), res.2) σ [(0, .ref (ga G 65)), (1, .int x1), (2, .int x2), (3, .int x3), (4, .int x4), (5, .long x5), (7, .long x7), (9, .int x9), (10, .long x10), (12, .int x12)] [] 98 := by
    intro k147 hk147 f
    induction f with
    | zero => intro x5 x7 x9 x10 x12 σ h; exact none_some h
    | succ f ih => intro x5 x7 x9 x10 x12 σ h; exact hB98 (p_X12_odds_L98 k147 x1 x2 x3 x4 f) k147 ih hk147 x5 x7 x9 x10 x12 σ h
  have hB73 : ∀ (k73 : Int64 → Int64 → Int32 → Mem → Option (Int64 × Mem)), ∀ (k177 : Int64 → Int64 → Mem → Option (Int64 × Mem)), (∀ (x5 : Int64), ∀ (x7 : Int64), ∀ (x9 : Int32), ∀ σ : Mem, k73 x5 x7 x9 σ = some res → V G 7 13 X ((some (.long res.1)), res.2) σ [(0, .ref (ga G 65)), (1, .int x1), (2, .int x2), (3, .int x3), (4, .int x4), (5, .long x5), (7, .long x7), (9, .int x9)] [] 73) → (∀ (x5 : Int64), ∀ (x7 : Int64), ∀ σ : Mem, k177 x5 x7 σ = some res → V G 7 13 X ((some (.long res.1)), res.2) σ [(4, .int x4), (5, .long x5), (7, .long x7)] [] 177) → ∀ (x5 : Int64), ∀ (x7 : Int64), ∀ (x9 : Int32), ∀ σ : Mem, p_X12_odds_B73 k73 k177 x1 x2 x3 x4 x5 x7 x9 σ = some res → V G 7 13 X ((some (.long res.1)), res.2) σ [(0, .ref (ga G 65)), (1, .int x1), (2, .int x2), (3, .int x3), (4, .int x4), (5, .long x5), (7, .long x7), (9, .int x9)] [] 73 := by
    intro k73 k177 hk73 hk177 x5 x7 x9 σ h
    unfold p_X12_odds_B73 at h
    refine v_blk hC (is := [(.iload 9, 0), (.iconst 1, (1 : Int32)), (.iload_n 2, 0), (.ishl, 0)]) (pc' := 78) (ls' := [(0, .ref (ga G 65)), (1, .int x1), (2, .int x2), (3, .int x3), (4, .int x4), (5, .long x5), (7, .long x7), (9, .int x9)]) (st' := [.int ((1 : Int32) <<< (x2 &&& 31)), .int x9]) (by decide +kernel) rfl ?_
    refine v_icmp_ge hC (off := 99) (tgt := 177) (by decide +kernel) (by decide) h (fun hq h => ?_) (fun hq h => ?_)
    · refine v_sub [4, 5, 6] (ls' := [(4, .int x4), (5, .long x5), (7, .long x7)]) rfl ?_
      exact hk177 _ _ _ h
    · refine v_blk hC (is := [(.lconst 1, 0), (.lstore 10, 0), (.aload_n 0, 0)]) (pc' := 85) (ls' := [(10, .long (1 : Int64)), (0, .ref (ga G 65)), (1, .int x1), (2, .int x2), (3, .int x3), (4, .int x4), (5, .long x5), (7, .long x7), (9, .int x9)]) (st' := [.ref (ga G 65)]) (by decide +kernel) rfl ?_
      refine gX12_0 hC lfX12_9 (by decide +kernel) ?_
      refine v_blk hC (is := [(.aload_n 0, 0)]) (pc' := 89) (ls' := [(10, .long (1 : Int64)), (0, .ref (ga G 65)), (1, .int x1), (2, .int x2), (3, .int x3), (4, .int x4), (5, .long x5), (7, .long x7), (9, .int x9)]) (st' := [.ref (ga G 65), .ref (ga G 66)]) (by decide +kernel) rfl ?_
      refine gX12_1 hC lfX12_13 (by decide +kernel) ?_
      obtain ⟨v10, s11, e12, h⟩ := bndI h
      refine v_cS (idx := 164) hC ⟨tt_at 1133 (by decide +kernel) rfl, tsX12_copies, tnX12_copies, tcX12_copies, tmX12_copies⟩ (c_X12_copies row66 row67 e12) (by decide) (by decide) (by decide +kernel) (rest := []) rfl rfl (Nat.le_of_ble_eq_true rfl) rfl ?_
      refine v_blk hC (is := [(.iconst 0, (0 : Int32)), (.istore 12, 0)]) (pc' := 98) (ls' := [(12, .int (0 : Int32)), (10, .long (1 : Int64)), (0, .ref (ga G 65)), (1, .int x1), (2, .int x2), (3, .int x3), (4, .int x4), (5, .long x5), (7, .long x7), (9, .int x9)]) (st' := []) (by decide +kernel) rfl ?_
      refine v_sub [2, 3, 4, 5, 6, 7, 8, 9, 1, 0] (ls' := [(0, .ref (ga G 65)), (1, .int x1), (2, .int x2), (3, .int x3), (4, .int x4), (5, .long x5), (7, .long x7), (9, .int x9), (10, .long (1 : Int64)), (12, .int (0 : Int32))]) rfl ?_
      exact (hL98 _ (fun x5 x7 x9 x10  m13 h => by
            refine v_blk hC (is := [(.lload 5, 0), (.aload_n 0, 0)]) (pc' := 150) (ls' := [(0, .ref (ga G 65)), (1, .int x1), (2, .int x2), (3, .int x3), (4, .int x4), (5, .long x5), (7, .long x7), (9, .int x9), (10, .long x10)]) (st' := [.ref (ga G 65), .long x5]) (by decide +kernel) rfl ?_
            refine gX12_1 hC lfX12_13 (by decide +kernel) ?_
            refine v_blk hC (is := [(.iload_n 1, 0), (.iconst 3, (3 : Int32))]) (pc' := 155) (ls' := [(0, .ref (ga G 65)), (1, .int x1), (2, .int x2), (3, .int x3), (4, .int x4), (5, .long x5), (7, .long x7), (9, .int x9), (10, .long x10)]) (st' := [.int (3 : Int32), .int x1, .ref (ga G 67), .long x5]) (by decide +kernel) rfl ?_
            obtain ⟨v14, s15, e16, h⟩ := bndI h
            refine v_cS (idx := 57) hC ⟨tt_at 1143 (by decide +kernel) rfl, tsX12_of, tnX12_of, tcX12_of, tmX12_of⟩ (c_X12_of e16) (by decide) (by decide) (by decide +kernel) (rest := [.ref (ga G 67), .long x5]) rfl rfl (Nat.le_of_ble_eq_true rfl) rfl ?_
            refine v_iald hC isA_67 rfl (by decide +kernel) h (fun v17 h => ?_)
            refine v_if_ne hC (off := 8) (tgt := 167) (by decide +kernel) (by decide) h (fun hq h => ?_) (fun hq h => ?_)
            · refine v_blk hC (is := [(.lconst 0, 0)]) (pc' := 168) (ls' := [(0, .ref (ga G 65)), (1, .int x1), (2, .int x2), (3, .int x3), (4, .int x4), (5, .long x5), (7, .long x7), (9, .int x9), (10, .long x10)]) (st' := [.long (0 : Int64), .long x5]) (by decide +kernel) rfl ?_
              refine v_sub [0, 1, 2, 3, 4, 6, 7] (ls' := [(0, .ref (ga G 65)), (1, .int x1), (2, .int x2), (3, .int x3), (4, .int x4), (7, .long x7), (9, .int x9)]) rfl ?_
              exact (hB168 _ hk73) _ _ _ _ _ h
            · refine v_blk hC (is := [(.lload 10, 0)]) (pc' := 164) (ls' := [(0, .ref (ga G 65)), (1, .int x1), (2, .int x2), (3, .int x3), (4, .int x4), (5, .long x5), (7, .long x7), (9, .int x9), (10, .long x10)]) (st' := [.long x10, .long x5]) (by decide +kernel) rfl ?_
              refine v_goto hC (off := 4) (tgt := 168) (by decide +kernel) (by decide) ?_
              refine v_sub [0, 1, 2, 3, 4, 6, 7] (ls' := [(0, .ref (ga G 65)), (1, .int x1), (2, .int x2), (3, .int x3), (4, .int x4), (7, .long x7), (9, .int x9)]) rfl ?_
              exact (hB168 _ hk73) _ _ _ _ _ h) 1000) _ _ _ _ _ _ h
  have hL73 : ∀ (k177 : Int64 → Int64 → Mem → Option (Int64 × Mem)), (∀ (x5 : Int64), ∀ (x7 : Int64), ∀ σ : Mem, k177 x5 x7 σ = some res → V G 7 13 X ((some (.long res.1)), res.2) σ [(4, .int x4), (5, .long x5), (7, .long x7)] [] 177) → ∀ f : Nat, ∀ (x5 : Int64), ∀ (x7 : Int64), ∀ (x9 : Int32), ∀ σ : Mem, p_X12_odds_L73 k177 x1 x2 x3 x4 f x5 x7 x9 σ = some res → V G 7 13 X ((some (.long res.1)), res.2) σ [(0, .ref (ga G 65)), (1, .int x1), (2, .int x2), (3, .int x3), (4, .int x4), (5, .long x5), (7, .long x7), (9, .int x9)] [] 73 := by
    intro k177 hk177 f
    induction f with
    | zero => intro x5 x7 x9 σ h; exact none_some h
    | succ f ih => intro x5 x7 x9 σ h; exact hB73 (p_X12_odds_L73 k177 x1 x2 x3 x4 f) k177 ih hk177 x5 x7 x9 σ h
  have hB51 : ∀ (k51 : Int64 → Int64 → Int32 → Mem → Option (Int64 × Mem)), ∀ (k70 : Int64 → Int64 → Mem → Option (Int64 × Mem)), (∀ (x5 : Int64), ∀ (x7 : Int64), ∀ (x9 : Int32), ∀ σ : Mem, k51 x5 x7 x9 σ = some res → V G 7 13 X ((some (.long res.1)), res.2) σ [(0, .ref (ga G 65)), (1, .int x1), (2, .int x2), (3, .int x3), (4, .int x4), (5, .long x5), (7, .long x7), (9, .int x9)] [] 51) → (∀ (x5 : Int64), ∀ (x7 : Int64), ∀ σ : Mem, k70 x5 x7 σ = some res → V G 7 13 X ((some (.long res.1)), res.2) σ [(0, .ref (ga G 65)), (1, .int x1), (2, .int x2), (3, .int x3), (4, .int x4), (5, .long x5), (7, .long x7)] [] 70) → ∀ (x5 : Int64), ∀ (x7 : Int64), ∀ (x9 : Int32), ∀ σ : Mem, p_X12_odds_B51 k51 k70 x1 x2 x3 x4 x5 x7 x9 σ = some res → V G 7 13 X ((some (.long res.1)), res.2) σ [(0, .ref (ga G 65)), (1, .int x1), (2, .int x2), (3, .int x3), (4, .int x4), (5, .long x5), (7, .long x7), (9, .int x9)] [] 51 := by
    intro k51 k70 hk51 hk70 x5 x7 x9 σ h
    unfold p_X12_odds_B51 at h
    refine v_blk hC (is := [(.iload 9, 0), (.iload_n 2, 0)]) (pc' := 54) (ls' := [(0, .ref (ga G 65)), (1, .int x1), (2, .int x2), (3, .int x3), (4, .int x4), (5, .long x5), (7, .long x7), (9, .int x9)]) (st' := [.int x2, .int x9]) (by decide +kernel) rfl ?_
    refine v_icmp_ge hC (off := 16) (tgt := 70) (by decide +kernel) (by decide) h (fun hq h => ?_) (fun hq h => ?_)
    · refine v_sub [0, 1, 2, 3, 4, 5, 6] (ls' := [(0, .ref (ga G 65)), (1, .int x1), (2, .int x2), (3, .int x3), (4, .int x4), (5, .long x5), (7, .long x7)]) rfl ?_
      exact hk70 _ _ _ h
    · refine v_blk hC (is := [(.lload 7, 0), (.iload_n 3, 0), (.i2l, 0), (.lmul, 0), (.lstore 7, 0), (.iinc 9 1, (1 : Int32))]) (pc' := 67) (ls' := [(9, .int (x9 + (1 : Int32))), (7, .long (x7 * (Int32.toInt64 x3))), (0, .ref (ga G 65)), (1, .int x1), (2, .int x2), (3, .int x3), (4, .int x4), (5, .long x5)]) (st' := []) (by decide +kernel) rfl ?_
      refine v_goto hC (off := (-16)) (tgt := 51) (by decide +kernel) (by decide) ?_
      refine v_sub [2, 3, 4, 5, 6, 7, 1, 0] (ls' := [(0, .ref (ga G 65)), (1, .int x1), (2, .int x2), (3, .int x3), (4, .int x4), (5, .long x5), (7, .long (x7 * (Int32.toInt64 x3))), (9, .int (x9 + (1 : Int32)))]) rfl ?_
      exact hk51 _ _ _ _ h
  have hL51 : ∀ (k70 : Int64 → Int64 → Mem → Option (Int64 × Mem)), (∀ (x5 : Int64), ∀ (x7 : Int64), ∀ σ : Mem, k70 x5 x7 σ = some res → V G 7 13 X ((some (.long res.1)), res.2) σ [(0, .ref (ga G 65)), (1, .int x1), (2, .int x2), (3, .int x3), (4, .int x4), (5, .long x5), (7, .long x7)] [] 70) → ∀ f : Nat, ∀ (x5 : Int64), ∀ (x7 : Int64), ∀ (x9 : Int32), ∀ σ : Mem, p_X12_odds_L51 k70 x1 x2 x3 x4 f x5 x7 x9 σ = some res → V G 7 13 X ((some (.long res.1)), res.2) σ [(0, .ref (ga G 65)), (1, .int x1), (2, .int x2), (3, .int x3), (4, .int x4), (5, .long x5), (7, .long x7), (9, .int x9)] [] 51 := by
    intro k70 hk70 f
    induction f with
    | zero => intro x5 x7 x9 σ h; exact none_some h
    | succ f ih => intro x5 x7 x9 σ h; exact hB51 (p_X12_odds_L51 k70 x1 x2 x3 x4 f) k70 ih hk70 x5 x7 x9 σ h
  unfold p_X12_odds at h
  show V G 7 13 X ((some (.long res.1)), res.2) σ [(0, .ref (ga G 65)), (1, .int x1), (2, .int x2), (3, .int x3), (4, .int x4)] [] 0
  refine v_blk hC (is := [(.aload_n 0, 0), (.iload_n 1, 0)]) (pc' := 2) (ls' := [(0, .ref (ga G 65)), (1, .int x1), (2, .int x2), (3, .int x3), (4, .int x4)]) (st' := [.int x1, .ref (ga G 65)]) (by decide +kernel) rfl ?_
  obtain ⟨v18, s19, e20, h⟩ := bndI h
  refine v_cV (idx := 53) hC ⟨tt_at 1150 (by decide +kernel) rfl, tiX12_isMan, tvX12_isMan, tnX12_isMan, tcX12_isMan, tmX12_isMan⟩ isO_X12 rfl (c_X12_isMan e20) (by decide) (by decide) (by decide +kernel) (rest := []) rfl rfl (Nat.le_of_ble_eq_true rfl) rfl ?_
  refine v_if_eq hC (off := 33) (tgt := 38) (by decide +kernel) (by decide) h (fun hq h => ?_) (fun hq h => ?_)
  · refine v_sub [] (ls' := []) rfl ?_
    exact (hB38 ) _ h
  · refine v_blk hC (is := [(.iload_n 2, 0), (.iconst 0, (0 : Int32)), (.bipush 7, (7 : Int32))]) (pc' := 12) (ls' := [(0, .ref (ga G 65)), (1, .int x1), (2, .int x2), (3, .int x3), (4, .int x4)]) (st' := [.int (7 : Int32), .int (0 : Int32), .int x2]) (by decide +kernel) rfl ?_
    obtain ⟨v21, s22, e23, h⟩ := bndI h
    refine v_cS (idx := 49) hC ⟨tt_at 1118 (by decide +kernel) rfl, tsX12_isIn, tnX12_isIn, tcX12_isIn, tmX12_isIn⟩ (c_X12_isIn e23) (by decide) (by decide) (by decide +kernel) (rest := []) rfl rfl (Nat.le_of_ble_eq_true rfl) rfl ?_
    refine v_if_eq hC (off := 23) (tgt := 38) (by decide +kernel) (by decide) h (fun hq h => ?_) (fun hq h => ?_)
    · refine v_sub [] (ls' := []) rfl ?_
      exact (hB38 ) _ h
    · refine v_blk hC (is := [(.iload_n 3, 0), (.iconst 2, (2 : Int32)), (.bipush 20, (20 : Int32))]) (pc' := 22) (ls' := [(0, .ref (ga G 65)), (1, .int x1), (2, .int x2), (3, .int x3), (4, .int x4)]) (st' := [.int (20 : Int32), .int (2 : Int32), .int x3]) (by decide +kernel) rfl ?_
      obtain ⟨v24, s25, e26, h⟩ := bndI h
      refine v_cS (idx := 49) hC ⟨tt_at 1118 (by decide +kernel) rfl, tsX12_isIn, tnX12_isIn, tcX12_isIn, tmX12_isIn⟩ (c_X12_isIn e26) (by decide) (by decide) (by decide +kernel) (rest := []) rfl rfl (Nat.le_of_ble_eq_true rfl) rfl ?_
      refine v_if_eq hC (off := 13) (tgt := 38) (by decide +kernel) (by decide) h (fun hq h => ?_) (fun hq h => ?_)
      · refine v_sub [] (ls' := []) rfl ?_
        exact (hB38 ) _ h
      · refine v_blk hC (is := [(.iload 4, 0), (.iconst 0, (0 : Int32)), (.iconst 1, (1 : Int32))]) (pc' := 32) (ls' := [(0, .ref (ga G 65)), (1, .int x1), (2, .int x2), (3, .int x3), (4, .int x4)]) (st' := [.int (1 : Int32), .int (0 : Int32), .int x4]) (by decide +kernel) rfl ?_
        obtain ⟨v27, s28, e29, h⟩ := bndI h
        refine v_cS (idx := 49) hC ⟨tt_at 1118 (by decide +kernel) rfl, tsX12_isIn, tnX12_isIn, tcX12_isIn, tmX12_isIn⟩ (c_X12_isIn e29) (by decide) (by decide) (by decide +kernel) (rest := []) rfl rfl (Nat.le_of_ble_eq_true rfl) rfl ?_
        refine v_if_ne hC (off := 7) (tgt := 42) (by decide +kernel) (by decide) h (fun hq h => ?_) (fun hq h => ?_)
        · refine v_blk hC (is := [(.lconst 0, 0), (.lstore 5, 0), (.lconst 1, 0), (.lstore 7, 0), (.iconst 0, (0 : Int32)), (.istore 9, 0)]) (pc' := 51) (ls' := [(9, .int (0 : Int32)), (7, .long (1 : Int64)), (5, .long (0 : Int64)), (0, .ref (ga G 65)), (1, .int x1), (2, .int x2), (3, .int x3), (4, .int x4)]) (st' := []) (by decide +kernel) rfl ?_
          refine v_sub [3, 4, 5, 6, 7, 2, 1, 0] (ls' := [(0, .ref (ga G 65)), (1, .int x1), (2, .int x2), (3, .int x3), (4, .int x4), (5, .long (0 : Int64)), (7, .long (1 : Int64)), (9, .int (0 : Int32))]) rfl ?_
          exact (hL51 _ (fun x5 x7  m30 h => by
              refine v_blk hC (is := [(.iconst 0, (0 : Int32)), (.istore 9, 0)]) (pc' := 73) (ls' := [(9, .int (0 : Int32)), (0, .ref (ga G 65)), (1, .int x1), (2, .int x2), (3, .int x3), (4, .int x4), (5, .long x5), (7, .long x7)]) (st' := []) (by decide +kernel) rfl ?_
              refine v_sub [1, 2, 3, 4, 5, 6, 7, 0] (ls' := [(0, .ref (ga G 65)), (1, .int x1), (2, .int x2), (3, .int x3), (4, .int x4), (5, .long x5), (7, .long x7), (9, .int (0 : Int32))]) rfl ?_
              exact (hL73 _ (fun x5 x7  m31 h => by
                  refine v_blk hC (is := [(.lload 5, 0), (.lload 7, 0), (.iload 4, 0)]) (pc' := 183) (ls' := [(4, .int x4), (5, .long x5), (7, .long x7)]) (st' := [.int x4, .long x7, .long x5]) (by decide +kernel) rfl ?_
                  obtain ⟨v32, s33, e34, h⟩ := bndI h
                  refine v_cS (idx := 218) hC ⟨tt_at 1396 (by decide +kernel) rfl, tsX12_partOf, tnX12_partOf, tcX12_partOf, tmX12_partOf⟩ (c_X12_partOf e34) (by decide) (by decide) (by decide +kernel) (rest := []) rfl rfl (Nat.le_of_ble_eq_true rfl) rfl ?_
                  exact v_lret hC h (by decide +kernel)) 1000) _ _ _ _ h) 1000) _ _ _ _ h
        · refine v_sub [] (ls' := []) rfl ?_
          exact (hB38 ) _ h

def p_X12_leastOf (x0 : Int32) (σ : Mem) : Option (Int32 × Mem) := (if x0 = 0 then some ((-128 : Int32), σ) else (if x0 = (1 : Int32) then some ((-32768 : Int32), σ) else some ((-2147483648 : Int32), σ)))
set_option maxHeartbeats 4000000 in
set_option maxRecDepth 100000 in
theorem c_X12_leastOf {G : Gl} {x0 : Int32} {σ : Mem} {res : Int32 × Mem}  (h : p_X12_leastOf x0 σ = some res) : MetX G yX12_leastOf cX12_leastOf 1 (some .int) 1 [.int x0] σ (some (.int res.1)) res.2 := by
  refine met_V (by decide +kernel) (Nat.le_of_ble_eq_true rfl) (fun X hC => ?_)
  have hC : Ok G 1 1 X cX12_leastOf RX12 (some .int) := hC
  unfold p_X12_leastOf at h
  show V G 1 1 X ((some (.int res.1)), res.2) σ [(0, .int x0)] [] 0
  refine v_blk hC (is := [(.iload_n 0, 0)]) (pc' := 1) (ls' := [(0, .int x0)]) (st' := [.int x0]) (by decide +kernel) rfl ?_
  refine v_if_ne hC (off := 8) (tgt := 9) (by decide +kernel) (by decide) h (fun hq h => ?_) (fun hq h => ?_)
  · refine v_blk hC (is := [(.iload_n 0, 0), (.iconst 1, (1 : Int32))]) (pc' := 11) (ls' := [(0, .int x0)]) (st' := [.int (1 : Int32), .int x0]) (by decide +kernel) rfl ?_
    refine v_icmp_ne hC (off := 9) (tgt := 20) (by decide +kernel) (by decide) h (fun hq h => ?_) (fun hq h => ?_)
    · refine v_ldc hC (idx := 222) (v := (-2147483648 : Int32)) (tt_at 1413 (by decide +kernel) rfl) (by decide +kernel) ?_
      exact v_iret hC h (by decide +kernel)
    · refine v_blk hC (is := [(.sipush (-32768), (-32768 : Int32))]) (pc' := 17) (ls' := [(0, .int x0)]) (st' := [.int (-32768 : Int32)]) (by decide +kernel) rfl ?_
      refine v_goto hC (off := 5) (tgt := 22) (by decide +kernel) (by decide) ?_
      exact v_iret hC h (by decide +kernel)
  · refine v_blk hC (is := [(.bipush (-128), (-128 : Int32))]) (pc' := 6) (ls' := [(0, .int x0)]) (st' := [.int (-128 : Int32)]) (by decide +kernel) rfl ?_
    refine v_goto hC (off := 16) (tgt := 22) (by decide +kernel) (by decide) ?_
    exact v_iret hC h (by decide +kernel)

def p_X12_isTold_B79 (k2 : Int32 → Mem → Option (Int32 × Mem)) (x1 : Int32) (x2 : Int32) (x3 : Int32) (σ : Mem) : Option (Int32 × Mem) := (bnd (p_X12_season 67 (0 : Int32) σ) fun (v1 : Unit) s2 => k2 (x3 + (1 : Int32)) s2)
def p_X12_isTold_B54 (k2 : Int32 → Mem → Option (Int32 × Mem)) (x1 : Int32) (x2 : Int32) (x3 : Int32) (x4 : Int32) (t0 : Int32) (σ : Mem) : Option (Int32 × Mem) := (if x1 < 0 ∨ 8 ≤ (x1).toNatClampNeg then none else lt (σ 76 (x1).toNatClampNeg) fun v4 => (bnd (p_X12_leastOf v4 σ) fun v5 s6 => (if x4 = v5 then (p_X12_isTold_B79 k2 x1 x2) x3 s6 else (if x4 = t0 then (p_X12_isTold_B79 k2 x1 x2) x3 s6 else some ((0 : Int32), s6)))))
def p_X12_isTold_B2 (k2 : Int32 → Mem → Option (Int32 × Mem)) (x1 : Int32) (x2 : Int32) (x3 : Int32) (σ : Mem) : Option (Int32 × Mem) := (if x1 < 0 ∨ 8 ≤ (x1).toNatClampNeg then none else lt (σ 77 (x1).toNatClampNeg) fun v8 => (if v8 ≤ x3 then some ((1 : Int32), σ) else (if (((100 : Int32) * x1) + x3) < 0 ∨ 800 ≤ ((((100 : Int32) * x1) + x3)).toNatClampNeg then none else lt (σ 78 ((((100 : Int32) * x1) + x3)).toNatClampNeg) fun v9 => (bnd (p_X12_of x2 (3 : Int32) σ) fun v10 s11 => (if v10 < 0 ∨ 100 ≤ (v10).toNatClampNeg then none else lt (s11 67 (v10).toNatClampNeg) fun v13 => (if v13 = (1 : Int32) then (p_X12_isTold_B54 k2 x1 x2) x3 v9 (8 : Int32) s11 else (bnd (p_X12_of x2 (2 : Int32) s11) fun v14 s15 => (if v14 < 0 ∨ 100 ≤ (v14).toNatClampNeg then none else lt (s15 67 (v14).toNatClampNeg) fun v17 => (p_X12_isTold_B54 k2 x1 x2) x3 v9 v17 s15))))))))
def p_X12_isTold_L2  (x1 : Int32) (x2 : Int32) : Nat → Int32 → Mem → Option (Int32 × Mem)
  | 0 => fun _ _ => none
  | f + 1 => p_X12_isTold_B2 (p_X12_isTold_L2 x1 x2 f) x1 x2
def p_X12_isTold (x1 : Int32) (x2 : Int32) (σ : Mem) : Option (Int32 × Mem) := (p_X12_isTold_L2 x1 x2 1000) (0 : Int32) σ
set_option maxHeartbeats 4000000 in
set_option maxRecDepth 100000 in
theorem c_X12_isTold {G : Gl} {x1 : Int32} {x2 : Int32} {σ : Mem} {res : Int32 × Mem}  (h : p_X12_isTold x1 x2 σ = some res) : MetX G yX12_isTold cX12_isTold 6 (some .boolean) 7 [.ref (ga G 65), .int x1, .int x2] σ (some (.int res.1)) res.2 := by
  refine met_V (by decide +kernel) (Nat.le_of_ble_eq_true rfl) (fun X hC => ?_)
  have hC : Ok G 7 6 X cX12_isTold RX12 (some .boolean) := hC
  have hB79 : ∀ (k2 : Int32 → Mem → Option (Int32 × Mem)), (∀ (x3 : Int32), ∀ σ : Mem, k2 x3 σ = some res → V G 7 6 X ((some (.int res.1)), res.2) σ [(0, .ref (ga G 65)), (1, .int x1), (2, .int x2), (3, .int x3)] [] 2) → ∀ (x3 : Int32), ∀ σ : Mem, p_X12_isTold_B79 k2 x1 x2 x3 σ = some res → V G 7 6 X ((some (.int res.1)), res.2) σ [(0, .ref (ga G 65)), (1, .int x1), (2, .int x2), (3, .int x3)] [] 79 := by
    intro k2 hk2 x3 σ h
    unfold p_X12_isTold_B79 at h
    refine v_blk hC (is := [(.aload_n 0, 0)]) (pc' := 80) (ls' := [(0, .ref (ga G 65)), (1, .int x1), (2, .int x2), (3, .int x3)]) (st' := [.ref (ga G 65)]) (by decide +kernel) rfl ?_
    refine gX12_1 hC lfX12_13 (by decide +kernel) ?_
    refine v_blk hC (is := [(.iconst 0, (0 : Int32))]) (pc' := 84) (ls' := [(0, .ref (ga G 65)), (1, .int x1), (2, .int x2), (3, .int x3)]) (st' := [.int (0 : Int32), .ref (ga G 67)]) (by decide +kernel) rfl ?_
    obtain ⟨v1, s2, e3, h⟩ := bndI h
    refine v_cS (idx := 119) hC ⟨tt_at 1163 (by decide +kernel) rfl, tsX12_season, tnX12_season, tcX12_season, tmX12_season⟩ (c_X12_season row67 e3) (by decide) (by decide) (by decide +kernel) (rest := []) rfl rfl (Nat.le_of_ble_eq_true rfl) rfl ?_
    refine v_blk hC (is := [(.iinc 3 1, (1 : Int32))]) (pc' := 90) (ls' := [(3, .int (x3 + (1 : Int32))), (0, .ref (ga G 65)), (1, .int x1), (2, .int x2)]) (st' := []) (by decide +kernel) rfl ?_
    refine v_goto hC (off := (-88)) (tgt := 2) (by decide +kernel) (by decide) ?_
    refine v_sub [1, 2, 3, 0] (ls' := [(0, .ref (ga G 65)), (1, .int x1), (2, .int x2), (3, .int (x3 + (1 : Int32)))]) rfl ?_
    exact hk2 _ _ h
  have hB54 : ∀ (k2 : Int32 → Mem → Option (Int32 × Mem)), (∀ (x3 : Int32), ∀ σ : Mem, k2 x3 σ = some res → V G 7 6 X ((some (.int res.1)), res.2) σ [(0, .ref (ga G 65)), (1, .int x1), (2, .int x2), (3, .int x3)] [] 2) → ∀ (x3 : Int32), ∀ (x4 : Int32), ∀ (t0 : Int32), ∀ σ : Mem, p_X12_isTold_B54 k2 x1 x2 x3 x4 t0 σ = some res → V G 7 6 X ((some (.int res.1)), res.2) σ [(0, .ref (ga G 65)), (1, .int x1), (2, .int x2), (3, .int x3), (4, .int x4)] [.int t0] 54 := by
    intro k2 hk2 x3 x4 t0 σ h
    unfold p_X12_isTold_B54 at h
    refine v_blk hC (is := [(.istore 5, 0), (.iload 4, 0), (.aload_n 0, 0)]) (pc' := 59) (ls' := [(5, .int t0), (0, .ref (ga G 65)), (1, .int x1), (2, .int x2), (3, .int x3), (4, .int x4)]) (st' := [.ref (ga G 65), .int x4]) (by decide +kernel) rfl ?_
    refine gX12_15 hC lfX12_40 (by decide +kernel) ?_
    refine v_blk hC (is := [(.iload_n 1, 0)]) (pc' := 63) (ls' := [(5, .int t0), (0, .ref (ga G 65)), (1, .int x1), (2, .int x2), (3, .int x3), (4, .int x4)]) (st' := [.int x1, .ref (ga G 76), .int x4]) (by decide +kernel) rfl ?_
    refine v_iald hC isA_76 rfl (by decide +kernel) h (fun v4 h => ?_)
    obtain ⟨v5, s6, e7, h⟩ := bndI h
    refine v_cS (idx := 223) hC ⟨tt_at 1410 (by decide +kernel) rfl, tsX12_leastOf, tnX12_leastOf, tcX12_leastOf, tmX12_leastOf⟩ (c_X12_leastOf e7) (by decide) (by decide) (by decide +kernel) (rest := [.int x4]) rfl rfl (Nat.le_of_ble_eq_true rfl) rfl ?_
    refine v_icmp_eq hC (off := 12) (tgt := 79) (by decide +kernel) (by decide) h (fun hq h => ?_) (fun hq h => ?_)
    · refine v_sub [1, 2, 3, 4] (ls' := [(0, .ref (ga G 65)), (1, .int x1), (2, .int x2), (3, .int x3)]) rfl ?_
      exact (hB79 _ hk2) _ _ h
    · refine v_blk hC (is := [(.iload 4, 0), (.iload 5, 0)]) (pc' := 74) (ls' := [(5, .int t0), (0, .ref (ga G 65)), (1, .int x1), (2, .int x2), (3, .int x3), (4, .int x4)]) (st' := [.int t0, .int x4]) (by decide +kernel) rfl ?_
      refine v_icmp_eq hC (off := 5) (tgt := 79) (by decide +kernel) (by decide) h (fun hq h => ?_) (fun hq h => ?_)
      · refine v_sub [1, 2, 3, 4] (ls' := [(0, .ref (ga G 65)), (1, .int x1), (2, .int x2), (3, .int x3)]) rfl ?_
        exact (hB79 _ hk2) _ _ h
      · refine v_blk hC (is := [(.iconst 0, (0 : Int32))]) (pc' := 78) (ls' := [(5, .int t0), (0, .ref (ga G 65)), (1, .int x1), (2, .int x2), (3, .int x3), (4, .int x4)]) (st' := [.int (0 : Int32)]) (by decide +kernel) rfl ?_
        exact v_zret hC rfl h (by decide +kernel)
  have hB2 : ∀ (k2 : Int32 → Mem → Option (Int32 × Mem)), (∀ (x3 : Int32), ∀ σ : Mem, k2 x3 σ = some res → V G 7 6 X ((some (.int res.1)), res.2) σ [(0, .ref (ga G 65)), (1, .int x1), (2, .int x2), (3, .int x3)] [] 2) → ∀ (x3 : Int32), ∀ σ : Mem, p_X12_isTold_B2 k2 x1 x2 x3 σ = some res → V G 7 6 X ((some (.int res.1)), res.2) σ [(0, .ref (ga G 65)), (1, .int x1), (2, .int x2), (3, .int x3)] [] 2 := by
    intro k2 hk2 x3 σ h
    unfold p_X12_isTold_B2 at h
    refine v_blk hC (is := [(.iload_n 3, 0), (.aload_n 0, 0)]) (pc' := 4) (ls' := [(0, .ref (ga G 65)), (1, .int x1), (2, .int x2), (3, .int x3)]) (st' := [.ref (ga G 65), .int x3]) (by decide +kernel) rfl ?_
    refine gX12_16 hC lfX12_43 (by decide +kernel) ?_
    refine v_blk hC (is := [(.iload_n 1, 0)]) (pc' := 8) (ls' := [(0, .ref (ga G 65)), (1, .int x1), (2, .int x2), (3, .int x3)]) (st' := [.int x1, .ref (ga G 77), .int x3]) (by decide +kernel) rfl ?_
    refine v_iald hC isA_77 rfl (by decide +kernel) h (fun v8 h => ?_)
    refine v_icmp_ge hC (off := 84) (tgt := 93) (by decide +kernel) (by decide) h (fun hq h => ?_) (fun hq h => ?_)
    · refine v_blk hC (is := [(.iconst 1, (1 : Int32))]) (pc' := 94) (ls' := [(0, .ref (ga G 65)), (1, .int x1), (2, .int x2), (3, .int x3)]) (st' := [.int (1 : Int32)]) (by decide +kernel) rfl ?_
      exact v_zret hC rfl h (by decide +kernel)
    · refine v_blk hC (is := [(.aload_n 0, 0)]) (pc' := 13) (ls' := [(0, .ref (ga G 65)), (1, .int x1), (2, .int x2), (3, .int x3)]) (st' := [.ref (ga G 65)]) (by decide +kernel) rfl ?_
      refine gX12_17 hC lfX12_46 (by decide +kernel) ?_
      refine v_blk hC (is := [(.bipush 100, (100 : Int32)), (.iload_n 1, 0), (.imul, 0), (.iload_n 3, 0), (.iadd, 0)]) (pc' := 22) (ls' := [(0, .ref (ga G 65)), (1, .int x1), (2, .int x2), (3, .int x3)]) (st' := [.int (((100 : Int32) * x1) + x3), .ref (ga G 78)]) (by decide +kernel) rfl ?_
      refine v_iald hC isA_78 rfl (by decide +kernel) h (fun v9 h => ?_)
      refine v_blk hC (is := [(.istore 4, 0), (.aload_n 0, 0)]) (pc' := 26) (ls' := [(4, .int v9), (0, .ref (ga G 65)), (1, .int x1), (2, .int x2), (3, .int x3)]) (st' := [.ref (ga G 65)]) (by decide +kernel) rfl ?_
      refine gX12_1 hC lfX12_13 (by decide +kernel) ?_
      refine v_blk hC (is := [(.iload_n 2, 0), (.iconst 3, (3 : Int32))]) (pc' := 31) (ls' := [(4, .int v9), (0, .ref (ga G 65)), (1, .int x1), (2, .int x2), (3, .int x3)]) (st' := [.int (3 : Int32), .int x2, .ref (ga G 67)]) (by decide +kernel) rfl ?_
      obtain ⟨v10, s11, e12, h⟩ := bndI h
      refine v_cS (idx := 57) hC ⟨tt_at 1143 (by decide +kernel) rfl, tsX12_of, tnX12_of, tcX12_of, tmX12_of⟩ (c_X12_of e12) (by decide) (by decide) (by decide +kernel) (rest := [.ref (ga G 67)]) rfl rfl (Nat.le_of_ble_eq_true rfl) rfl ?_
      refine v_iald hC isA_67 rfl (by decide +kernel) h (fun v13 h => ?_)
      refine v_blk hC (is := [(.iconst 1, (1 : Int32))]) (pc' := 36) (ls' := [(4, .int v9), (0, .ref (ga G 65)), (1, .int x1), (2, .int x2), (3, .int x3)]) (st' := [.int (1 : Int32), .int v13]) (by decide +kernel) rfl ?_
      refine v_icmp_ne hC (off := 8) (tgt := 44) (by decide +kernel) (by decide) h (fun hq h => ?_) (fun hq h => ?_)
      · refine v_blk hC (is := [(.aload_n 0, 0)]) (pc' := 45) (ls' := [(4, .int v9), (0, .ref (ga G 65)), (1, .int x1), (2, .int x2), (3, .int x3)]) (st' := [.ref (ga G 65)]) (by decide +kernel) rfl ?_
        refine gX12_1 hC lfX12_13 (by decide +kernel) ?_
        refine v_blk hC (is := [(.iload_n 2, 0), (.iconst 2, (2 : Int32))]) (pc' := 50) (ls' := [(4, .int v9), (0, .ref (ga G 65)), (1, .int x1), (2, .int x2), (3, .int x3)]) (st' := [.int (2 : Int32), .int x2, .ref (ga G 67)]) (by decide +kernel) rfl ?_
        obtain ⟨v14, s15, e16, h⟩ := bndI h
        refine v_cS (idx := 57) hC ⟨tt_at 1143 (by decide +kernel) rfl, tsX12_of, tnX12_of, tcX12_of, tmX12_of⟩ (c_X12_of e16) (by decide) (by decide) (by decide +kernel) (rest := [.ref (ga G 67)]) rfl rfl (Nat.le_of_ble_eq_true rfl) rfl ?_
        refine v_iald hC isA_67 rfl (by decide +kernel) h (fun v17 h => ?_)
        refine v_sub [1, 2, 3, 4, 0] (ls' := [(0, .ref (ga G 65)), (1, .int x1), (2, .int x2), (3, .int x3), (4, .int v9)]) rfl ?_
        exact (hB54 _ hk2) _ _ _ _ h
      · refine v_blk hC (is := [(.bipush 8, (8 : Int32))]) (pc' := 41) (ls' := [(4, .int v9), (0, .ref (ga G 65)), (1, .int x1), (2, .int x2), (3, .int x3)]) (st' := [.int (8 : Int32)]) (by decide +kernel) rfl ?_
        refine v_goto hC (off := 13) (tgt := 54) (by decide +kernel) (by decide) ?_
        refine v_sub [1, 2, 3, 4, 0] (ls' := [(0, .ref (ga G 65)), (1, .int x1), (2, .int x2), (3, .int x3), (4, .int v9)]) rfl ?_
        exact (hB54 _ hk2) _ _ _ _ h
  have hL2 : ∀ f : Nat, ∀ (x3 : Int32), ∀ σ : Mem, p_X12_isTold_L2 x1 x2 f x3 σ = some res → V G 7 6 X ((some (.int res.1)), res.2) σ [(0, .ref (ga G 65)), (1, .int x1), (2, .int x2), (3, .int x3)] [] 2 := by
    intro  f
    induction f with
    | zero => intro x3 σ h; exact none_some h
    | succ f ih => intro x3 σ h; exact hB2 (p_X12_isTold_L2 x1 x2 f)  ih  x3 σ h
  unfold p_X12_isTold at h
  show V G 7 6 X ((some (.int res.1)), res.2) σ [(0, .ref (ga G 65)), (1, .int x1), (2, .int x2)] [] 0
  refine v_blk hC (is := [(.iconst 0, (0 : Int32)), (.istore_n 3, 0)]) (pc' := 2) (ls' := [(3, .int (0 : Int32)), (0, .ref (ga G 65)), (1, .int x1), (2, .int x2)]) (st' := []) (by decide +kernel) rfl ?_
  refine v_sub [1, 2, 3, 0] (ls' := [(0, .ref (ga G 65)), (1, .int x1), (2, .int x2), (3, .int (0 : Int32))]) rfl ?_
  exact (hL2 1000) _ _ h

def p_X12_whatIs_B99 (k41 : Int32 → Int32 → Mem → Option (Int32 × Mem)) (x1 : Int32) (x2 : Int32) (x3 : Int32) (x6 : Int32) (t0 : Int32) (t1 : Int32) (σ : Mem) : Option (Int32 × Mem) := k41 (t0 ||| t1) (x6 + (1 : Int32)) σ
def p_X12_whatIs_B54 (k41 : Int32 → Int32 → Mem → Option (Int32 × Mem)) (x1 : Int32) (x2 : Int32) (x3 : Int32) (x5 : Int32) (x6 : Int32) (t0 : Int32) (t1 : Int32) (σ : Mem) : Option (Int32 × Mem) := (if t1 ≤ t0 then some (x5, σ) else (bnd (p_X12_copies 66 67 σ) fun (v1 : Unit) s2 => (bnd (p_X12_of x2 x3 s2) fun v4 s5 => (if v4 < 0 ∨ 100 ≤ (v4).toNatClampNeg then none else wr s5 67 (v4).toNatClampNeg x6 fun s7 => (bnd (p_X12_isTold x1 x2 s7) fun v8 s9 => (if v8 = 0 then (p_X12_whatIs_B99 k41 x1 x2 x3) x6 x5 (0 : Int32) s9 else (p_X12_whatIs_B99 k41 x1 x2 x3) x6 x5 ((1 : Int32) <<< (x6 &&& 31)) s9))))))
def p_X12_whatIs_B41 (k41 : Int32 → Int32 → Mem → Option (Int32 × Mem)) (x1 : Int32) (x2 : Int32) (x3 : Int32) (x5 : Int32) (x6 : Int32) (σ : Mem) : Option (Int32 × Mem) := (if x3 = 0 then (p_X12_whatIs_B54 k41 x1 x2 x3) x5 x6 x6 (8 : Int32) σ else (p_X12_whatIs_B54 k41 x1 x2 x3) x5 x6 x6 (10 : Int32) σ)
def p_X12_whatIs_L41  (x1 : Int32) (x2 : Int32) (x3 : Int32) : Nat → Int32 → Int32 → Mem → Option (Int32 × Mem)
  | 0 => fun _ _ _ => none
  | f + 1 => p_X12_whatIs_B41 (p_X12_whatIs_L41 x1 x2 x3 f) x1 x2 x3
def p_X12_whatIs (x1 : Int32) (x2 : Int32) (x3 : Int32) (σ : Mem) : Option (Int32 × Mem) := (bnd (p_X12_isMan x2 σ) fun v11 s12 => (if v11 = 0 then some ((-1 : Int32), s12) else (bnd (p_X12_isIn x3 (0 : Int32) (1 : Int32) s12) fun v14 s15 => (if v14 = 0 then some ((-1 : Int32), s15) else (bnd (p_X12_wrongRow x1 (-1 : Int32) s15) fun v17 s18 => (if v17 = 0 then (p_X12_whatIs_L41 x1 x2 x3 1000) (0 : Int32) (0 : Int32) s18 else some (v17, s18)))))))
set_option maxHeartbeats 4000000 in
set_option maxRecDepth 100000 in
theorem c_X12_whatIs {G : Gl} {x1 : Int32} {x2 : Int32} {x3 : Int32} {σ : Mem} {res : Int32 × Mem}  (h : p_X12_whatIs x1 x2 x3 σ = some res) : MetX G yX12_whatIs cX12_whatIs 7 (some .int) 8 [.ref (ga G 65), .int x1, .int x2, .int x3] σ (some (.int res.1)) res.2 := by
  refine met_V (by decide +kernel) (Nat.le_of_ble_eq_true rfl) (fun X hC => ?_)
  have hC : Ok G 8 7 X cX12_whatIs RX12 (some .int) := hC
  have hB99 : ∀ (k41 : Int32 → Int32 → Mem → Option (Int32 × Mem)), (∀ (x5 : Int32), ∀ (x6 : Int32), ∀ σ : Mem, k41 x5 x6 σ = some res → V G 8 7 X ((some (.int res.1)), res.2) σ [(0, .ref (ga G 65)), (1, .int x1), (2, .int x2), (3, .int x3), (5, .int x5), (6, .int x6)] [] 41) → ∀ (x6 : Int32), ∀ (t0 : Int32), ∀ (t1 : Int32), ∀ σ : Mem, p_X12_whatIs_B99 k41 x1 x2 x3 x6 t0 t1 σ = some res → V G 8 7 X ((some (.int res.1)), res.2) σ [(0, .ref (ga G 65)), (1, .int x1), (2, .int x2), (3, .int x3), (6, .int x6)] [.int t1, .int t0] 99 := by
    intro k41 hk41 x6 t0 t1 σ h
    unfold p_X12_whatIs_B99 at h
    refine v_blk hC (is := [(.ior, 0), (.istore 5, 0), (.iinc 6 1, (1 : Int32))]) (pc' := 105) (ls' := [(6, .int (x6 + (1 : Int32))), (5, .int (t0 ||| t1)), (0, .ref (ga G 65)), (1, .int x1), (2, .int x2), (3, .int x3)]) (st' := []) (by decide +kernel) rfl ?_
    refine v_goto hC (off := (-64)) (tgt := 41) (by decide +kernel) (by decide) ?_
    refine v_sub [2, 3, 4, 5, 1, 0] (ls' := [(0, .ref (ga G 65)), (1, .int x1), (2, .int x2), (3, .int x3), (5, .int (t0 ||| t1)), (6, .int (x6 + (1 : Int32)))]) rfl ?_
    exact hk41 _ _ _ h
  have hB54 : ∀ (k41 : Int32 → Int32 → Mem → Option (Int32 × Mem)), (∀ (x5 : Int32), ∀ (x6 : Int32), ∀ σ : Mem, k41 x5 x6 σ = some res → V G 8 7 X ((some (.int res.1)), res.2) σ [(0, .ref (ga G 65)), (1, .int x1), (2, .int x2), (3, .int x3), (5, .int x5), (6, .int x6)] [] 41) → ∀ (x5 : Int32), ∀ (x6 : Int32), ∀ (t0 : Int32), ∀ (t1 : Int32), ∀ σ : Mem, p_X12_whatIs_B54 k41 x1 x2 x3 x5 x6 t0 t1 σ = some res → V G 8 7 X ((some (.int res.1)), res.2) σ [(0, .ref (ga G 65)), (1, .int x1), (2, .int x2), (3, .int x3), (5, .int x5), (6, .int x6)] [.int t1, .int t0] 54 := by
    intro k41 hk41 x5 x6 t0 t1 σ h
    unfold p_X12_whatIs_B54 at h
    refine v_icmp_ge hC (off := 54) (tgt := 108) (by decide +kernel) (by decide) h (fun hq h => ?_) (fun hq h => ?_)
    · refine v_blk hC (is := [(.iload 5, 0)]) (pc' := 110) (ls' := [(0, .ref (ga G 65)), (1, .int x1), (2, .int x2), (3, .int x3), (5, .int x5), (6, .int x6)]) (st' := [.int x5]) (by decide +kernel) rfl ?_
      exact v_iret hC h (by decide +kernel)
    · refine v_blk hC (is := [(.aload_n 0, 0)]) (pc' := 58) (ls' := [(0, .ref (ga G 65)), (1, .int x1), (2, .int x2), (3, .int x3), (5, .int x5), (6, .int x6)]) (st' := [.ref (ga G 65)]) (by decide +kernel) rfl ?_
      refine gX12_0 hC lfX12_9 (by decide +kernel) ?_
      refine v_blk hC (is := [(.aload_n 0, 0)]) (pc' := 62) (ls' := [(0, .ref (ga G 65)), (1, .int x1), (2, .int x2), (3, .int x3), (5, .int x5), (6, .int x6)]) (st' := [.ref (ga G 65), .ref (ga G 66)]) (by decide +kernel) rfl ?_
      refine gX12_1 hC lfX12_13 (by decide +kernel) ?_
      obtain ⟨v1, s2, e3, h⟩ := bndI h
      refine v_cS (idx := 164) hC ⟨tt_at 1133 (by decide +kernel) rfl, tsX12_copies, tnX12_copies, tcX12_copies, tmX12_copies⟩ (c_X12_copies row66 row67 e3) (by decide) (by decide) (by decide +kernel) (rest := []) rfl rfl (Nat.le_of_ble_eq_true rfl) rfl ?_
      refine v_blk hC (is := [(.aload_n 0, 0)]) (pc' := 69) (ls' := [(0, .ref (ga G 65)), (1, .int x1), (2, .int x2), (3, .int x3), (5, .int x5), (6, .int x6)]) (st' := [.ref (ga G 65)]) (by decide +kernel) rfl ?_
      refine gX12_1 hC lfX12_13 (by decide +kernel) ?_
      refine v_blk hC (is := [(.iload_n 2, 0), (.iload_n 3, 0)]) (pc' := 74) (ls' := [(0, .ref (ga G 65)), (1, .int x1), (2, .int x2), (3, .int x3), (5, .int x5), (6, .int x6)]) (st' := [.int x3, .int x2, .ref (ga G 67)]) (by decide +kernel) rfl ?_
      obtain ⟨v4, s5, e6, h⟩ := bndI h
      refine v_cS (idx := 57) hC ⟨tt_at 1143 (by decide +kernel) rfl, tsX12_of, tnX12_of, tcX12_of, tmX12_of⟩ (c_X12_of e6) (by decide) (by decide) (by decide +kernel) (rest := [.ref (ga G 67)]) rfl rfl (Nat.le_of_ble_eq_true rfl) rfl ?_
      refine v_blk hC (is := [(.iload 6, 0)]) (pc' := 79) (ls' := [(0, .ref (ga G 65)), (1, .int x1), (2, .int x2), (3, .int x3), (5, .int x5), (6, .int x6)]) (st' := [.int x6, .int v4, .ref (ga G 67)]) (by decide +kernel) rfl ?_
      refine v_iast hC isA_67 rfl (by decide +kernel) h (fun s7 h => ?_)
      refine v_blk hC (is := [(.iload 5, 0), (.aload_n 0, 0), (.iload_n 1, 0), (.iload_n 2, 0)]) (pc' := 85) (ls' := [(0, .ref (ga G 65)), (1, .int x1), (2, .int x2), (3, .int x3), (5, .int x5), (6, .int x6)]) (st' := [.int x2, .int x1, .ref (ga G 65), .int x5]) (by decide +kernel) rfl ?_
      obtain ⟨v8, s9, e10, h⟩ := bndI h
      refine v_cV (idx := 226) hC ⟨tt_at 1406 (by decide +kernel) rfl, tiX12_isTold, tvX12_isTold, tnX12_isTold, tcX12_isTold, tmX12_isTold⟩ isO_X12 rfl (c_X12_isTold e10) (by decide) (by decide) (by decide +kernel) (rest := [.int x5]) rfl rfl (Nat.le_of_ble_eq_true rfl) rfl ?_
      refine v_if_eq hC (off := 10) (tgt := 98) (by decide +kernel) (by decide) h (fun hq h => ?_) (fun hq h => ?_)
      · refine v_blk hC (is := [(.iconst 0, (0 : Int32))]) (pc' := 99) (ls' := [(0, .ref (ga G 65)), (1, .int x1), (2, .int x2), (3, .int x3), (5, .int x5), (6, .int x6)]) (st' := [.int (0 : Int32), .int x5]) (by decide +kernel) rfl ?_
        refine v_sub [0, 1, 2, 3, 5] (ls' := [(0, .ref (ga G 65)), (1, .int x1), (2, .int x2), (3, .int x3), (6, .int x6)]) rfl ?_
        exact (hB99 _ hk41) _ _ _ _ h
      · refine v_blk hC (is := [(.iconst 1, (1 : Int32)), (.iload 6, 0), (.ishl, 0)]) (pc' := 95) (ls' := [(0, .ref (ga G 65)), (1, .int x1), (2, .int x2), (3, .int x3), (5, .int x5), (6, .int x6)]) (st' := [.int ((1 : Int32) <<< (x6 &&& 31)), .int x5]) (by decide +kernel) rfl ?_
        refine v_goto hC (off := 4) (tgt := 99) (by decide +kernel) (by decide) ?_
        refine v_sub [0, 1, 2, 3, 5] (ls' := [(0, .ref (ga G 65)), (1, .int x1), (2, .int x2), (3, .int x3), (6, .int x6)]) rfl ?_
        exact (hB99 _ hk41) _ _ _ _ h
  have hB41 : ∀ (k41 : Int32 → Int32 → Mem → Option (Int32 × Mem)), (∀ (x5 : Int32), ∀ (x6 : Int32), ∀ σ : Mem, k41 x5 x6 σ = some res → V G 8 7 X ((some (.int res.1)), res.2) σ [(0, .ref (ga G 65)), (1, .int x1), (2, .int x2), (3, .int x3), (5, .int x5), (6, .int x6)] [] 41) → ∀ (x5 : Int32), ∀ (x6 : Int32), ∀ σ : Mem, p_X12_whatIs_B41 k41 x1 x2 x3 x5 x6 σ = some res → V G 8 7 X ((some (.int res.1)), res.2) σ [(0, .ref (ga G 65)), (1, .int x1), (2, .int x2), (3, .int x3), (5, .int x5), (6, .int x6)] [] 41 := by
    intro k41 hk41 x5 x6 σ h
    unfold p_X12_whatIs_B41 at h
    refine v_blk hC (is := [(.iload 6, 0), (.iload_n 3, 0)]) (pc' := 44) (ls' := [(0, .ref (ga G 65)), (1, .int x1), (2, .int x2), (3, .int x3), (5, .int x5), (6, .int x6)]) (st' := [.int x3, .int x6]) (by decide +kernel) rfl ?_
    refine v_if_ne hC (off := 8) (tgt := 52) (by decide +kernel) (by decide) h (fun hq h => ?_) (fun hq h => ?_)
    · refine v_blk hC (is := [(.bipush 10, (10 : Int32))]) (pc' := 54) (ls' := [(0, .ref (ga G 65)), (1, .int x1), (2, .int x2), (3, .int x3), (5, .int x5), (6, .int x6)]) (st' := [.int (10 : Int32), .int x6]) (by decide +kernel) rfl ?_
      exact (hB54 _ hk41) _ _ _ _ _ h
    · refine v_blk hC (is := [(.bipush 8, (8 : Int32))]) (pc' := 49) (ls' := [(0, .ref (ga G 65)), (1, .int x1), (2, .int x2), (3, .int x3), (5, .int x5), (6, .int x6)]) (st' := [.int (8 : Int32), .int x6]) (by decide +kernel) rfl ?_
      refine v_goto hC (off := 5) (tgt := 54) (by decide +kernel) (by decide) ?_
      exact (hB54 _ hk41) _ _ _ _ _ h
  have hL41 : ∀ f : Nat, ∀ (x5 : Int32), ∀ (x6 : Int32), ∀ σ : Mem, p_X12_whatIs_L41 x1 x2 x3 f x5 x6 σ = some res → V G 8 7 X ((some (.int res.1)), res.2) σ [(0, .ref (ga G 65)), (1, .int x1), (2, .int x2), (3, .int x3), (5, .int x5), (6, .int x6)] [] 41 := by
    intro  f
    induction f with
    | zero => intro x5 x6 σ h; exact none_some h
    | succ f ih => intro x5 x6 σ h; exact hB41 (p_X12_whatIs_L41 x1 x2 x3 f)  ih  x5 x6 σ h
  unfold p_X12_whatIs at h
  show V G 8 7 X ((some (.int res.1)), res.2) σ [(0, .ref (ga G 65)), (1, .int x1), (2, .int x2), (3, .int x3)] [] 0
  refine v_blk hC (is := [(.aload_n 0, 0), (.iload_n 2, 0)]) (pc' := 2) (ls' := [(0, .ref (ga G 65)), (1, .int x1), (2, .int x2), (3, .int x3)]) (st' := [.int x2, .ref (ga G 65)]) (by decide +kernel) rfl ?_
  obtain ⟨v11, s12, e13, h⟩ := bndI h
  refine v_cV (idx := 53) hC ⟨tt_at 1150 (by decide +kernel) rfl, tiX12_isMan, tvX12_isMan, tnX12_isMan, tcX12_isMan, tmX12_isMan⟩ isO_X12 rfl (c_X12_isMan e13) (by decide) (by decide) (by decide +kernel) (rest := []) rfl rfl (Nat.le_of_ble_eq_true rfl) rfl ?_
  refine v_if_eq hC (off := 12) (tgt := 17) (by decide +kernel) (by decide) h (fun hq h => ?_) (fun hq h => ?_)
  · refine v_blk hC (is := [(.iconst (-1), (-1 : Int32))]) (pc' := 18) (ls' := [(0, .ref (ga G 65)), (1, .int x1), (2, .int x2), (3, .int x3)]) (st' := [.int (-1 : Int32)]) (by decide +kernel) rfl ?_
    exact v_iret hC h (by decide +kernel)
  · refine v_blk hC (is := [(.iload_n 3, 0), (.iconst 0, (0 : Int32)), (.iconst 1, (1 : Int32))]) (pc' := 11) (ls' := [(0, .ref (ga G 65)), (1, .int x1), (2, .int x2), (3, .int x3)]) (st' := [.int (1 : Int32), .int (0 : Int32), .int x3]) (by decide +kernel) rfl ?_
    obtain ⟨v14, s15, e16, h⟩ := bndI h
    refine v_cS (idx := 49) hC ⟨tt_at 1118 (by decide +kernel) rfl, tsX12_isIn, tnX12_isIn, tcX12_isIn, tmX12_isIn⟩ (c_X12_isIn e16) (by decide) (by decide) (by decide +kernel) (rest := []) rfl rfl (Nat.le_of_ble_eq_true rfl) rfl ?_
    refine v_if_ne hC (off := 5) (tgt := 19) (by decide +kernel) (by decide) h (fun hq h => ?_) (fun hq h => ?_)
    · refine v_blk hC (is := [(.aload_n 0, 0), (.iload_n 1, 0), (.iconst (-1), (-1 : Int32))]) (pc' := 22) (ls' := [(0, .ref (ga G 65)), (1, .int x1), (2, .int x2), (3, .int x3)]) (st' := [.int (-1 : Int32), .int x1, .ref (ga G 65)]) (by decide +kernel) rfl ?_
      obtain ⟨v17, s18, e19, h⟩ := bndI h
      refine v_cV (idx := 157) hC ⟨tt_at 1111 (by decide +kernel) rfl, tiX12_wrongRow, tvX12_wrongRow, tnX12_wrongRow, tcX12_wrongRow, tmX12_wrongRow⟩ isO_X12 rfl (c_X12_wrongRow e19) (by decide) (by decide) (by decide +kernel) (rest := []) rfl rfl (Nat.le_of_ble_eq_true rfl) rfl ?_
      refine v_blk hC (is := [(.istore 4, 0), (.iload 4, 0)]) (pc' := 29) (ls' := [(4, .int v17), (0, .ref (ga G 65)), (1, .int x1), (2, .int x2), (3, .int x3)]) (st' := [.int v17]) (by decide +kernel) rfl ?_
      refine v_if_eq hC (off := 6) (tgt := 35) (by decide +kernel) (by decide) h (fun hq h => ?_) (fun hq h => ?_)
      · refine v_blk hC (is := [(.iconst 0, (0 : Int32)), (.istore 5, 0), (.iconst 0, (0 : Int32)), (.istore 6, 0)]) (pc' := 41) (ls' := [(6, .int (0 : Int32)), (5, .int (0 : Int32)), (4, .int v17), (0, .ref (ga G 65)), (1, .int x1), (2, .int x2), (3, .int x3)]) (st' := []) (by decide +kernel) rfl ?_
        refine v_sub [3, 4, 5, 6, 1, 0] (ls' := [(0, .ref (ga G 65)), (1, .int x1), (2, .int x2), (3, .int x3), (5, .int (0 : Int32)), (6, .int (0 : Int32))]) rfl ?_
        exact (hL41 1000) _ _ _ h
      · refine v_blk hC (is := [(.iload 4, 0)]) (pc' := 34) (ls' := [(4, .int v17), (0, .ref (ga G 65)), (1, .int x1), (2, .int x2), (3, .int x3)]) (st' := [.int v17]) (by decide +kernel) rfl ?_
        exact v_iret hC h (by decide +kernel)
    · refine v_blk hC (is := [(.iconst (-1), (-1 : Int32))]) (pc' := 18) (ls' := [(0, .ref (ga G 65)), (1, .int x1), (2, .int x2), (3, .int x3)]) (st' := [.int (-1 : Int32)]) (by decide +kernel) rfl ?_
      exact v_iret hC h (by decide +kernel)

def p_X12_mean (x1 : Int32) (σ : Mem) : Option (Int64 × Mem) := (bnd (p_X12_isIn x1 (0 : Int32) (1 : Int32) σ) fun v1 s2 => (if v1 = 0 then some ((1000000001 : Int64), s2) else (bnd (p_X12_aliveSet 66 s2) fun v4 s5 => (bnd (p_X12_skillIn v4 s5) fun v7 s8 => (bnd (p_X12_aliveSet 66 s8) fun v10 s11 => (bnd (p_X12_bits v10 s11) fun v13 s14 => (bnd (p_X12_partOf (Int32.toInt64 v7) (Int32.toInt64 v13) x1 s14) fun v16 s17 => some (v16, s17))))))))
set_option maxHeartbeats 4000000 in
set_option maxRecDepth 100000 in
theorem c_X12_mean {G : Gl} {x1 : Int32} {σ : Mem} {res : Int64 × Mem}  (h : p_X12_mean x1 σ = some res) : MetX G yX12_mean cX12_mean 2 (some .long) 4 [.ref (ga G 65), .int x1] σ (some (.long res.1)) res.2 := by
  refine met_V (by decide +kernel) (Nat.le_of_ble_eq_true rfl) (fun X hC => ?_)
  have hC : Ok G 4 2 X cX12_mean RX12 (some .long) := hC
  unfold p_X12_mean at h
  show V G 4 2 X ((some (.long res.1)), res.2) σ [(0, .ref (ga G 65)), (1, .int x1)] [] 0
  refine v_blk hC (is := [(.iload_n 1, 0), (.iconst 0, (0 : Int32)), (.iconst 1, (1 : Int32))]) (pc' := 3) (ls' := [(0, .ref (ga G 65)), (1, .int x1)]) (st' := [.int (1 : Int32), .int (0 : Int32), .int x1]) (by decide +kernel) rfl ?_
  obtain ⟨v1, s2, e3, h⟩ := bndI h
  refine v_cS (idx := 49) hC ⟨tt_at 1118 (by decide +kernel) rfl, tsX12_isIn, tnX12_isIn, tcX12_isIn, tmX12_isIn⟩ (c_X12_isIn e3) (by decide) (by decide) (by decide +kernel) (rest := []) rfl rfl (Nat.le_of_ble_eq_true rfl) rfl ?_
  refine v_if_eq hC (off := 33) (tgt := 39) (by decide +kernel) (by decide) h (fun hq h => ?_) (fun hq h => ?_)
  · refine v_ldc2 hC (idx := 216) (v := (1000000001 : Int64)) (tt_at 1395 (by decide +kernel) rfl) (by decide +kernel) ?_
    exact v_lret hC h (by decide +kernel)
  · refine v_blk hC (is := [(.aload_n 0, 0), (.aload_n 0, 0)]) (pc' := 11) (ls' := [(0, .ref (ga G 65)), (1, .int x1)]) (st' := [.ref (ga G 65), .ref (ga G 65)]) (by decide +kernel) rfl ?_
    refine gX12_0 hC lfX12_9 (by decide +kernel) ?_
    obtain ⟨v4, s5, e6, h⟩ := bndI h
    refine v_cS (idx := 180) hC ⟨tt_at 1260 (by decide +kernel) rfl, tsX12_aliveSet, tnX12_aliveSet, tcX12_aliveSet, tmX12_aliveSet⟩ (c_X12_aliveSet row66 e6) (by decide) (by decide) (by decide +kernel) (rest := [.ref (ga G 65)]) rfl rfl (Nat.le_of_ble_eq_true rfl) rfl ?_
    obtain ⟨v7, s8, e9, h⟩ := bndI h
    refine v_cV (idx := 195) hC ⟨tt_at 1298 (by decide +kernel) rfl, tiX12_skillIn, tvX12_skillIn, tnX12_skillIn, tcX12_skillIn, tmX12_skillIn⟩ isO_X12 rfl (c_X12_skillIn e9) (by decide) (by decide) (by decide +kernel) (rest := []) rfl rfl (Nat.le_of_ble_eq_true rfl) rfl ?_
    refine v_blk hC (is := [(.i2l, 0), (.aload_n 0, 0)]) (pc' := 22) (ls' := [(0, .ref (ga G 65)), (1, .int x1)]) (st' := [.ref (ga G 65), .long (Int32.toInt64 v7)]) (by decide +kernel) rfl ?_
    refine gX12_0 hC lfX12_9 (by decide +kernel) ?_
    obtain ⟨v10, s11, e12, h⟩ := bndI h
    refine v_cS (idx := 180) hC ⟨tt_at 1260 (by decide +kernel) rfl, tsX12_aliveSet, tnX12_aliveSet, tcX12_aliveSet, tmX12_aliveSet⟩ (c_X12_aliveSet row66 e12) (by decide) (by decide) (by decide +kernel) (rest := [.long (Int32.toInt64 v7)]) rfl rfl (Nat.le_of_ble_eq_true rfl) rfl ?_
    obtain ⟨v13, s14, e15, h⟩ := bndI h
    refine v_cS (idx := 126) hC ⟨tt_at 1249 (by decide +kernel) rfl, tsX12_bits, tnX12_bits, tcX12_bits, tmX12_bits⟩ (c_X12_bits e15) (by decide) (by decide) (by decide +kernel) (rest := [.long (Int32.toInt64 v7)]) rfl rfl (Nat.le_of_ble_eq_true rfl) rfl ?_
    refine v_blk hC (is := [(.i2l, 0), (.iload_n 1, 0)]) (pc' := 33) (ls' := [(0, .ref (ga G 65)), (1, .int x1)]) (st' := [.int x1, .long (Int32.toInt64 v13), .long (Int32.toInt64 v7)]) (by decide +kernel) rfl ?_
    obtain ⟨v16, s17, e18, h⟩ := bndI h
    refine v_cS (idx := 218) hC ⟨tt_at 1396 (by decide +kernel) rfl, tsX12_partOf, tnX12_partOf, tcX12_partOf, tmX12_partOf⟩ (c_X12_partOf e18) (by decide) (by decide) (by decide +kernel) (rest := []) rfl rfl (Nat.le_of_ble_eq_true rfl) rfl ?_
    refine v_goto hC (off := 6) (tgt := 42) (by decide +kernel) (by decide) ?_
    exact v_lret hC h (by decide +kernel)

def p_X12_forged_B103  (x1 : Int32) (x3 : Int32) (σ : Mem) : Option (Int32 × Mem) := some ((x3 / (2 : Int32)), σ)
def p_X12_forged_B34 (k34 : Int32 → Mem → Option (Int32 × Mem)) (k103 : Int32 → Mem → Option (Int32 × Mem)) (x1 : Int32) (x3 : Int32) (σ : Mem) : Option (Int32 × Mem) := (if x1 < 0 ∨ 8 ≤ (x1).toNatClampNeg then none else lt (σ 77 (x1).toNatClampNeg) fun v1 => (if v1 ≤ x3 then some ((-4 : Int32), σ) else (if (((100 : Int32) * x1) + x3) < 0 ∨ 800 ≤ ((((100 : Int32) * x1) + x3)).toNatClampNeg then none else lt (σ 78 ((((100 : Int32) * x1) + x3)).toNatClampNeg) fun v2 => (if ((((100 : Int32) * x1) + x3) + (1 : Int32)) < 0 ∨ 800 ≤ (((((100 : Int32) * x1) + x3) + (1 : Int32))).toNatClampNeg then none else lt (σ 78 (((((100 : Int32) * x1) + x3) + (1 : Int32))).toNatClampNeg) fun v3 => (bnd (p_X12_areTwo v2 v3 σ) fun v4 s5 => (if v4 = 0 then k103 x3 s5 else (if (1 : Int32) < 0 ∨ 100 ≤ ((1 : Int32)).toNatClampNeg then none else lt (s5 66 ((1 : Int32)).toNatClampNeg) fun v7 => (bnd (p_X12_hasSaved 66 v2 v3 v7 s5) fun v8 s9 => (if v8 = 0 then k103 x3 s9 else k34 (x3 + (2 : Int32)) s9)))))))))
def p_X12_forged_L34 (k103 : Int32 → Mem → Option (Int32 × Mem)) (x1 : Int32) : Nat → Int32 → Mem → Option (Int32 × Mem)
  | 0 => fun _ _ => none
  | f + 1 => p_X12_forged_B34 (p_X12_forged_L34 k103 x1 f) k103 x1
def p_X12_forged_B26  (x1 : Int32) (x2 : Int32) (σ : Mem) : Option (Int32 × Mem) := (if x2 = 0 then (p_X12_forged_L34 (p_X12_forged_B103 x1) x1 1000) (0 : Int32) σ else some (x2, σ))
def p_X12_forged (x1 : Int32) (σ : Mem) : Option (Int32 × Mem) := (bnd (p_X12_wrongRow x1 (-1 : Int32) σ) fun v11 s12 => (if v11 = 0 then (if x1 < 0 ∨ 8 ≤ (x1).toNatClampNeg then none else lt (s12 77 (x1).toNatClampNeg) fun v14 => (if (v14 - v14 / (2 : Int32) * (2 : Int32)) = (1 : Int32) then (p_X12_forged_B26 x1) (-13 : Int32) s12 else (p_X12_forged_B26 x1) v11 s12)) else (p_X12_forged_B26 x1) v11 s12))
set_option maxHeartbeats 4000000 in
set_option maxRecDepth 100000 in
theorem c_X12_forged {G : Gl} {x1 : Int32} {σ : Mem} {res : Int32 × Mem}  (h : p_X12_forged x1 σ = some res) : MetX G yX12_forged cX12_forged 6 (some .int) 4 [.ref (ga G 65), .int x1] σ (some (.int res.1)) res.2 := by
  refine met_V (by decide +kernel) (Nat.le_of_ble_eq_true rfl) (fun X hC => ?_)
  have hC : Ok G 4 6 X cX12_forged RX12 (some .int) := hC
  have hB103 : ∀ (x3 : Int32), ∀ σ : Mem, p_X12_forged_B103 x1 x3 σ = some res → V G 4 6 X ((some (.int res.1)), res.2) σ [(3, .int x3)] [] 103 := by
    intro x3 σ h
    unfold p_X12_forged_B103 at h
    refine v_blk hC (is := [(.iload_n 3, 0), (.iconst 2, (2 : Int32))]) (pc' := 105) (ls' := [(3, .int x3)]) (st' := [.int (2 : Int32), .int x3]) (by decide +kernel) rfl ?_
    refine v_idiv hC (by decide +kernel) (by decide) ?_
    exact v_iret hC h (by decide +kernel)
  have hB34 : ∀ (k34 : Int32 → Mem → Option (Int32 × Mem)), ∀ (k103 : Int32 → Mem → Option (Int32 × Mem)), (∀ (x3 : Int32), ∀ σ : Mem, k34 x3 σ = some res → V G 4 6 X ((some (.int res.1)), res.2) σ [(0, .ref (ga G 65)), (1, .int x1), (3, .int x3)] [] 34) → (∀ (x3 : Int32), ∀ σ : Mem, k103 x3 σ = some res → V G 4 6 X ((some (.int res.1)), res.2) σ [(3, .int x3)] [] 103) → ∀ (x3 : Int32), ∀ σ : Mem, p_X12_forged_B34 k34 k103 x1 x3 σ = some res → V G 4 6 X ((some (.int res.1)), res.2) σ [(0, .ref (ga G 65)), (1, .int x1), (3, .int x3)] [] 34 := by
    intro k34 k103 hk34 hk103 x3 σ h
    unfold p_X12_forged_B34 at h
    refine v_blk hC (is := [(.iload_n 3, 0), (.aload_n 0, 0)]) (pc' := 36) (ls' := [(0, .ref (ga G 65)), (1, .int x1), (3, .int x3)]) (st' := [.ref (ga G 65), .int x3]) (by decide +kernel) rfl ?_
    refine gX12_16 hC lfX12_43 (by decide +kernel) ?_
    refine v_blk hC (is := [(.iload_n 1, 0)]) (pc' := 40) (ls' := [(0, .ref (ga G 65)), (1, .int x1), (3, .int x3)]) (st' := [.int x1, .ref (ga G 77), .int x3]) (by decide +kernel) rfl ?_
    refine v_iald hC isA_77 rfl (by decide +kernel) h (fun v1 h => ?_)
    refine v_icmp_ge hC (off := 72) (tgt := 113) (by decide +kernel) (by decide) h (fun hq h => ?_) (fun hq h => ?_)
    · refine v_blk hC (is := [(.bipush (-4), (-4 : Int32))]) (pc' := 115) (ls' := [(0, .ref (ga G 65)), (1, .int x1), (3, .int x3)]) (st' := [.int (-4 : Int32)]) (by decide +kernel) rfl ?_
      exact v_iret hC h (by decide +kernel)
    · refine v_blk hC (is := [(.aload_n 0, 0)]) (pc' := 45) (ls' := [(0, .ref (ga G 65)), (1, .int x1), (3, .int x3)]) (st' := [.ref (ga G 65)]) (by decide +kernel) rfl ?_
      refine gX12_17 hC lfX12_46 (by decide +kernel) ?_
      refine v_blk hC (is := [(.bipush 100, (100 : Int32)), (.iload_n 1, 0), (.imul, 0), (.iload_n 3, 0), (.iadd, 0)]) (pc' := 54) (ls' := [(0, .ref (ga G 65)), (1, .int x1), (3, .int x3)]) (st' := [.int (((100 : Int32) * x1) + x3), .ref (ga G 78)]) (by decide +kernel) rfl ?_
      refine v_iald hC isA_78 rfl (by decide +kernel) h (fun v2 h => ?_)
      refine v_blk hC (is := [(.istore 4, 0), (.aload_n 0, 0)]) (pc' := 58) (ls' := [(4, .int v2), (0, .ref (ga G 65)), (1, .int x1), (3, .int x3)]) (st' := [.ref (ga G 65)]) (by decide +kernel) rfl ?_
      refine gX12_17 hC lfX12_46 (by decide +kernel) ?_
      refine v_blk hC (is := [(.bipush 100, (100 : Int32)), (.iload_n 1, 0), (.imul, 0), (.iload_n 3, 0), (.iadd, 0), (.iconst 1, (1 : Int32)), (.iadd, 0)]) (pc' := 69) (ls' := [(4, .int v2), (0, .ref (ga G 65)), (1, .int x1), (3, .int x3)]) (st' := [.int ((((100 : Int32) * x1) + x3) + (1 : Int32)), .ref (ga G 78)]) (by decide +kernel) rfl ?_
      refine v_iald hC isA_78 rfl (by decide +kernel) h (fun v3 h => ?_)
      refine v_blk hC (is := [(.istore 5, 0), (.aload_n 0, 0), (.iload 4, 0), (.iload 5, 0)]) (pc' := 77) (ls' := [(5, .int v3), (4, .int v2), (0, .ref (ga G 65)), (1, .int x1), (3, .int x3)]) (st' := [.int v3, .int v2, .ref (ga G 65)]) (by decide +kernel) rfl ?_
      obtain ⟨v4, s5, e6, h⟩ := bndI h
      refine v_cV (idx := 151) hC ⟨tt_at 1146 (by decide +kernel) rfl, tiX12_areTwo, tvX12_areTwo, tnX12_areTwo, tcX12_areTwo, tmX12_areTwo⟩ isO_X12 rfl (c_X12_areTwo e6) (by decide) (by decide) (by decide +kernel) (rest := []) rfl rfl (Nat.le_of_ble_eq_true rfl) rfl ?_
      refine v_if_eq hC (off := 23) (tgt := 103) (by decide +kernel) (by decide) h (fun hq h => ?_) (fun hq h => ?_)
      · refine v_sub [4] (ls' := [(3, .int x3)]) rfl ?_
        exact hk103 _ _ h
      · refine v_blk hC (is := [(.aload_n 0, 0)]) (pc' := 84) (ls' := [(5, .int v3), (4, .int v2), (0, .ref (ga G 65)), (1, .int x1), (3, .int x3)]) (st' := [.ref (ga G 65)]) (by decide +kernel) rfl ?_
        refine gX12_0 hC lfX12_9 (by decide +kernel) ?_
        refine v_blk hC (is := [(.iload 4, 0), (.iload 5, 0), (.aload_n 0, 0)]) (pc' := 92) (ls' := [(5, .int v3), (4, .int v2), (0, .ref (ga G 65)), (1, .int x1), (3, .int x3)]) (st' := [.ref (ga G 65), .int v3, .int v2, .ref (ga G 66)]) (by decide +kernel) rfl ?_
        refine gX12_0 hC lfX12_9 (by decide +kernel) ?_
        refine v_blk hC (is := [(.iconst 1, (1 : Int32))]) (pc' := 96) (ls' := [(5, .int v3), (4, .int v2), (0, .ref (ga G 65)), (1, .int x1), (3, .int x3)]) (st' := [.int (1 : Int32), .ref (ga G 66), .int v3, .int v2, .ref (ga G 66)]) (by decide +kernel) rfl ?_
        refine v_iald hC isA_66 rfl (by decide +kernel) h (fun v7 h => ?_)
        obtain ⟨v8, s9, e10, h⟩ := bndI h
        refine v_cS (idx := 78) hC ⟨tt_at 1202 (by decide +kernel) rfl, tsX12_hasSaved, tnX12_hasSaved, tcX12_hasSaved, tmX12_hasSaved⟩ (c_X12_hasSaved row66 e10) (by decide) (by decide) (by decide +kernel) (rest := []) rfl rfl (Nat.le_of_ble_eq_true rfl) rfl ?_
        refine v_if_ne hC (off := 7) (tgt := 107) (by decide +kernel) (by decide) h (fun hq h => ?_) (fun hq h => ?_)
        · refine v_blk hC (is := [(.iinc 3 2, (2 : Int32))]) (pc' := 110) (ls' := [(3, .int (x3 + (2 : Int32))), (5, .int v3), (4, .int v2), (0, .ref (ga G 65)), (1, .int x1)]) (st' := []) (by decide +kernel) rfl ?_
          refine v_goto hC (off := (-76)) (tgt := 34) (by decide +kernel) (by decide) ?_
          refine v_sub [3, 4, 0] (ls' := [(0, .ref (ga G 65)), (1, .int x1), (3, .int (x3 + (2 : Int32)))]) rfl ?_
          exact hk34 _ _ h
        · refine v_sub [4] (ls' := [(3, .int x3)]) rfl ?_
          exact hk103 _ _ h
  have hL34 : ∀ (k103 : Int32 → Mem → Option (Int32 × Mem)), (∀ (x3 : Int32), ∀ σ : Mem, k103 x3 σ = some res → V G 4 6 X ((some (.int res.1)), res.2) σ [(3, .int x3)] [] 103) → ∀ f : Nat, ∀ (x3 : Int32), ∀ σ : Mem, p_X12_forged_L34 k103 x1 f x3 σ = some res → V G 4 6 X ((some (.int res.1)), res.2) σ [(0, .ref (ga G 65)), (1, .int x1), (3, .int x3)] [] 34 := by
    intro k103 hk103 f
    induction f with
    | zero => intro x3 σ h; exact none_some h
    | succ f ih => intro x3 σ h; exact hB34 (p_X12_forged_L34 k103 x1 f) k103 ih hk103 x3 σ h
  have hB26 : ∀ (x2 : Int32), ∀ σ : Mem, p_X12_forged_B26 x1 x2 σ = some res → V G 4 6 X ((some (.int res.1)), res.2) σ [(0, .ref (ga G 65)), (1, .int x1), (2, .int x2)] [] 26 := by
    intro x2 σ h
    unfold p_X12_forged_B26 at h
    refine v_blk hC (is := [(.iload_n 2, 0)]) (pc' := 27) (ls' := [(0, .ref (ga G 65)), (1, .int x1), (2, .int x2)]) (st' := [.int x2]) (by decide +kernel) rfl ?_
    refine v_if_eq hC (off := 5) (tgt := 32) (by decide +kernel) (by decide) h (fun hq h => ?_) (fun hq h => ?_)
    · refine v_blk hC (is := [(.iconst 0, (0 : Int32)), (.istore_n 3, 0)]) (pc' := 34) (ls' := [(3, .int (0 : Int32)), (0, .ref (ga G 65)), (1, .int x1), (2, .int x2)]) (st' := []) (by decide +kernel) rfl ?_
      refine v_sub [1, 2, 0] (ls' := [(0, .ref (ga G 65)), (1, .int x1), (3, .int (0 : Int32))]) rfl ?_
      exact (hL34 _ (hB103 ) 1000) _ _ h
    · refine v_blk hC (is := [(.iload_n 2, 0)]) (pc' := 31) (ls' := [(0, .ref (ga G 65)), (1, .int x1), (2, .int x2)]) (st' := [.int x2]) (by decide +kernel) rfl ?_
      exact v_iret hC h (by decide +kernel)
  unfold p_X12_forged at h
  show V G 4 6 X ((some (.int res.1)), res.2) σ [(0, .ref (ga G 65)), (1, .int x1)] [] 0
  refine v_blk hC (is := [(.aload_n 0, 0), (.iload_n 1, 0), (.iconst (-1), (-1 : Int32))]) (pc' := 3) (ls' := [(0, .ref (ga G 65)), (1, .int x1)]) (st' := [.int (-1 : Int32), .int x1, .ref (ga G 65)]) (by decide +kernel) rfl ?_
  obtain ⟨v11, s12, e13, h⟩ := bndI h
  refine v_cV (idx := 157) hC ⟨tt_at 1111 (by decide +kernel) rfl, tiX12_wrongRow, tvX12_wrongRow, tnX12_wrongRow, tcX12_wrongRow, tmX12_wrongRow⟩ isO_X12 rfl (c_X12_wrongRow e13) (by decide) (by decide) (by decide +kernel) (rest := []) rfl rfl (Nat.le_of_ble_eq_true rfl) rfl ?_
  refine v_blk hC (is := [(.istore_n 2, 0), (.iload_n 2, 0)]) (pc' := 8) (ls' := [(2, .int v11), (0, .ref (ga G 65)), (1, .int x1)]) (st' := [.int v11]) (by decide +kernel) rfl ?_
  refine v_if_ne hC (off := 18) (tgt := 26) (by decide +kernel) (by decide) h (fun hq h => ?_) (fun hq h => ?_)
  · refine v_sub [1, 2, 0] (ls' := [(0, .ref (ga G 65)), (1, .int x1), (2, .int v11)]) rfl ?_
    exact (hB26 ) _ _ h
  · refine v_blk hC (is := [(.aload_n 0, 0)]) (pc' := 12) (ls' := [(2, .int v11), (0, .ref (ga G 65)), (1, .int x1)]) (st' := [.ref (ga G 65)]) (by decide +kernel) rfl ?_
    refine gX12_16 hC lfX12_43 (by decide +kernel) ?_
    refine v_blk hC (is := [(.iload_n 1, 0)]) (pc' := 16) (ls' := [(2, .int v11), (0, .ref (ga G 65)), (1, .int x1)]) (st' := [.int x1, .ref (ga G 77)]) (by decide +kernel) rfl ?_
    refine v_iald hC isA_77 rfl (by decide +kernel) h (fun v14 h => ?_)
    refine v_blk hC (is := [(.iconst 2, (2 : Int32))]) (pc' := 18) (ls' := [(2, .int v11), (0, .ref (ga G 65)), (1, .int x1)]) (st' := [.int (2 : Int32), .int v14]) (by decide +kernel) rfl ?_
    refine v_irem hC (by decide +kernel) (by decide) ?_
    refine v_blk hC (is := [(.iconst 1, (1 : Int32))]) (pc' := 20) (ls' := [(2, .int v11), (0, .ref (ga G 65)), (1, .int x1)]) (st' := [.int (1 : Int32), .int (v14 - v14 / (2 : Int32) * (2 : Int32))]) (by decide +kernel) rfl ?_
    refine v_icmp_ne hC (off := 6) (tgt := 26) (by decide +kernel) (by decide) h (fun hq h => ?_) (fun hq h => ?_)
    · refine v_sub [1, 2, 0] (ls' := [(0, .ref (ga G 65)), (1, .int x1), (2, .int v11)]) rfl ?_
      exact (hB26 ) _ _ h
    · refine v_blk hC (is := [(.bipush (-13), (-13 : Int32)), (.istore_n 2, 0)]) (pc' := 26) (ls' := [(2, .int (-13 : Int32)), (0, .ref (ga G 65)), (1, .int x1)]) (st' := []) (by decide +kernel) rfl ?_
      refine v_sub [1, 2, 0] (ls' := [(0, .ref (ga G 65)), (1, .int x1), (2, .int (-13 : Int32))]) rfl ?_
      exact (hB26 ) _ _ h

def p_X12_judge_B80 (k26 : Int32 → Mem → Option (Int32 × Mem)) (x1 : Int32) (x3 : Int32) (σ : Mem) : Option (Int32 × Mem) := (bnd (p_X12_season 67 (0 : Int32) σ) fun (v1 : Unit) s2 => k26 (x3 + (1 : Int32)) s2)
def p_X12_judge_B26 (k26 : Int32 → Mem → Option (Int32 × Mem)) (x1 : Int32) (x3 : Int32) (σ : Mem) : Option (Int32 × Mem) := (if x1 < 0 ∨ 8 ≤ (x1).toNatClampNeg then none else lt (σ 77 (x1).toNatClampNeg) fun v4 => (if v4 ≤ x3 then some ((-4 : Int32), σ) else (if (((100 : Int32) * x1) + x3) < 0 ∨ 800 ≤ ((((100 : Int32) * x1) + x3)).toNatClampNeg then none else lt (σ 78 ((((100 : Int32) * x1) + x3)).toNatClampNeg) fun v5 => (if x1 < 0 ∨ 8 ≤ (x1).toNatClampNeg then none else lt (σ 76 (x1).toNatClampNeg) fun v6 => (bnd (p_X12_leastOf v6 σ) fun v7 s8 => (if v5 = v7 then (p_X12_judge_B80 k26 x1) x3 s8 else (bnd (p_X12_lostSet 67 s8) fun v10 s11 => (bnd (p_X12_bits v10 s11) fun v13 s14 => (if v5 = v13 then (p_X12_judge_B80 k26 x1) x3 s14 else some (x3, s14))))))))))
def p_X12_judge_L26  (x1 : Int32) : Nat → Int32 → Mem → Option (Int32 × Mem)
  | 0 => fun _ _ => none
  | f + 1 => p_X12_judge_B26 (p_X12_judge_L26 x1 f) x1
def p_X12_judge (x1 : Int32) (σ : Mem) : Option (Int32 × Mem) := (bnd (p_X12_wrongRow x1 (-1 : Int32) σ) fun v16 s17 => (if v16 = 0 then (bnd (p_X12_copies 66 67 s17) fun (v19 : Unit) s20 => (p_X12_judge_L26 x1 1000) (0 : Int32) s20) else some (v16, s17)))
set_option maxHeartbeats 4000000 in
set_option maxRecDepth 100000 in
theorem c_X12_judge {G : Gl} {x1 : Int32} {σ : Mem} {res : Int32 × Mem}  (h : p_X12_judge x1 σ = some res) : MetX G yX12_judge cX12_judge 5 (some .int) 7 [.ref (ga G 65), .int x1] σ (some (.int res.1)) res.2 := by
  refine met_V (by decide +kernel) (Nat.le_of_ble_eq_true rfl) (fun X hC => ?_)
  have hC : Ok G 7 5 X cX12_judge RX12 (some .int) := hC
  have hB80 : ∀ (k26 : Int32 → Mem → Option (Int32 × Mem)), (∀ (x3 : Int32), ∀ σ : Mem, k26 x3 σ = some res → V G 7 5 X ((some (.int res.1)), res.2) σ [(0, .ref (ga G 65)), (1, .int x1), (3, .int x3)] [] 26) → ∀ (x3 : Int32), ∀ σ : Mem, p_X12_judge_B80 k26 x1 x3 σ = some res → V G 7 5 X ((some (.int res.1)), res.2) σ [(0, .ref (ga G 65)), (1, .int x1), (3, .int x3)] [] 80 := by
    intro k26 hk26 x3 σ h
    unfold p_X12_judge_B80 at h
    refine v_blk hC (is := [(.aload_n 0, 0)]) (pc' := 81) (ls' := [(0, .ref (ga G 65)), (1, .int x1), (3, .int x3)]) (st' := [.ref (ga G 65)]) (by decide +kernel) rfl ?_
    refine gX12_1 hC lfX12_13 (by decide +kernel) ?_
    refine v_blk hC (is := [(.iconst 0, (0 : Int32))]) (pc' := 85) (ls' := [(0, .ref (ga G 65)), (1, .int x1), (3, .int x3)]) (st' := [.int (0 : Int32), .ref (ga G 67)]) (by decide +kernel) rfl ?_
    obtain ⟨v1, s2, e3, h⟩ := bndI h
    refine v_cS (idx := 119) hC ⟨tt_at 1163 (by decide +kernel) rfl, tsX12_season, tnX12_season, tcX12_season, tmX12_season⟩ (c_X12_season row67 e3) (by decide) (by decide) (by decide +kernel) (rest := []) rfl rfl (Nat.le_of_ble_eq_true rfl) rfl ?_
    refine v_blk hC (is := [(.iinc 3 1, (1 : Int32))]) (pc' := 91) (ls' := [(3, .int (x3 + (1 : Int32))), (0, .ref (ga G 65)), (1, .int x1)]) (st' := []) (by decide +kernel) rfl ?_
    refine v_goto hC (off := (-65)) (tgt := 26) (by decide +kernel) (by decide) ?_
    refine v_sub [1, 2, 0] (ls' := [(0, .ref (ga G 65)), (1, .int x1), (3, .int (x3 + (1 : Int32)))]) rfl ?_
    exact hk26 _ _ h
  have hB26 : ∀ (k26 : Int32 → Mem → Option (Int32 × Mem)), (∀ (x3 : Int32), ∀ σ : Mem, k26 x3 σ = some res → V G 7 5 X ((some (.int res.1)), res.2) σ [(0, .ref (ga G 65)), (1, .int x1), (3, .int x3)] [] 26) → ∀ (x3 : Int32), ∀ σ : Mem, p_X12_judge_B26 k26 x1 x3 σ = some res → V G 7 5 X ((some (.int res.1)), res.2) σ [(0, .ref (ga G 65)), (1, .int x1), (3, .int x3)] [] 26 := by
    intro k26 hk26 x3 σ h
    unfold p_X12_judge_B26 at h
    refine v_blk hC (is := [(.iload_n 3, 0), (.aload_n 0, 0)]) (pc' := 28) (ls' := [(0, .ref (ga G 65)), (1, .int x1), (3, .int x3)]) (st' := [.ref (ga G 65), .int x3]) (by decide +kernel) rfl ?_
    refine gX12_16 hC lfX12_43 (by decide +kernel) ?_
    refine v_blk hC (is := [(.iload_n 1, 0)]) (pc' := 32) (ls' := [(0, .ref (ga G 65)), (1, .int x1), (3, .int x3)]) (st' := [.int x1, .ref (ga G 77), .int x3]) (by decide +kernel) rfl ?_
    refine v_iald hC isA_77 rfl (by decide +kernel) h (fun v4 h => ?_)
    refine v_icmp_ge hC (off := 61) (tgt := 94) (by decide +kernel) (by decide) h (fun hq h => ?_) (fun hq h => ?_)
    · refine v_blk hC (is := [(.bipush (-4), (-4 : Int32))]) (pc' := 96) (ls' := [(0, .ref (ga G 65)), (1, .int x1), (3, .int x3)]) (st' := [.int (-4 : Int32)]) (by decide +kernel) rfl ?_
      exact v_iret hC h (by decide +kernel)
    · refine v_blk hC (is := [(.aload_n 0, 0)]) (pc' := 37) (ls' := [(0, .ref (ga G 65)), (1, .int x1), (3, .int x3)]) (st' := [.ref (ga G 65)]) (by decide +kernel) rfl ?_
      refine gX12_17 hC lfX12_46 (by decide +kernel) ?_
      refine v_blk hC (is := [(.bipush 100, (100 : Int32)), (.iload_n 1, 0), (.imul, 0), (.iload_n 3, 0), (.iadd, 0)]) (pc' := 46) (ls' := [(0, .ref (ga G 65)), (1, .int x1), (3, .int x3)]) (st' := [.int (((100 : Int32) * x1) + x3), .ref (ga G 78)]) (by decide +kernel) rfl ?_
      refine v_iald hC isA_78 rfl (by decide +kernel) h (fun v5 h => ?_)
      refine v_blk hC (is := [(.istore 4, 0), (.iload 4, 0), (.aload_n 0, 0)]) (pc' := 52) (ls' := [(4, .int v5), (0, .ref (ga G 65)), (1, .int x1), (3, .int x3)]) (st' := [.ref (ga G 65), .int v5]) (by decide +kernel) rfl ?_
      refine gX12_15 hC lfX12_40 (by decide +kernel) ?_
      refine v_blk hC (is := [(.iload_n 1, 0)]) (pc' := 56) (ls' := [(4, .int v5), (0, .ref (ga G 65)), (1, .int x1), (3, .int x3)]) (st' := [.int x1, .ref (ga G 76), .int v5]) (by decide +kernel) rfl ?_
      refine v_iald hC isA_76 rfl (by decide +kernel) h (fun v6 h => ?_)
      obtain ⟨v7, s8, e9, h⟩ := bndI h
      refine v_cS (idx := 223) hC ⟨tt_at 1410 (by decide +kernel) rfl, tsX12_leastOf, tnX12_leastOf, tcX12_leastOf, tmX12_leastOf⟩ (c_X12_leastOf e9) (by decide) (by decide) (by decide +kernel) (rest := [.int v5]) rfl rfl (Nat.le_of_ble_eq_true rfl) rfl ?_
      refine v_icmp_eq hC (off := 20) (tgt := 80) (by decide +kernel) (by decide) h (fun hq h => ?_) (fun hq h => ?_)
      · refine v_sub [1, 2, 3] (ls' := [(0, .ref (ga G 65)), (1, .int x1), (3, .int x3)]) rfl ?_
        exact (hB80 _ hk26) _ _ h
      · refine v_blk hC (is := [(.iload 4, 0), (.aload_n 0, 0)]) (pc' := 66) (ls' := [(4, .int v5), (0, .ref (ga G 65)), (1, .int x1), (3, .int x3)]) (st' := [.ref (ga G 65), .int v5]) (by decide +kernel) rfl ?_
        refine gX12_1 hC lfX12_13 (by decide +kernel) ?_
        obtain ⟨v10, s11, e12, h⟩ := bndI h
        refine v_cS (idx := 89) hC ⟨tt_at 1246 (by decide +kernel) rfl, tsX12_lostSet, tnX12_lostSet, tcX12_lostSet, tmX12_lostSet⟩ (c_X12_lostSet row67 e12) (by decide) (by decide) (by decide +kernel) (rest := [.int v5]) rfl rfl (Nat.le_of_ble_eq_true rfl) rfl ?_
        obtain ⟨v13, s14, e15, h⟩ := bndI h
        refine v_cS (idx := 126) hC ⟨tt_at 1249 (by decide +kernel) rfl, tsX12_bits, tnX12_bits, tcX12_bits, tmX12_bits⟩ (c_X12_bits e15) (by decide) (by decide) (by decide +kernel) (rest := [.int v5]) rfl rfl (Nat.le_of_ble_eq_true rfl) rfl ?_
        refine v_icmp_eq hC (off := 5) (tgt := 80) (by decide +kernel) (by decide) h (fun hq h => ?_) (fun hq h => ?_)
        · refine v_sub [1, 2, 3] (ls' := [(0, .ref (ga G 65)), (1, .int x1), (3, .int x3)]) rfl ?_
          exact (hB80 _ hk26) _ _ h
        · refine v_blk hC (is := [(.iload_n 3, 0)]) (pc' := 79) (ls' := [(4, .int v5), (0, .ref (ga G 65)), (1, .int x1), (3, .int x3)]) (st' := [.int x3]) (by decide +kernel) rfl ?_
          exact v_iret hC h (by decide +kernel)
  have hL26 : ∀ f : Nat, ∀ (x3 : Int32), ∀ σ : Mem, p_X12_judge_L26 x1 f x3 σ = some res → V G 7 5 X ((some (.int res.1)), res.2) σ [(0, .ref (ga G 65)), (1, .int x1), (3, .int x3)] [] 26 := by
    intro  f
    induction f with
    | zero => intro x3 σ h; exact none_some h
    | succ f ih => intro x3 σ h; exact hB26 (p_X12_judge_L26 x1 f)  ih  x3 σ h
  unfold p_X12_judge at h
  show V G 7 5 X ((some (.int res.1)), res.2) σ [(0, .ref (ga G 65)), (1, .int x1)] [] 0
  refine v_blk hC (is := [(.aload_n 0, 0), (.iload_n 1, 0), (.iconst (-1), (-1 : Int32))]) (pc' := 3) (ls' := [(0, .ref (ga G 65)), (1, .int x1)]) (st' := [.int (-1 : Int32), .int x1, .ref (ga G 65)]) (by decide +kernel) rfl ?_
  obtain ⟨v16, s17, e18, h⟩ := bndI h
  refine v_cV (idx := 157) hC ⟨tt_at 1111 (by decide +kernel) rfl, tiX12_wrongRow, tvX12_wrongRow, tnX12_wrongRow, tcX12_wrongRow, tmX12_wrongRow⟩ isO_X12 rfl (c_X12_wrongRow e18) (by decide) (by decide) (by decide +kernel) (rest := []) rfl rfl (Nat.le_of_ble_eq_true rfl) rfl ?_
  refine v_blk hC (is := [(.istore_n 2, 0), (.iload_n 2, 0)]) (pc' := 8) (ls' := [(2, .int v16), (0, .ref (ga G 65)), (1, .int x1)]) (st' := [.int v16]) (by decide +kernel) rfl ?_
  refine v_if_eq hC (off := 5) (tgt := 13) (by decide +kernel) (by decide) h (fun hq h => ?_) (fun hq h => ?_)
  · refine v_blk hC (is := [(.aload_n 0, 0)]) (pc' := 14) (ls' := [(2, .int v16), (0, .ref (ga G 65)), (1, .int x1)]) (st' := [.ref (ga G 65)]) (by decide +kernel) rfl ?_
    refine gX12_0 hC lfX12_9 (by decide +kernel) ?_
    refine v_blk hC (is := [(.aload_n 0, 0)]) (pc' := 18) (ls' := [(2, .int v16), (0, .ref (ga G 65)), (1, .int x1)]) (st' := [.ref (ga G 65), .ref (ga G 66)]) (by decide +kernel) rfl ?_
    refine gX12_1 hC lfX12_13 (by decide +kernel) ?_
    obtain ⟨v19, s20, e21, h⟩ := bndI h
    refine v_cS (idx := 164) hC ⟨tt_at 1133 (by decide +kernel) rfl, tsX12_copies, tnX12_copies, tcX12_copies, tmX12_copies⟩ (c_X12_copies row66 row67 e21) (by decide) (by decide) (by decide +kernel) (rest := []) rfl rfl (Nat.le_of_ble_eq_true rfl) rfl ?_
    refine v_blk hC (is := [(.iconst 0, (0 : Int32)), (.istore_n 3, 0)]) (pc' := 26) (ls' := [(3, .int (0 : Int32)), (2, .int v16), (0, .ref (ga G 65)), (1, .int x1)]) (st' := []) (by decide +kernel) rfl ?_
    refine v_sub [2, 3, 0] (ls' := [(0, .ref (ga G 65)), (1, .int x1), (3, .int (0 : Int32))]) rfl ?_
    exact (hL26 1000) _ _ h
  · refine v_blk hC (is := [(.iload_n 2, 0)]) (pc' := 12) (ls' := [(2, .int v16), (0, .ref (ga G 65)), (1, .int x1)]) (st' := [.int v16]) (by decide +kernel) rfl ?_
    exact v_iret hC h (by decide +kernel)

def p_X12_drawn (x1 : Int32) (σ : Mem) : Option (Int32 × Mem) := (lt (σ 65 11) fun v1 => (wr σ 65 11 ((v1 * (1103515245 : Int32)) + (12345 : Int32)) fun s2 => (lt (s2 65 11) fun v3 => (if x1 = 0 then none else some ((((v3 &&& (2147483647 : Int32)) / (65536 : Int32)) - ((v3 &&& (2147483647 : Int32)) / (65536 : Int32)) / x1 * x1), s2)))))
set_option maxHeartbeats 4000000 in
set_option maxRecDepth 100000 in
theorem c_X12_drawn {G : Gl} {x1 : Int32} {σ : Mem} {res : Int32 × Mem}  (h : p_X12_drawn x1 σ = some res) : MetX G yX12_drawn cX12_drawn 2 (some .int) 1 [.ref (ga G 65), .int x1] σ (some (.int res.1)) res.2 := by
  refine met_V (by decide +kernel) (Nat.le_of_ble_eq_true rfl) (fun X hC => ?_)
  have hC : Ok G 1 2 X cX12_drawn RX12 (some .int) := hC
  unfold p_X12_drawn at h
  show V G 1 2 X ((some (.int res.1)), res.2) σ [(0, .ref (ga G 65)), (1, .int x1)] [] 0
  refine v_blk hC (is := [(.aload_n 0, 0), (.aload_n 0, 0)]) (pc' := 2) (ls' := [(0, .ref (ga G 65)), (1, .int x1)]) (st' := [.ref (ga G 65), .ref (ga G 65)]) (by decide +kernel) rfl ?_
  refine gX12_11 hC lfX12_229 (by decide +kernel) h (fun v1 h => ?_)
  refine v_ldc hC (idx := 232) (v := (1103515245 : Int32)) (tt_at 1434 (by decide +kernel) rfl) (by decide +kernel) ?_
  refine v_blk hC (is := [(.imul, 0), (.sipush 12345, (12345 : Int32)), (.iadd, 0)]) (pc' := 12) (ls' := [(0, .ref (ga G 65)), (1, .int x1)]) (st' := [.int ((v1 * (1103515245 : Int32)) + (12345 : Int32)), .ref (ga G 65)]) (by decide +kernel) rfl ?_
  refine pX12_11 hC lfX12_229 (by decide +kernel) h (fun s2 h => ?_)
  refine v_blk hC (is := [(.aload_n 0, 0)]) (pc' := 16) (ls' := [(0, .ref (ga G 65)), (1, .int x1)]) (st' := [.ref (ga G 65)]) (by decide +kernel) rfl ?_
  refine gX12_11 hC lfX12_229 (by decide +kernel) h (fun v3 h => ?_)
  refine v_ldc hC (idx := 233) (v := (2147483647 : Int32)) (tt_at 1435 (by decide +kernel) rfl) (by decide +kernel) ?_
  refine v_blk hC (is := [(.iand, 0)]) (pc' := 22) (ls' := [(0, .ref (ga G 65)), (1, .int x1)]) (st' := [.int (v3 &&& (2147483647 : Int32))]) (by decide +kernel) rfl ?_
  refine v_ldc hC (idx := 234) (v := (65536 : Int32)) (tt_at 1436 (by decide +kernel) rfl) (by decide +kernel) ?_
  refine v_idiv hC (by decide +kernel) (by decide) ?_
  refine v_blk hC (is := [(.iload_n 1, 0)]) (pc' := 26) (ls' := [(0, .ref (ga G 65)), (1, .int x1)]) (st' := [.int x1, .int ((v3 &&& (2147483647 : Int32)) / (65536 : Int32))]) (by decide +kernel) rfl ?_
  refine v_iremV hC (by decide +kernel) h (fun h => ?_)
  exact v_iret hC h (by decide +kernel)

def p_X12_afloat (x0 : Nat) (σ : Mem) : Option (Int32 × Mem) := (bnd (p_X12_crew x0 (0 : Int32) σ) fun v1 s2 => (bnd (p_X12_crew x0 (1 : Int32) s2) fun v4 s5 => (bnd (p_X12_crew x0 (2 : Int32) s5) fun v7 s8 => some (((v1 ||| v4) ||| v7), s8))))
set_option maxHeartbeats 4000000 in
set_option maxRecDepth 100000 in
theorem c_X12_afloat {G : Gl} {x0 : Nat} {σ : Mem} {res : Int32 × Mem} (hx0 : isRow x0) (h : p_X12_afloat x0 σ = some res) : MetX G yX12_afloat cX12_afloat 1 (some .int) 3 [.ref (ga G x0)] σ (some (.int res.1)) res.2 := by
  refine met_V (by decide +kernel) (Nat.le_of_ble_eq_true rfl) (fun X hC => ?_)
  have hC : Ok G 3 1 X cX12_afloat RX12 (some .int) := hC
  unfold p_X12_afloat at h
  show V G 3 1 X ((some (.int res.1)), res.2) σ [(0, .ref (ga G x0))] [] 0
  refine v_blk hC (is := [(.aload_n 0, 0), (.iconst 0, (0 : Int32))]) (pc' := 2) (ls' := [(0, .ref (ga G x0))]) (st' := [.int (0 : Int32), .ref (ga G x0)]) (by decide +kernel) rfl ?_
  obtain ⟨v1, s2, e3, h⟩ := bndI h
  refine v_cS (idx := 93) hC ⟨tt_at 1172 (by decide +kernel) rfl, tsX12_crew, tnX12_crew, tcX12_crew, tmX12_crew⟩ (c_X12_crew hx0 e3) (by decide) (by decide) (by decide +kernel) (rest := []) rfl rfl (Nat.le_of_ble_eq_true rfl) rfl ?_
  refine v_blk hC (is := [(.aload_n 0, 0), (.iconst 1, (1 : Int32))]) (pc' := 7) (ls' := [(0, .ref (ga G x0))]) (st' := [.int (1 : Int32), .ref (ga G x0), .int v1]) (by decide +kernel) rfl ?_
  obtain ⟨v4, s5, e6, h⟩ := bndI h
  refine v_cS (idx := 93) hC ⟨tt_at 1172 (by decide +kernel) rfl, tsX12_crew, tnX12_crew, tcX12_crew, tmX12_crew⟩ (c_X12_crew hx0 e6) (by decide) (by decide) (by decide +kernel) (rest := [.int v1]) rfl rfl (Nat.le_of_ble_eq_true rfl) rfl ?_
  refine v_blk hC (is := [(.ior, 0), (.aload_n 0, 0), (.iconst 2, (2 : Int32))]) (pc' := 13) (ls' := [(0, .ref (ga G x0))]) (st' := [.int (2 : Int32), .ref (ga G x0), .int (v1 ||| v4)]) (by decide +kernel) rfl ?_
  obtain ⟨v7, s8, e9, h⟩ := bndI h
  refine v_cS (idx := 93) hC ⟨tt_at 1172 (by decide +kernel) rfl, tsX12_crew, tnX12_crew, tcX12_crew, tmX12_crew⟩ (c_X12_crew hx0 e9) (by decide) (by decide) (by decide +kernel) (rest := [.int (v1 ||| v4)]) rfl rfl (Nat.le_of_ble_eq_true rfl) rfl ?_
  refine v_blk hC (is := [(.ior, 0)]) (pc' := 17) (ls' := [(0, .ref (ga G x0))]) (st' := [.int ((v1 ||| v4) ||| v7)]) (by decide +kernel) rfl ?_
  exact v_iret hC h (by decide +kernel)

def p_X12_capes_B112 (k52 : Int32 → Int32 → Int32 → Mem → Option (Int32 × Mem)) (x1 : Int32) (x2 : Int32) (x3 : Int32) (x4 : Int32) (x5 : Int32) (x6 : Int32) (σ : Mem) : Option (Int32 × Mem) := k52 x4 x5 (x6 + (1 : Int32)) σ
def p_X12_capes_B111 (k52 : Int32 → Int32 → Int32 → Mem → Option (Int32 × Mem)) (x1 : Int32) (x2 : Int32) (x3 : Int32) (x4 : Int32) (x5 : Int32) (x6 : Int32) (t1 : Int32) (t2 : Int32) (σ : Mem) : Option (Int32 × Mem) := (if t1 < 0 ∨ 100 ≤ (t1).toNatClampNeg then none else wr σ 67 (t1).toNatClampNeg t2 fun s1 => (p_X12_capes_B112 k52 x1 x2 x3) x4 x5 x6 s1)
def p_X12_capes_B157 (k32 : Int32 → Int32 → Mem → Option (Int32 × Mem)) (x1 : Int32) (x2 : Int32) (x3 : Int32) (x5 : Int32) (t0 : Int32) (t1 : Int32) (σ : Mem) : Option (Int32 × Mem) := k32 (t0 + t1) (x5 + (1 : Int32)) σ
def p_X12_capes_B52 (k52 : Int32 → Int32 → Int32 → Mem → Option (Int32 × Mem)) (k118 : Int32 → Int32 → Mem → Option (Int32 × Mem)) (x1 : Int32) (x2 : Int32) (x3 : Int32) (x4 : Int32) (x5 : Int32) (x6 : Int32) (σ : Mem) : Option (Int32 × Mem) := (if (0 : Int32) < 0 ∨ 100 ≤ ((0 : Int32)).toNatClampNeg then none else lt (σ 66 ((0 : Int32)).toNatClampNeg) fun v2 => (if v2 ≤ x6 then k118 x4 x5 σ else (bnd (p_X12_of x6 (3 : Int32) σ) fun v3 s4 => (if v3 < 0 ∨ 100 ≤ (v3).toNatClampNeg then none else lt (s4 66 (v3).toNatClampNeg) fun v6 => (if v6 = (1 : Int32) then (p_X12_capes_B112 k52 x1 x2 x3) x4 x5 x6 s4 else (bnd (p_X12_drawn (4 : Int32) s4) fun v7 s8 => (bnd (p_X12_of x6 (2 : Int32) s8) fun v10 s11 => (if v7 = (3 : Int32) then (p_X12_capes_B111 k52 x1 x2 x3) x4 x5 x6 v10 (9 : Int32) s11 else (p_X12_capes_B111 k52 x1 x2 x3) x4 x5 x6 v10 v7 s11))))))))
def p_X12_capes_L52 (k118 : Int32 → Int32 → Mem → Option (Int32 × Mem)) (x1 : Int32) (x2 : Int32) (x3 : Int32) : Nat → Int32 → Int32 → Int32 → Mem → Option (Int32 × Mem)
  | 0 => fun _ _ _ _ => none
  | f + 1 => p_X12_capes_B52 (p_X12_capes_L52 k118 x1 x2 x3 f) k118 x1 x2 x3
def p_X12_capes_B32 (k32 : Int32 → Int32 → Mem → Option (Int32 × Mem)) (x1 : Int32) (x2 : Int32) (x3 : Int32) (x4 : Int32) (x5 : Int32) (σ : Mem) : Option (Int32 × Mem) := (if x1 ≤ x5 then some (x4, σ) else (bnd (p_X12_copies 66 67 σ) fun (v13 : Unit) s14 => (p_X12_capes_L52 (fun (x4 : Int32) (x5 : Int32) (m16 : Mem) => (bnd (p_X12_lostBehind (5 : Int32) m16) fun v17 s18 => (if x3 = 0 then (bnd (p_X12_lostSet 66 s18) fun v26 s27 => (bnd (p_X12_bits v26 s27) fun v29 s30 => (p_X12_capes_B157 k32 x1 x2 x3) x5 x4 (v17 - v29) s30)) else (bnd (p_X12_afloat 67 s18) fun v20 s21 => (bnd (p_X12_bits v20 s21) fun v23 s24 => (p_X12_capes_B157 k32 x1 x2 x3) x5 x4 v23 s24))))) x1 x2 x3 1000) x4 x5 (0 : Int32) s14))
def p_X12_capes_L32  (x1 : Int32) (x2 : Int32) (x3 : Int32) : Nat → Int32 → Int32 → Mem → Option (Int32 × Mem)
  | 0 => fun _ _ _ => none
  | f + 1 => p_X12_capes_B32 (p_X12_capes_L32 x1 x2 x3 f) x1 x2 x3
def p_X12_capes (x1 : Int32) (x2 : Int32) (x3 : Int32) (σ : Mem) : Option (Int32 × Mem) := (bnd (p_X12_isIn x1 (1 : Int32) (20 : Int32) σ) fun v32 s33 => (if v32 = 0 then some ((-1 : Int32), s33) else (bnd (p_X12_isIn x3 (0 : Int32) (1 : Int32) s33) fun v35 s36 => (if v35 = 0 then some ((-1 : Int32), s36) else (wr s36 65 11 x2 fun s38 => (p_X12_capes_L32 x1 x2 x3 1000) (0 : Int32) (0 : Int32) s38)))))
set_option maxHeartbeats 4000000 in
set_option maxRecDepth 100000 in
theorem c_X12_capes {G : Gl} {x1 : Int32} {x2 : Int32} {x3 : Int32} {σ : Mem} {res : Int32 × Mem}  (h : p_X12_capes x1 x2 x3 σ = some res) : MetX G yX12_capes cX12_capes 8 (some .int) 9 [.ref (ga G 65), .int x1, .int x2, .int x3] σ (some (.int res.1)) res.2 := by
  refine met_V (by decide +kernel) (Nat.le_of_ble_eq_true rfl) (fun X hC => ?_)
  have hC : Ok G 9 8 X cX12_capes RX12 (some .int) := hC
  have hB112 : ∀ (k52 : Int32 → Int32 → Int32 → Mem → Option (Int32 × Mem)), (∀ (x4 : Int32), ∀ (x5 : Int32), ∀ (x6 : Int32), ∀ σ : Mem, k52 x4 x5 x6 σ = some res → V G 9 8 X ((some (.int res.1)), res.2) σ [(0, .ref (ga G 65)), (1, .int x1), (3, .int x3), (4, .int x4), (5, .int x5), (6, .int x6)] [] 52) → ∀ (x4 : Int32), ∀ (x5 : Int32), ∀ (x6 : Int32), ∀ σ : Mem, p_X12_capes_B112 k52 x1 x2 x3 x4 x5 x6 σ = some res → V G 9 8 X ((some (.int res.1)), res.2) σ [(0, .ref (ga G 65)), (1, .int x1), (3, .int x3), (4, .int x4), (5, .int x5), (6, .int x6)] [] 112 := by
    intro k52 hk52 x4 x5 x6 σ h
    unfold p_X12_capes_B112 at h
    refine v_blk hC (is := [(.iinc 6 1, (1 : Int32))]) (pc' := 115) (ls' := [(6, .int (x6 + (1 : Int32))), (0, .ref (ga G 65)), (1, .int x1), (3, .int x3), (4, .int x4), (5, .int x5)]) (st' := []) (by decide +kernel) rfl ?_
    refine v_goto hC (off := (-63)) (tgt := 52) (by decide +kernel) (by decide) ?_
    refine v_sub [1, 2, 3, 4, 5, 0] (ls' := [(0, .ref (ga G 65)), (1, .int x1), (3, .int x3), (4, .int x4), (5, .int x5), (6, .int (x6 + (1 : Int32)))]) rfl ?_
    exact hk52 _ _ _ _ h
  have hB111 : ∀ (k52 : Int32 → Int32 → Int32 → Mem → Option (Int32 × Mem)), (∀ (x4 : Int32), ∀ (x5 : Int32), ∀ (x6 : Int32), ∀ σ : Mem, k52 x4 x5 x6 σ = some res → V G 9 8 X ((some (.int res.1)), res.2) σ [(0, .ref (ga G 65)), (1, .int x1), (3, .int x3), (4, .int x4), (5, .int x5), (6, .int x6)] [] 52) → ∀ (x4 : Int32), ∀ (x5 : Int32), ∀ (x6 : Int32), ∀ (t1 : Int32), ∀ (t2 : Int32), ∀ σ : Mem, p_X12_capes_B111 k52 x1 x2 x3 x4 x5 x6 t1 t2 σ = some res → V G 9 8 X ((some (.int res.1)), res.2) σ [(0, .ref (ga G 65)), (1, .int x1), (3, .int x3), (4, .int x4), (5, .int x5), (6, .int x6)] [.int t2, .int t1, .ref (ga G 67)] 111 := by
    intro k52 hk52 x4 x5 x6 t1 t2 σ h
    unfold p_X12_capes_B111 at h
    refine v_iast hC isA_67 rfl (by decide +kernel) h (fun s1 h => ?_)
    exact (hB112 _ hk52) _ _ _ _ h
  have hB157 : ∀ (k32 : Int32 → Int32 → Mem → Option (Int32 × Mem)), (∀ (x4 : Int32), ∀ (x5 : Int32), ∀ σ : Mem, k32 x4 x5 σ = some res → V G 9 8 X ((some (.int res.1)), res.2) σ [(0, .ref (ga G 65)), (1, .int x1), (3, .int x3), (4, .int x4), (5, .int x5)] [] 32) → ∀ (x5 : Int32), ∀ (t0 : Int32), ∀ (t1 : Int32), ∀ σ : Mem, p_X12_capes_B157 k32 x1 x2 x3 x5 t0 t1 σ = some res → V G 9 8 X ((some (.int res.1)), res.2) σ [(0, .ref (ga G 65)), (1, .int x1), (3, .int x3), (5, .int x5)] [.int t1, .int t0] 157 := by
    intro k32 hk32 x5 t0 t1 σ h
    unfold p_X12_capes_B157 at h
    refine v_blk hC (is := [(.iadd, 0), (.istore 4, 0), (.iinc 5 1, (1 : Int32))]) (pc' := 163) (ls' := [(5, .int (x5 + (1 : Int32))), (4, .int (t0 + t1)), (0, .ref (ga G 65)), (1, .int x1), (3, .int x3)]) (st' := []) (by decide +kernel) rfl ?_
    refine v_goto hC (off := (-131)) (tgt := 32) (by decide +kernel) (by decide) ?_
    refine v_sub [2, 3, 4, 1, 0] (ls' := [(0, .ref (ga G 65)), (1, .int x1), (3, .int x3), (4, .int (t0 + t1)), (5, .int (x5 + (1 : Int32)))]) rfl ?_
    exact hk32 _ _ _ h
  have hB52 : ∀ (k52 : Int32 → Int32 → Int32 → Mem → Option (Int32 × Mem)), ∀ (k118 : Int32 → Int32 → Mem → Option (Int32 × Mem)), (∀ (x4 : Int32), ∀ (x5 : Int32), ∀ (x6 : Int32), ∀ σ : Mem, k52 x4 x5 x6 σ = some res → V G 9 8 X ((some (.int res.1)), res.2) σ [(0, .ref (ga G 65)), (1, .int x1), (3, .int x3), (4, .int x4), (5, .int x5), (6, .int x6)] [] 52) → (∀ (x4 : Int32), ∀ (x5 : Int32), ∀ σ : Mem, k118 x4 x5 σ = some res → V G 9 8 X ((some (.int res.1)), res.2) σ [(0, .ref (ga G 65)), (1, .int x1), (3, .int x3), (4, .int x4), (5, .int x5)] [] 118) → ∀ (x4 : Int32), ∀ (x5 : Int32), ∀ (x6 : Int32), ∀ σ : Mem, p_X12_capes_B52 k52 k118 x1 x2 x3 x4 x5 x6 σ = some res → V G 9 8 X ((some (.int res.1)), res.2) σ [(0, .ref (ga G 65)), (1, .int x1), (3, .int x3), (4, .int x4), (5, .int x5), (6, .int x6)] [] 52 := by
    intro k52 k118 hk52 hk118 x4 x5 x6 σ h
    unfold p_X12_capes_B52 at h
    refine v_blk hC (is := [(.iload 6, 0), (.aload_n 0, 0)]) (pc' := 55) (ls' := [(0, .ref (ga G 65)), (1, .int x1), (3, .int x3), (4, .int x4), (5, .int x5), (6, .int x6)]) (st' := [.ref (ga G 65), .int x6]) (by decide +kernel) rfl ?_
    refine gX12_0 hC lfX12_9 (by decide +kernel) ?_
    refine v_blk hC (is := [(.iconst 0, (0 : Int32))]) (pc' := 59) (ls' := [(0, .ref (ga G 65)), (1, .int x1), (3, .int x3), (4, .int x4), (5, .int x5), (6, .int x6)]) (st' := [.int (0 : Int32), .ref (ga G 66), .int x6]) (by decide +kernel) rfl ?_
    refine v_iald hC isA_66 rfl (by decide +kernel) h (fun v2 h => ?_)
    refine v_icmp_ge hC (off := 58) (tgt := 118) (by decide +kernel) (by decide) h (fun hq h => ?_) (fun hq h => ?_)
    · refine v_sub [0, 1, 2, 3, 4] (ls' := [(0, .ref (ga G 65)), (1, .int x1), (3, .int x3), (4, .int x4), (5, .int x5)]) rfl ?_
      exact hk118 _ _ _ h
    · refine v_blk hC (is := [(.aload_n 0, 0)]) (pc' := 64) (ls' := [(0, .ref (ga G 65)), (1, .int x1), (3, .int x3), (4, .int x4), (5, .int x5), (6, .int x6)]) (st' := [.ref (ga G 65)]) (by decide +kernel) rfl ?_
      refine gX12_0 hC lfX12_9 (by decide +kernel) ?_
      refine v_blk hC (is := [(.iload 6, 0), (.iconst 3, (3 : Int32))]) (pc' := 70) (ls' := [(0, .ref (ga G 65)), (1, .int x1), (3, .int x3), (4, .int x4), (5, .int x5), (6, .int x6)]) (st' := [.int (3 : Int32), .int x6, .ref (ga G 66)]) (by decide +kernel) rfl ?_
      obtain ⟨v3, s4, e5, h⟩ := bndI h
      refine v_cS (idx := 57) hC ⟨tt_at 1143 (by decide +kernel) rfl, tsX12_of, tnX12_of, tcX12_of, tmX12_of⟩ (c_X12_of e5) (by decide) (by decide) (by decide +kernel) (rest := [.ref (ga G 66)]) rfl rfl (Nat.le_of_ble_eq_true rfl) rfl ?_
      refine v_iald hC isA_66 rfl (by decide +kernel) h (fun v6 h => ?_)
      refine v_blk hC (is := [(.iconst 1, (1 : Int32))]) (pc' := 75) (ls' := [(0, .ref (ga G 65)), (1, .int x1), (3, .int x3), (4, .int x4), (5, .int x5), (6, .int x6)]) (st' := [.int (1 : Int32), .int v6]) (by decide +kernel) rfl ?_
      refine v_icmp_ne hC (off := 6) (tgt := 81) (by decide +kernel) (by decide) h (fun hq h => ?_) (fun hq h => ?_)
      · refine v_blk hC (is := [(.aload_n 0, 0), (.iconst 4, (4 : Int32))]) (pc' := 83) (ls' := [(0, .ref (ga G 65)), (1, .int x1), (3, .int x3), (4, .int x4), (5, .int x5), (6, .int x6)]) (st' := [.int (4 : Int32), .ref (ga G 65)]) (by decide +kernel) rfl ?_
        obtain ⟨v7, s8, e9, h⟩ := bndI h
        refine v_cV (idx := 235) hC ⟨tt_at 1430 (by decide +kernel) rfl, tiX12_drawn, tvX12_drawn, tnX12_drawn, tcX12_drawn, tmX12_drawn⟩ isO_X12 rfl (c_X12_drawn e9) (by decide) (by decide) (by decide +kernel) (rest := []) rfl rfl (Nat.le_of_ble_eq_true rfl) rfl ?_
        refine v_blk hC (is := [(.istore 7, 0), (.aload_n 0, 0)]) (pc' := 89) (ls' := [(7, .int v7), (0, .ref (ga G 65)), (1, .int x1), (3, .int x3), (4, .int x4), (5, .int x5), (6, .int x6)]) (st' := [.ref (ga G 65)]) (by decide +kernel) rfl ?_
        refine gX12_1 hC lfX12_13 (by decide +kernel) ?_
        refine v_blk hC (is := [(.iload 6, 0), (.iconst 2, (2 : Int32))]) (pc' := 95) (ls' := [(7, .int v7), (0, .ref (ga G 65)), (1, .int x1), (3, .int x3), (4, .int x4), (5, .int x5), (6, .int x6)]) (st' := [.int (2 : Int32), .int x6, .ref (ga G 67)]) (by decide +kernel) rfl ?_
        obtain ⟨v10, s11, e12, h⟩ := bndI h
        refine v_cS (idx := 57) hC ⟨tt_at 1143 (by decide +kernel) rfl, tsX12_of, tnX12_of, tcX12_of, tmX12_of⟩ (c_X12_of e12) (by decide) (by decide) (by decide +kernel) (rest := [.ref (ga G 67)]) rfl rfl (Nat.le_of_ble_eq_true rfl) rfl ?_
        refine v_blk hC (is := [(.iload 7, 0), (.iconst 3, (3 : Int32))]) (pc' := 101) (ls' := [(7, .int v7), (0, .ref (ga G 65)), (1, .int x1), (3, .int x3), (4, .int x4), (5, .int x5), (6, .int x6)]) (st' := [.int (3 : Int32), .int v7, .int v10, .ref (ga G 67)]) (by decide +kernel) rfl ?_
        refine v_icmp_ne hC (off := 8) (tgt := 109) (by decide +kernel) (by decide) h (fun hq h => ?_) (fun hq h => ?_)
        · refine v_blk hC (is := [(.iload 7, 0)]) (pc' := 111) (ls' := [(7, .int v7), (0, .ref (ga G 65)), (1, .int x1), (3, .int x3), (4, .int x4), (5, .int x5), (6, .int x6)]) (st' := [.int v7, .int v10, .ref (ga G 67)]) (by decide +kernel) rfl ?_
          refine v_sub [1, 2, 3, 4, 5, 6] (ls' := [(0, .ref (ga G 65)), (1, .int x1), (3, .int x3), (4, .int x4), (5, .int x5), (6, .int x6)]) rfl ?_
          exact (hB111 _ hk52) _ _ _ _ _ _ h
        · refine v_blk hC (is := [(.bipush 9, (9 : Int32))]) (pc' := 106) (ls' := [(7, .int v7), (0, .ref (ga G 65)), (1, .int x1), (3, .int x3), (4, .int x4), (5, .int x5), (6, .int x6)]) (st' := [.int (9 : Int32), .int v10, .ref (ga G 67)]) (by decide +kernel) rfl ?_
          refine v_goto hC (off := 5) (tgt := 111) (by decide +kernel) (by decide) ?_
          refine v_sub [1, 2, 3, 4, 5, 6] (ls' := [(0, .ref (ga G 65)), (1, .int x1), (3, .int x3), (4, .int x4), (5, .int x5), (6, .int x6)]) rfl ?_
          exact (hB111 _ hk52) _ _ _ _ _ _ h
      · refine v_goto hC (off := 34) (tgt := 112) (by decide +kernel) (by decide) ?_
        exact (hB112 _ hk52) _ _ _ _ h
  have hL52 : ∀ (k118 : Int32 → Int32 → Mem → Option (Int32 × Mem)), (∀ (x4 : Int32), ∀ (x5 : Int32), ∀ σ : Mem, k118 x4 x5 σ = some res → V G 9 8 X ((some (.int res.1)), res.2) σ [(0, .ref (ga G 65)), (1, .int x1), (3, .int x3), (4, .int x4), (5, .int x5)] [] 118) → ∀ f : Nat, ∀ (x4 : Int32), ∀ (x5 : Int32), ∀ (x6 : Int32), ∀ σ : Mem, p_X12_capes_L52 k118 x1 x2 x3 f x4 x5 x6 σ = some res → V G 9 8 X ((some (.int res.1)), res.2) σ [(0, .ref (ga G 65)), (1, .int x1), (3, .int x3), (4, .int x4), (5, .int x5), (6, .int x6)] [] 52 := by
    intro k118 hk118 f
    induction f with
    | zero => intro x4 x5 x6 σ h; exact none_some h
    | succ f ih => intro x4 x5 x6 σ h; exact hB52 (p_X12_capes_L52 k118 x1 x2 x3 f) k118 ih hk118 x4 x5 x6 σ h
  have hB32 : ∀ (k32 : Int32 → Int32 → Mem → Option (Int32 × Mem)), (∀ (x4 : Int32), ∀ (x5 : Int32), ∀ σ : Mem, k32 x4 x5 σ = some res → V G 9 8 X ((some (.int res.1)), res.2) σ [(0, .ref (ga G 65)), (1, .int x1), (3, .int x3), (4, .int x4), (5, .int x5)] [] 32) → ∀ (x4 : Int32), ∀ (x5 : Int32), ∀ σ : Mem, p_X12_capes_B32 k32 x1 x2 x3 x4 x5 σ = some res → V G 9 8 X ((some (.int res.1)), res.2) σ [(0, .ref (ga G 65)), (1, .int x1), (3, .int x3), (4, .int x4), (5, .int x5)] [] 32 := by
    intro k32 hk32 x4 x5 σ h
    unfold p_X12_capes_B32 at h
    refine v_blk hC (is := [(.iload 5, 0), (.iload_n 1, 0)]) (pc' := 35) (ls' := [(0, .ref (ga G 65)), (1, .int x1), (3, .int x3), (4, .int x4), (5, .int x5)]) (st' := [.int x1, .int x5]) (by decide +kernel) rfl ?_
    refine v_icmp_ge hC (off := 131) (tgt := 166) (by decide +kernel) (by decide) h (fun hq h => ?_) (fun hq h => ?_)
    · refine v_blk hC (is := [(.iload 4, 0)]) (pc' := 168) (ls' := [(0, .ref (ga G 65)), (1, .int x1), (3, .int x3), (4, .int x4), (5, .int x5)]) (st' := [.int x4]) (by decide +kernel) rfl ?_
      exact v_iret hC h (by decide +kernel)
    · refine v_blk hC (is := [(.aload_n 0, 0)]) (pc' := 39) (ls' := [(0, .ref (ga G 65)), (1, .int x1), (3, .int x3), (4, .int x4), (5, .int x5)]) (st' := [.ref (ga G 65)]) (by decide +kernel) rfl ?_
      refine gX12_0 hC lfX12_9 (by decide +kernel) ?_
      refine v_blk hC (is := [(.aload_n 0, 0)]) (pc' := 43) (ls' := [(0, .ref (ga G 65)), (1, .int x1), (3, .int x3), (4, .int x4), (5, .int x5)]) (st' := [.ref (ga G 65), .ref (ga G 66)]) (by decide +kernel) rfl ?_
      refine gX12_1 hC lfX12_13 (by decide +kernel) ?_
      obtain ⟨v13, s14, e15, h⟩ := bndI h
      refine v_cS (idx := 164) hC ⟨tt_at 1133 (by decide +kernel) rfl, tsX12_copies, tnX12_copies, tcX12_copies, tmX12_copies⟩ (c_X12_copies row66 row67 e15) (by decide) (by decide) (by decide +kernel) (rest := []) rfl rfl (Nat.le_of_ble_eq_true rfl) rfl ?_
      refine v_blk hC (is := [(.iconst 0, (0 : Int32)), (.istore 6, 0)]) (pc' := 52) (ls' := [(6, .int (0 : Int32)), (0, .ref (ga G 65)), (1, .int x1), (3, .int x3), (4, .int x4), (5, .int x5)]) (st' := []) (by decide +kernel) rfl ?_
      refine v_sub [1, 2, 3, 4, 5, 0] (ls' := [(0, .ref (ga G 65)), (1, .int x1), (3, .int x3), (4, .int x4), (5, .int x5), (6, .int (0 : Int32))]) rfl ?_
      exact (hL52 _ (fun x4 x5  m16 h => by
            refine v_blk hC (is := [(.aload_n 0, 0), (.iconst 5, (5 : Int32))]) (pc' := 120) (ls' := [(0, .ref (ga G 65)), (1, .int x1), (3, .int x3), (4, .int x4), (5, .int x5)]) (st' := [.int (5 : Int32), .ref (ga G 65)]) (by decide +kernel) rfl ?_
            obtain ⟨v17, s18, e19, h⟩ := bndI h
            refine v_cV (idx := 204) hC ⟨tt_at 1354 (by decide +kernel) rfl, tiX12_lostBehind, tvX12_lostBehind, tnX12_lostBehind, tcX12_lostBehind, tmX12_lostBehind⟩ isO_X12 rfl (c_X12_lostBehind e19) (by decide) (by decide) (by decide +kernel) (rest := []) rfl rfl (Nat.le_of_ble_eq_true rfl) rfl ?_
            refine v_blk hC (is := [(.istore 6, 0), (.iload 4, 0), (.iload_n 3, 0)]) (pc' := 128) (ls' := [(6, .int v17), (0, .ref (ga G 65)), (1, .int x1), (3, .int x3), (4, .int x4), (5, .int x5)]) (st' := [.int x3, .int x4]) (by decide +kernel) rfl ?_
            refine v_if_ne hC (off := 19) (tgt := 147) (by decide +kernel) (by decide) h (fun hq h => ?_) (fun hq h => ?_)
            · refine v_blk hC (is := [(.aload_n 0, 0)]) (pc' := 148) (ls' := [(6, .int v17), (0, .ref (ga G 65)), (1, .int x1), (3, .int x3), (4, .int x4), (5, .int x5)]) (st' := [.ref (ga G 65), .int x4]) (by decide +kernel) rfl ?_
              refine gX12_1 hC lfX12_13 (by decide +kernel) ?_
              obtain ⟨v20, s21, e22, h⟩ := bndI h
              refine v_cS (idx := 238) hC ⟨tt_at 1437 (by decide +kernel) rfl, tsX12_afloat, tnX12_afloat, tcX12_afloat, tmX12_afloat⟩ (c_X12_afloat row67 e22) (by decide) (by decide) (by decide +kernel) (rest := [.int x4]) rfl rfl (Nat.le_of_ble_eq_true rfl) rfl ?_
              obtain ⟨v23, s24, e25, h⟩ := bndI h
              refine v_cS (idx := 126) hC ⟨tt_at 1249 (by decide +kernel) rfl, tsX12_bits, tnX12_bits, tcX12_bits, tmX12_bits⟩ (c_X12_bits e25) (by decide) (by decide) (by decide +kernel) (rest := [.int x4]) rfl rfl (Nat.le_of_ble_eq_true rfl) rfl ?_
              refine v_sub [1, 2, 3, 5] (ls' := [(0, .ref (ga G 65)), (1, .int x1), (3, .int x3), (5, .int x5)]) rfl ?_
              exact (hB157 _ hk32) _ _ _ _ h
            · refine v_blk hC (is := [(.iload 6, 0), (.aload_n 0, 0)]) (pc' := 134) (ls' := [(6, .int v17), (0, .ref (ga G 65)), (1, .int x1), (3, .int x3), (4, .int x4), (5, .int x5)]) (st' := [.ref (ga G 65), .int v17, .int x4]) (by decide +kernel) rfl ?_
              refine gX12_0 hC lfX12_9 (by decide +kernel) ?_
              obtain ⟨v26, s27, e28, h⟩ := bndI h
              refine v_cS (idx := 89) hC ⟨tt_at 1246 (by decide +kernel) rfl, tsX12_lostSet, tnX12_lostSet, tcX12_lostSet, tmX12_lostSet⟩ (c_X12_lostSet row66 e28) (by decide) (by decide) (by decide +kernel) (rest := [.int v17, .int x4]) rfl rfl (Nat.le_of_ble_eq_true rfl) rfl ?_
              obtain ⟨v29, s30, e31, h⟩ := bndI h
              refine v_cS (idx := 126) hC ⟨tt_at 1249 (by decide +kernel) rfl, tsX12_bits, tnX12_bits, tcX12_bits, tmX12_bits⟩ (c_X12_bits e31) (by decide) (by decide) (by decide +kernel) (rest := [.int v17, .int x4]) rfl rfl (Nat.le_of_ble_eq_true rfl) rfl ?_
              refine v_blk hC (is := [(.isub, 0)]) (pc' := 144) (ls' := [(6, .int v17), (0, .ref (ga G 65)), (1, .int x1), (3, .int x3), (4, .int x4), (5, .int x5)]) (st' := [.int (v17 - v29), .int x4]) (by decide +kernel) rfl ?_
              refine v_goto hC (off := 13) (tgt := 157) (by decide +kernel) (by decide) ?_
              refine v_sub [1, 2, 3, 5] (ls' := [(0, .ref (ga G 65)), (1, .int x1), (3, .int x3), (5, .int x5)]) rfl ?_
              exact (hB157 _ hk32) _ _ _ _ h) 1000) _ _ _ _ h
  have hL32 : ∀ f : Nat, ∀ (x4 : Int32), ∀ (x5 : Int32), ∀ σ : Mem, p_X12_capes_L32 x1 x2 x3 f x4 x5 σ = some res → V G 9 8 X ((some (.int res.1)), res.2) σ [(0, .ref (ga G 65)), (1, .int x1), (3, .int x3), (4, .int x4), (5, .int x5)] [] 32 := by
    intro  f
    induction f with
    | zero => intro x4 x5 σ h; exact none_some h
    | succ f ih => intro x4 x5 σ h; exact hB32 (p_X12_capes_L32 x1 x2 x3 f)  ih  x4 x5 σ h
  unfold p_X12_capes at h
  show V G 9 8 X ((some (.int res.1)), res.2) σ [(0, .ref (ga G 65)), (1, .int x1), (2, .int x2), (3, .int x3)] [] 0
  refine v_blk hC (is := [(.iload_n 1, 0), (.iconst 1, (1 : Int32)), (.bipush 20, (20 : Int32))]) (pc' := 4) (ls' := [(0, .ref (ga G 65)), (1, .int x1), (2, .int x2), (3, .int x3)]) (st' := [.int (20 : Int32), .int (1 : Int32), .int x1]) (by decide +kernel) rfl ?_
  obtain ⟨v32, s33, e34, h⟩ := bndI h
  refine v_cS (idx := 49) hC ⟨tt_at 1118 (by decide +kernel) rfl, tsX12_isIn, tnX12_isIn, tcX12_isIn, tmX12_isIn⟩ (c_X12_isIn e34) (by decide) (by decide) (by decide +kernel) (rest := []) rfl rfl (Nat.le_of_ble_eq_true rfl) rfl ?_
  refine v_if_eq hC (off := 12) (tgt := 19) (by decide +kernel) (by decide) h (fun hq h => ?_) (fun hq h => ?_)
  · refine v_blk hC (is := [(.iconst (-1), (-1 : Int32))]) (pc' := 20) (ls' := [(0, .ref (ga G 65)), (1, .int x1), (2, .int x2), (3, .int x3)]) (st' := [.int (-1 : Int32)]) (by decide +kernel) rfl ?_
    exact v_iret hC h (by decide +kernel)
  · refine v_blk hC (is := [(.iload_n 3, 0), (.iconst 0, (0 : Int32)), (.iconst 1, (1 : Int32))]) (pc' := 13) (ls' := [(0, .ref (ga G 65)), (1, .int x1), (2, .int x2), (3, .int x3)]) (st' := [.int (1 : Int32), .int (0 : Int32), .int x3]) (by decide +kernel) rfl ?_
    obtain ⟨v35, s36, e37, h⟩ := bndI h
    refine v_cS (idx := 49) hC ⟨tt_at 1118 (by decide +kernel) rfl, tsX12_isIn, tnX12_isIn, tcX12_isIn, tmX12_isIn⟩ (c_X12_isIn e37) (by decide) (by decide) (by decide +kernel) (rest := []) rfl rfl (Nat.le_of_ble_eq_true rfl) rfl ?_
    refine v_if_ne hC (off := 5) (tgt := 21) (by decide +kernel) (by decide) h (fun hq h => ?_) (fun hq h => ?_)
    · refine v_blk hC (is := [(.aload_n 0, 0), (.iload_n 2, 0)]) (pc' := 23) (ls' := [(0, .ref (ga G 65)), (1, .int x1), (2, .int x2), (3, .int x3)]) (st' := [.int x2, .ref (ga G 65)]) (by decide +kernel) rfl ?_
      refine pX12_11 hC lfX12_229 (by decide +kernel) h (fun s38 h => ?_)
      refine v_blk hC (is := [(.iconst 0, (0 : Int32)), (.istore 4, 0), (.iconst 0, (0 : Int32)), (.istore 5, 0)]) (pc' := 32) (ls' := [(5, .int (0 : Int32)), (4, .int (0 : Int32)), (0, .ref (ga G 65)), (1, .int x1), (2, .int x2), (3, .int x3)]) (st' := []) (by decide +kernel) rfl ?_
      refine v_sub [2, 3, 5, 1, 0] (ls' := [(0, .ref (ga G 65)), (1, .int x1), (3, .int x3), (4, .int (0 : Int32)), (5, .int (0 : Int32))]) rfl ?_
      exact (hL32 1000) _ _ _ h
    · refine v_blk hC (is := [(.iconst (-1), (-1 : Int32))]) (pc' := 20) (ls' := [(0, .ref (ga G 65)), (1, .int x1), (2, .int x2), (3, .int x3)]) (st' := [.int (-1 : Int32)]) (by decide +kernel) rfl ?_
      exact v_iret hC h (by decide +kernel)

def p_X12_image  (σ : Mem) : Option (Int32 × Mem) := (bnd (p_X12_copies 66 68 σ) fun (v1 : Unit) s2 => (wr s2 65 4 (1 : Int32) fun s4 => (if (3 : Int32) < 0 ∨ 100 ≤ ((3 : Int32)).toNatClampNeg then none else lt (s4 66 ((3 : Int32)).toNatClampNeg) fun v5 => some (v5, s4))))
set_option maxHeartbeats 4000000 in
set_option maxRecDepth 100000 in
theorem c_X12_image {G : Gl}  {σ : Mem} {res : Int32 × Mem}  (h : p_X12_image  σ = some res) : MetX G yX12_image cX12_image 1 (some .int) 2 [.ref (ga G 65)] σ (some (.int res.1)) res.2 := by
  refine met_V (by decide +kernel) (Nat.le_of_ble_eq_true rfl) (fun X hC => ?_)
  have hC : Ok G 2 1 X cX12_image RX12 (some .int) := hC
  unfold p_X12_image at h
  show V G 2 1 X ((some (.int res.1)), res.2) σ [(0, .ref (ga G 65))] [] 0
  refine v_blk hC (is := [(.aload_n 0, 0)]) (pc' := 1) (ls' := [(0, .ref (ga G 65))]) (st' := [.ref (ga G 65)]) (by decide +kernel) rfl ?_
  refine gX12_0 hC lfX12_9 (by decide +kernel) ?_
  refine v_blk hC (is := [(.aload_n 0, 0)]) (pc' := 5) (ls' := [(0, .ref (ga G 65))]) (st' := [.ref (ga G 65), .ref (ga G 66)]) (by decide +kernel) rfl ?_
  refine gX12_2 hC lfX12_16 (by decide +kernel) ?_
  obtain ⟨v1, s2, e3, h⟩ := bndI h
  refine v_cS (idx := 164) hC ⟨tt_at 1133 (by decide +kernel) rfl, tsX12_copies, tnX12_copies, tcX12_copies, tmX12_copies⟩ (c_X12_copies row66 row68 e3) (by decide) (by decide) (by decide +kernel) (rest := []) rfl rfl (Nat.le_of_ble_eq_true rfl) rfl ?_
  refine v_blk hC (is := [(.aload_n 0, 0), (.iconst 1, (1 : Int32))]) (pc' := 13) (ls' := [(0, .ref (ga G 65))]) (st' := [.int (1 : Int32), .ref (ga G 65)]) (by decide +kernel) rfl ?_
  refine pX12_4 hC (by decide) lfX12_241 (by decide +kernel) h (fun s4 h => ?_)
  refine v_blk hC (is := [(.aload_n 0, 0)]) (pc' := 17) (ls' := [(0, .ref (ga G 65))]) (st' := [.ref (ga G 65)]) (by decide +kernel) rfl ?_
  refine gX12_0 hC lfX12_9 (by decide +kernel) ?_
  refine v_blk hC (is := [(.iconst 3, (3 : Int32))]) (pc' := 21) (ls' := [(0, .ref (ga G 65))]) (st' := [.int (3 : Int32), .ref (ga G 66)]) (by decide +kernel) rfl ?_
  refine v_iald hC isA_66 rfl (by decide +kernel) h (fun v5 h => ?_)
  exact v_iret hC h (by decide +kernel)

def p_X12_restore  (σ : Mem) : Option (Int32 × Mem) := (lt (σ 65 4) fun v1 => (if v1 = 0 then some ((-3 : Int32), σ) else (bnd (p_X12_copies 68 66 σ) fun (v2 : Unit) s3 => (if (3 : Int32) < 0 ∨ 100 ≤ ((3 : Int32)).toNatClampNeg then none else lt (s3 66 ((3 : Int32)).toNatClampNeg) fun v5 => some (v5, s3)))))
set_option maxHeartbeats 4000000 in
set_option maxRecDepth 100000 in
theorem c_X12_restore {G : Gl}  {σ : Mem} {res : Int32 × Mem}  (h : p_X12_restore  σ = some res) : MetX G yX12_restore cX12_restore 1 (some .int) 2 [.ref (ga G 65)] σ (some (.int res.1)) res.2 := by
  refine met_V (by decide +kernel) (Nat.le_of_ble_eq_true rfl) (fun X hC => ?_)
  have hC : Ok G 2 1 X cX12_restore RX12 (some .int) := hC
  unfold p_X12_restore at h
  show V G 2 1 X ((some (.int res.1)), res.2) σ [(0, .ref (ga G 65))] [] 0
  refine v_blk hC (is := [(.aload_n 0, 0)]) (pc' := 1) (ls' := [(0, .ref (ga G 65))]) (st' := [.ref (ga G 65)]) (by decide +kernel) rfl ?_
  refine gX12_4 hC lfX12_241 (by decide +kernel) h (fun v1 h => ?_)
  refine v_if_ne hC (off := 6) (tgt := 10) (by decide +kernel) (by decide) h (fun hq h => ?_) (fun hq h => ?_)
  · refine v_blk hC (is := [(.aload_n 0, 0)]) (pc' := 11) (ls' := [(0, .ref (ga G 65))]) (st' := [.ref (ga G 65)]) (by decide +kernel) rfl ?_
    refine gX12_2 hC lfX12_16 (by decide +kernel) ?_
    refine v_blk hC (is := [(.aload_n 0, 0)]) (pc' := 15) (ls' := [(0, .ref (ga G 65))]) (st' := [.ref (ga G 65), .ref (ga G 68)]) (by decide +kernel) rfl ?_
    refine gX12_0 hC lfX12_9 (by decide +kernel) ?_
    obtain ⟨v2, s3, e4, h⟩ := bndI h
    refine v_cS (idx := 164) hC ⟨tt_at 1133 (by decide +kernel) rfl, tsX12_copies, tnX12_copies, tcX12_copies, tmX12_copies⟩ (c_X12_copies row68 row66 e4) (by decide) (by decide) (by decide +kernel) (rest := []) rfl rfl (Nat.le_of_ble_eq_true rfl) rfl ?_
    refine v_blk hC (is := [(.aload_n 0, 0)]) (pc' := 22) (ls' := [(0, .ref (ga G 65))]) (st' := [.ref (ga G 65)]) (by decide +kernel) rfl ?_
    refine gX12_0 hC lfX12_9 (by decide +kernel) ?_
    refine v_blk hC (is := [(.iconst 3, (3 : Int32))]) (pc' := 26) (ls' := [(0, .ref (ga G 65))]) (st' := [.int (3 : Int32), .ref (ga G 66)]) (by decide +kernel) rfl ?_
    refine v_iald hC isA_66 rfl (by decide +kernel) h (fun v5 h => ?_)
    exact v_iret hC h (by decide +kernel)
  · refine v_blk hC (is := [(.bipush (-3), (-3 : Int32))]) (pc' := 9) (ls' := [(0, .ref (ga G 65))]) (st' := [.int (-3 : Int32)]) (by decide +kernel) rfl ?_
    exact v_iret hC h (by decide +kernel)

def p_X12_count_B62 (k62 : Int32 → Int32 → Mem → Option (Int32 × Mem)) (x1 : Int32) (x2 : Int32) (x3 : Int32) (σ : Mem) : Option (Int32 × Mem) := (if (0 : Int32) < 0 ∨ 100 ≤ ((0 : Int32)).toNatClampNeg then none else lt (σ 66 ((0 : Int32)).toNatClampNeg) fun v1 => (if v1 ≤ x3 then some (x2, σ) else (bnd (p_X12_owedOf x3 σ) fun v2 s3 => k62 (x2 + v2) (x3 + (1 : Int32)) s3)))
def p_X12_count_L62  (x1 : Int32) : Nat → Int32 → Int32 → Mem → Option (Int32 × Mem)
  | 0 => fun _ _ _ => none
  | f + 1 => p_X12_count_B62 (p_X12_count_L62 x1 f) x1
def p_X12_count (x1 : Int32) (σ : Mem) : Option (Int32 × Mem) := (bnd (p_X12_isIn x1 (0 : Int32) (3 : Int32) σ) fun v5 s6 => (if v5 = 0 then (if x1 = (4 : Int32) then (bnd (p_X12_lostSet 66 s6) fun v9 s10 => some (v9, s10)) else (if x1 = (5 : Int32) then (bnd (p_X12_afloat 66 s6) fun v13 s14 => some (v13, s14)) else (if x1 = (6 : Int32) then (p_X12_count_L62 x1 1000) (0 : Int32) (0 : Int32) s6 else some ((-1 : Int32), s6)))) else (if x1 < 0 ∨ 100 ≤ (x1).toNatClampNeg then none else lt (s6 66 (x1).toNatClampNeg) fun v17 => some (v17, s6))))
set_option maxHeartbeats 4000000 in
set_option maxRecDepth 100000 in
theorem c_X12_count {G : Gl} {x1 : Int32} {σ : Mem} {res : Int32 × Mem}  (h : p_X12_count x1 σ = some res) : MetX G yX12_count cX12_count 4 (some .int) 4 [.ref (ga G 65), .int x1] σ (some (.int res.1)) res.2 := by
  refine met_V (by decide +kernel) (Nat.le_of_ble_eq_true rfl) (fun X hC => ?_)
  have hC : Ok G 4 4 X cX12_count RX12 (some .int) := hC
  have hB62 : ∀ (k62 : Int32 → Int32 → Mem → Option (Int32 × Mem)), (∀ (x2 : Int32), ∀ (x3 : Int32), ∀ σ : Mem, k62 x2 x3 σ = some res → V G 4 4 X ((some (.int res.1)), res.2) σ [(0, .ref (ga G 65)), (2, .int x2), (3, .int x3)] [] 62) → ∀ (x2 : Int32), ∀ (x3 : Int32), ∀ σ : Mem, p_X12_count_B62 k62 x1 x2 x3 σ = some res → V G 4 4 X ((some (.int res.1)), res.2) σ [(0, .ref (ga G 65)), (2, .int x2), (3, .int x3)] [] 62 := by
    intro k62 hk62 x2 x3 σ h
    unfold p_X12_count_B62 at h
    refine v_blk hC (is := [(.iload_n 3, 0), (.aload_n 0, 0)]) (pc' := 64) (ls' := [(0, .ref (ga G 65)), (2, .int x2), (3, .int x3)]) (st' := [.ref (ga G 65), .int x3]) (by decide +kernel) rfl ?_
    refine gX12_0 hC lfX12_9 (by decide +kernel) ?_
    refine v_blk hC (is := [(.iconst 0, (0 : Int32))]) (pc' := 68) (ls' := [(0, .ref (ga G 65)), (2, .int x2), (3, .int x3)]) (st' := [.int (0 : Int32), .ref (ga G 66), .int x3]) (by decide +kernel) rfl ?_
    refine v_iald hC isA_66 rfl (by decide +kernel) h (fun v1 h => ?_)
    refine v_icmp_ge hC (off := 17) (tgt := 86) (by decide +kernel) (by decide) h (fun hq h => ?_) (fun hq h => ?_)
    · refine v_blk hC (is := [(.iload_n 2, 0)]) (pc' := 87) (ls' := [(0, .ref (ga G 65)), (2, .int x2), (3, .int x3)]) (st' := [.int x2]) (by decide +kernel) rfl ?_
      exact v_iret hC h (by decide +kernel)
    · refine v_blk hC (is := [(.iload_n 2, 0), (.aload_n 0, 0), (.iload_n 3, 0)]) (pc' := 75) (ls' := [(0, .ref (ga G 65)), (2, .int x2), (3, .int x3)]) (st' := [.int x3, .ref (ga G 65), .int x2]) (by decide +kernel) rfl ?_
      obtain ⟨v2, s3, e4, h⟩ := bndI h
      refine v_cV (idx := 201) hC ⟨tt_at 1326 (by decide +kernel) rfl, tiX12_owedOf, tvX12_owedOf, tnX12_owedOf, tcX12_owedOf, tmX12_owedOf⟩ isO_X12 rfl (c_X12_owedOf e4) (by decide) (by decide) (by decide +kernel) (rest := [.int x2]) rfl rfl (Nat.le_of_ble_eq_true rfl) rfl ?_
      refine v_blk hC (is := [(.iadd, 0), (.istore_n 2, 0), (.iinc 3 1, (1 : Int32))]) (pc' := 83) (ls' := [(3, .int (x3 + (1 : Int32))), (2, .int (x2 + v2)), (0, .ref (ga G 65))]) (st' := []) (by decide +kernel) rfl ?_
      refine v_goto hC (off := (-21)) (tgt := 62) (by decide +kernel) (by decide) ?_
      refine v_sub [2, 1, 0] (ls' := [(0, .ref (ga G 65)), (2, .int (x2 + v2)), (3, .int (x3 + (1 : Int32)))]) rfl ?_
      exact hk62 _ _ _ h
  have hL62 : ∀ f : Nat, ∀ (x2 : Int32), ∀ (x3 : Int32), ∀ σ : Mem, p_X12_count_L62 x1 f x2 x3 σ = some res → V G 4 4 X ((some (.int res.1)), res.2) σ [(0, .ref (ga G 65)), (2, .int x2), (3, .int x3)] [] 62 := by
    intro  f
    induction f with
    | zero => intro x2 x3 σ h; exact none_some h
    | succ f ih => intro x2 x3 σ h; exact hB62 (p_X12_count_L62 x1 f)  ih  x2 x3 σ h
  unfold p_X12_count at h
  show V G 4 4 X ((some (.int res.1)), res.2) σ [(0, .ref (ga G 65)), (1, .int x1)] [] 0
  refine v_blk hC (is := [(.iload_n 1, 0), (.iconst 0, (0 : Int32)), (.iconst 3, (3 : Int32))]) (pc' := 3) (ls' := [(0, .ref (ga G 65)), (1, .int x1)]) (st' := [.int (3 : Int32), .int (0 : Int32), .int x1]) (by decide +kernel) rfl ?_
  obtain ⟨v5, s6, e7, h⟩ := bndI h
  refine v_cS (idx := 49) hC ⟨tt_at 1118 (by decide +kernel) rfl, tsX12_isIn, tnX12_isIn, tcX12_isIn, tmX12_isIn⟩ (c_X12_isIn e7) (by decide) (by decide) (by decide +kernel) (rest := []) rfl rfl (Nat.le_of_ble_eq_true rfl) rfl ?_
  refine v_if_eq hC (off := 10) (tgt := 16) (by decide +kernel) (by decide) h (fun hq h => ?_) (fun hq h => ?_)
  · refine v_blk hC (is := [(.iconst 0, (0 : Int32)), (.istore_n 2, 0), (.iload_n 1, 0)]) (pc' := 19) (ls' := [(2, .int (0 : Int32)), (0, .ref (ga G 65)), (1, .int x1)]) (st' := [.int x1]) (by decide +kernel) rfl ?_
    by_cases q8 : x1 = (4 : Int32)
    · replace h := br_pos h q8
      refine v_tin hC (dflt := 69) (lo := 4) (hi := 6) (offs := #[25, 33, 41]) (len := 25) (off := 25) (tgt := 44) (by decide +kernel) (by rw [q8]; decide) (by rw [q8]; decide) (by rw [q8]; decide) (by decide) ?_
      refine v_blk hC (is := [(.aload_n 0, 0)]) (pc' := 45) (ls' := [(2, .int (0 : Int32)), (0, .ref (ga G 65)), (1, .int x1)]) (st' := [.ref (ga G 65)]) (by decide +kernel) rfl ?_
      refine gX12_0 hC lfX12_9 (by decide +kernel) ?_
      obtain ⟨v9, s10, e11, h⟩ := bndI h
      refine v_cS (idx := 89) hC ⟨tt_at 1246 (by decide +kernel) rfl, tsX12_lostSet, tnX12_lostSet, tcX12_lostSet, tmX12_lostSet⟩ (c_X12_lostSet row66 e11) (by decide) (by decide) (by decide +kernel) (rest := []) rfl rfl (Nat.le_of_ble_eq_true rfl) rfl ?_
      exact v_iret hC h (by decide +kernel)
    replace h := br_neg h q8
    by_cases q12 : x1 = (5 : Int32)
    · replace h := br_pos h q12
      refine v_tin hC (dflt := 69) (lo := 4) (hi := 6) (offs := #[25, 33, 41]) (len := 25) (off := 33) (tgt := 52) (by decide +kernel) (by rw [q12]; decide) (by rw [q12]; decide) (by rw [q12]; decide) (by decide) ?_
      refine v_blk hC (is := [(.aload_n 0, 0)]) (pc' := 53) (ls' := [(2, .int (0 : Int32)), (0, .ref (ga G 65)), (1, .int x1)]) (st' := [.ref (ga G 65)]) (by decide +kernel) rfl ?_
      refine gX12_0 hC lfX12_9 (by decide +kernel) ?_
      obtain ⟨v13, s14, e15, h⟩ := bndI h
      refine v_cS (idx := 238) hC ⟨tt_at 1437 (by decide +kernel) rfl, tsX12_afloat, tnX12_afloat, tcX12_afloat, tmX12_afloat⟩ (c_X12_afloat row66 e15) (by decide) (by decide) (by decide +kernel) (rest := []) rfl rfl (Nat.le_of_ble_eq_true rfl) rfl ?_
      exact v_iret hC h (by decide +kernel)
    replace h := br_neg h q12
    by_cases q16 : x1 = (6 : Int32)
    · replace h := br_pos h q16
      refine v_tin hC (dflt := 69) (lo := 4) (hi := 6) (offs := #[25, 33, 41]) (len := 25) (off := 41) (tgt := 60) (by decide +kernel) (by rw [q16]; decide) (by rw [q16]; decide) (by rw [q16]; decide) (by decide) ?_
      refine v_blk hC (is := [(.iconst 0, (0 : Int32)), (.istore_n 3, 0)]) (pc' := 62) (ls' := [(3, .int (0 : Int32)), (2, .int (0 : Int32)), (0, .ref (ga G 65)), (1, .int x1)]) (st' := []) (by decide +kernel) rfl ?_
      refine v_sub [2, 1, 0] (ls' := [(0, .ref (ga G 65)), (2, .int (0 : Int32)), (3, .int (0 : Int32))]) rfl ?_
      exact (hL62 1000) _ _ _ h
    replace h := br_neg h q16
    refine v_tout hC (dflt := 69) (lo := 4) (hi := 6) (offs := #[25, 33, 41]) (len := 25) (tgt := 88) (by decide +kernel) (by have wq8 := lv_neT q8 (a := 4) (by decide); have wq12 := lv_neT q12 (a := 5) (by decide); have wq16 := lv_neT q16 (a := 6) (by decide); omega) (by decide) ?_
    refine v_blk hC (is := [(.iconst (-1), (-1 : Int32))]) (pc' := 89) (ls' := [(2, .int (0 : Int32)), (0, .ref (ga G 65)), (1, .int x1)]) (st' := [.int (-1 : Int32)]) (by decide +kernel) rfl ?_
    exact v_iret hC h (by decide +kernel)
  · refine v_blk hC (is := [(.aload_n 0, 0)]) (pc' := 10) (ls' := [(0, .ref (ga G 65)), (1, .int x1)]) (st' := [.ref (ga G 65)]) (by decide +kernel) rfl ?_
    refine gX12_0 hC lfX12_9 (by decide +kernel) ?_
    refine v_blk hC (is := [(.iload_n 1, 0)]) (pc' := 14) (ls' := [(0, .ref (ga G 65)), (1, .int x1)]) (st' := [.int x1, .ref (ga G 66)]) (by decide +kernel) rfl ?_
    refine v_iald hC isA_66 rfl (by decide +kernel) h (fun v17 h => ?_)
    exact v_iret hC h (by decide +kernel)

def p_X12_thrown  (σ : Mem) : Option (Int32 × Mem) := (lt (σ 65 18) fun v1 => some (v1, σ))
set_option maxHeartbeats 4000000 in
set_option maxRecDepth 100000 in
theorem c_X12_thrown {G : Gl}  {σ : Mem} {res : Int32 × Mem}  (h : p_X12_thrown  σ = some res) : MetX G yX12_thrown cX12_thrown 1 (some .int) 1 [.ref (ga G 65)] σ (some (.int res.1)) res.2 := by
  refine met_V (by decide +kernel) (Nat.le_of_ble_eq_true rfl) (fun X hC => ?_)
  have hC : Ok G 1 1 X cX12_thrown RX12 (some .int) := hC
  unfold p_X12_thrown at h
  show V G 1 1 X ((some (.int res.1)), res.2) σ [(0, .ref (ga G 65))] [] 0
  refine v_blk hC (is := [(.aload_n 0, 0)]) (pc' := 1) (ls' := [(0, .ref (ga G 65))]) (st' := [.ref (ga G 65)]) (by decide +kernel) rfl ?_
  refine gX12_18 hC lfX12_245 (by decide +kernel) h (fun v1 h => ?_)
  exact v_iret hC h (by decide +kernel)

def p_X12_keep_B44  (x1 : Int32) (x2 : Int32) (x3 : Int32) (x4 : Int32)  (σ : Mem) : Option (Int32 × Mem) := (if x1 < 0 ∨ 8 ≤ (x1).toNatClampNeg then none else wr σ 73 (x1).toNatClampNeg x2 fun s1 => (if x1 < 0 ∨ 8 ≤ (x1).toNatClampNeg then none else wr s1 74 (x1).toNatClampNeg x3 fun s2 => (if x1 < 0 ∨ 8 ≤ (x1).toNatClampNeg then none else wr s2 75 (x1).toNatClampNeg x4 fun s3 => some ((0 : Int32), s3))))
def p_X12_keep (x1 : Int32) (x2 : Int32) (x3 : Int32) (x4 : Int32) (σ : Mem) : Option (Int32 × Mem) := (bnd (p_X12_isShelf x1 σ) fun v4 s5 => (if v4 = 0 then some ((-1 : Int32), s5) else (bnd (p_X12_isIn x2 (0 : Int32) (1 : Int32) s5) fun v7 s8 => (if v7 = 0 then some ((-1 : Int32), s8) else (if x2 = (1 : Int32) then (bnd (p_X12_isIn x3 (0 : Int32) (7 : Int32) s8) fun v10 s11 => (if v10 = 0 then some ((-1 : Int32), s11) else (bnd (p_X12_isIn x4 (0 : Int32) (9 : Int32) s11) fun v13 s14 => (if v13 = 0 then some ((-1 : Int32), s14) else (p_X12_keep_B44 x1 x2 x3 x4) s14)))) else (p_X12_keep_B44 x1 x2 x3 x4) s8)))))
set_option maxHeartbeats 4000000 in
set_option maxRecDepth 100000 in
theorem c_X12_keep {G : Gl} {x1 : Int32} {x2 : Int32} {x3 : Int32} {x4 : Int32} {σ : Mem} {res : Int32 × Mem}  (h : p_X12_keep x1 x2 x3 x4 σ = some res) : MetX G yX12_keep cX12_keep 5 (some .int) 3 [.ref (ga G 65), .int x1, .int x2, .int x3, .int x4] σ (some (.int res.1)) res.2 := by
  refine met_V (by decide +kernel) (Nat.le_of_ble_eq_true rfl) (fun X hC => ?_)
  have hC : Ok G 3 5 X cX12_keep RX12 (some .int) := hC
  have hB44 : ∀ σ : Mem, p_X12_keep_B44 x1 x2 x3 x4 σ = some res → V G 3 5 X ((some (.int res.1)), res.2) σ [(0, .ref (ga G 65)), (1, .int x1), (2, .int x2), (3, .int x3), (4, .int x4)] [] 44 := by
    intro  σ h
    unfold p_X12_keep_B44 at h
    refine v_blk hC (is := [(.aload_n 0, 0)]) (pc' := 45) (ls' := [(0, .ref (ga G 65)), (1, .int x1), (2, .int x2), (3, .int x3), (4, .int x4)]) (st' := [.ref (ga G 65)]) (by decide +kernel) rfl ?_
    refine gX12_12 hC lfX12_31 (by decide +kernel) ?_
    refine v_blk hC (is := [(.iload_n 1, 0), (.iload_n 2, 0)]) (pc' := 50) (ls' := [(0, .ref (ga G 65)), (1, .int x1), (2, .int x2), (3, .int x3), (4, .int x4)]) (st' := [.int x2, .int x1, .ref (ga G 73)]) (by decide +kernel) rfl ?_
    refine v_iast hC isA_73 rfl (by decide +kernel) h (fun s1 h => ?_)
    refine v_blk hC (is := [(.aload_n 0, 0)]) (pc' := 52) (ls' := [(0, .ref (ga G 65)), (1, .int x1), (2, .int x2), (3, .int x3), (4, .int x4)]) (st' := [.ref (ga G 65)]) (by decide +kernel) rfl ?_
    refine gX12_13 hC lfX12_34 (by decide +kernel) ?_
    refine v_blk hC (is := [(.iload_n 1, 0), (.iload_n 3, 0)]) (pc' := 57) (ls' := [(0, .ref (ga G 65)), (1, .int x1), (2, .int x2), (3, .int x3), (4, .int x4)]) (st' := [.int x3, .int x1, .ref (ga G 74)]) (by decide +kernel) rfl ?_
    refine v_iast hC isA_74 rfl (by decide +kernel) h (fun s2 h => ?_)
    refine v_blk hC (is := [(.aload_n 0, 0)]) (pc' := 59) (ls' := [(0, .ref (ga G 65)), (1, .int x1), (2, .int x2), (3, .int x3), (4, .int x4)]) (st' := [.ref (ga G 65)]) (by decide +kernel) rfl ?_
    refine gX12_14 hC lfX12_37 (by decide +kernel) ?_
    refine v_blk hC (is := [(.iload_n 1, 0), (.iload 4, 0)]) (pc' := 65) (ls' := [(0, .ref (ga G 65)), (1, .int x1), (2, .int x2), (3, .int x3), (4, .int x4)]) (st' := [.int x4, .int x1, .ref (ga G 75)]) (by decide +kernel) rfl ?_
    refine v_iast hC isA_75 rfl (by decide +kernel) h (fun s3 h => ?_)
    refine v_blk hC (is := [(.iconst 0, (0 : Int32))]) (pc' := 67) (ls' := [(0, .ref (ga G 65)), (1, .int x1), (2, .int x2), (3, .int x3), (4, .int x4)]) (st' := [.int (0 : Int32)]) (by decide +kernel) rfl ?_
    exact v_iret hC h (by decide +kernel)
  unfold p_X12_keep at h
  show V G 3 5 X ((some (.int res.1)), res.2) σ [(0, .ref (ga G 65)), (1, .int x1), (2, .int x2), (3, .int x3), (4, .int x4)] [] 0
  refine v_blk hC (is := [(.iload_n 1, 0)]) (pc' := 1) (ls' := [(0, .ref (ga G 65)), (1, .int x1), (2, .int x2), (3, .int x3), (4, .int x4)]) (st' := [.int x1]) (by decide +kernel) rfl ?_
  obtain ⟨v4, s5, e6, h⟩ := bndI h
  refine v_cS (idx := 248) hC ⟨tt_at 1115 (by decide +kernel) rfl, tsX12_isShelf, tnX12_isShelf, tcX12_isShelf, tmX12_isShelf⟩ (c_X12_isShelf e6) (by decide) (by decide) (by decide +kernel) (rest := []) rfl rfl (Nat.le_of_ble_eq_true rfl) rfl ?_
  refine v_if_eq hC (off := 38) (tgt := 42) (by decide +kernel) (by decide) h (fun hq h => ?_) (fun hq h => ?_)
  · refine v_blk hC (is := [(.iconst (-1), (-1 : Int32))]) (pc' := 43) (ls' := [(0, .ref (ga G 65)), (1, .int x1), (2, .int x2), (3, .int x3), (4, .int x4)]) (st' := [.int (-1 : Int32)]) (by decide +kernel) rfl ?_
    exact v_iret hC h (by decide +kernel)
  · refine v_blk hC (is := [(.iload_n 2, 0), (.iconst 0, (0 : Int32)), (.iconst 1, (1 : Int32))]) (pc' := 10) (ls' := [(0, .ref (ga G 65)), (1, .int x1), (2, .int x2), (3, .int x3), (4, .int x4)]) (st' := [.int (1 : Int32), .int (0 : Int32), .int x2]) (by decide +kernel) rfl ?_
    obtain ⟨v7, s8, e9, h⟩ := bndI h
    refine v_cS (idx := 49) hC ⟨tt_at 1118 (by decide +kernel) rfl, tsX12_isIn, tnX12_isIn, tcX12_isIn, tmX12_isIn⟩ (c_X12_isIn e9) (by decide) (by decide) (by decide +kernel) (rest := []) rfl rfl (Nat.le_of_ble_eq_true rfl) rfl ?_
    refine v_if_eq hC (off := 29) (tgt := 42) (by decide +kernel) (by decide) h (fun hq h => ?_) (fun hq h => ?_)
    · refine v_blk hC (is := [(.iconst (-1), (-1 : Int32))]) (pc' := 43) (ls' := [(0, .ref (ga G 65)), (1, .int x1), (2, .int x2), (3, .int x3), (4, .int x4)]) (st' := [.int (-1 : Int32)]) (by decide +kernel) rfl ?_
      exact v_iret hC h (by decide +kernel)
    · refine v_blk hC (is := [(.iload_n 2, 0), (.iconst 1, (1 : Int32))]) (pc' := 18) (ls' := [(0, .ref (ga G 65)), (1, .int x1), (2, .int x2), (3, .int x3), (4, .int x4)]) (st' := [.int (1 : Int32), .int x2]) (by decide +kernel) rfl ?_
      refine v_icmp_ne hC (off := 26) (tgt := 44) (by decide +kernel) (by decide) h (fun hq h => ?_) (fun hq h => ?_)
      · exact (hB44 ) _ h
      · refine v_blk hC (is := [(.iload_n 3, 0), (.iconst 0, (0 : Int32)), (.bipush 7, (7 : Int32))]) (pc' := 25) (ls' := [(0, .ref (ga G 65)), (1, .int x1), (2, .int x2), (3, .int x3), (4, .int x4)]) (st' := [.int (7 : Int32), .int (0 : Int32), .int x3]) (by decide +kernel) rfl ?_
        obtain ⟨v10, s11, e12, h⟩ := bndI h
        refine v_cS (idx := 49) hC ⟨tt_at 1118 (by decide +kernel) rfl, tsX12_isIn, tnX12_isIn, tcX12_isIn, tmX12_isIn⟩ (c_X12_isIn e12) (by decide) (by decide) (by decide +kernel) (rest := []) rfl rfl (Nat.le_of_ble_eq_true rfl) rfl ?_
        refine v_if_eq hC (off := 14) (tgt := 42) (by decide +kernel) (by decide) h (fun hq h => ?_) (fun hq h => ?_)
        · refine v_blk hC (is := [(.iconst (-1), (-1 : Int32))]) (pc' := 43) (ls' := [(0, .ref (ga G 65)), (1, .int x1), (2, .int x2), (3, .int x3), (4, .int x4)]) (st' := [.int (-1 : Int32)]) (by decide +kernel) rfl ?_
          exact v_iret hC h (by decide +kernel)
        · refine v_blk hC (is := [(.iload 4, 0), (.iconst 0, (0 : Int32)), (.bipush 9, (9 : Int32))]) (pc' := 36) (ls' := [(0, .ref (ga G 65)), (1, .int x1), (2, .int x2), (3, .int x3), (4, .int x4)]) (st' := [.int (9 : Int32), .int (0 : Int32), .int x4]) (by decide +kernel) rfl ?_
          obtain ⟨v13, s14, e15, h⟩ := bndI h
          refine v_cS (idx := 49) hC ⟨tt_at 1118 (by decide +kernel) rfl, tsX12_isIn, tnX12_isIn, tcX12_isIn, tmX12_isIn⟩ (c_X12_isIn e15) (by decide) (by decide) (by decide +kernel) (rest := []) rfl rfl (Nat.le_of_ble_eq_true rfl) rfl ?_
          refine v_if_ne hC (off := 5) (tgt := 44) (by decide +kernel) (by decide) h (fun hq h => ?_) (fun hq h => ?_)
          · exact (hB44 ) _ h
          · refine v_blk hC (is := [(.iconst (-1), (-1 : Int32))]) (pc' := 43) (ls' := [(0, .ref (ga G 65)), (1, .int x1), (2, .int x2), (3, .int x3), (4, .int x4)]) (st' := [.int (-1 : Int32)]) (by decide +kernel) rfl ?_
            exact v_iret hC h (by decide +kernel)

def p_X12_row_B55 (k55 : Int32 → Mem → Option (Int32 × Mem)) (x1 : Int32) (x2 : Int32) (x3 : Int32) (x4 : Int32) (σ : Mem) : Option (Int32 × Mem) := (if (100 : Int32) ≤ x4 then some ((0 : Int32), σ) else (if (((100 : Int32) * x1) + x4) < 0 ∨ 800 ≤ ((((100 : Int32) * x1) + x4)).toNatClampNeg then none else wr σ 78 ((((100 : Int32) * x1) + x4)).toNatClampNeg (0 : Int32) fun s1 => k55 (x4 + (1 : Int32)) s1))
def p_X12_row_L55  (x1 : Int32) (x2 : Int32) (x3 : Int32) : Nat → Int32 → Mem → Option (Int32 × Mem)
  | 0 => fun _ _ => none
  | f + 1 => p_X12_row_B55 (p_X12_row_L55 x1 x2 x3 f) x1 x2 x3
def p_X12_row (x1 : Int32) (x2 : Int32) (x3 : Int32) (σ : Mem) : Option (Int32 × Mem) := (bnd (p_X12_isShelf x1 σ) fun v2 s3 => (if v2 = 0 then some ((-1 : Int32), s3) else (bnd (p_X12_isIn x2 (0 : Int32) (2 : Int32) s3) fun v5 s6 => (if v5 = 0 then some ((-1 : Int32), s6) else (if x3 ≤ (100 : Int32) then (if 0 ≤ x3 then (if x1 < 0 ∨ 8 ≤ (x1).toNatClampNeg then none else wr s6 73 (x1).toNatClampNeg (2 : Int32) fun s8 => (if x1 < 0 ∨ 8 ≤ (x1).toNatClampNeg then none else wr s8 76 (x1).toNatClampNeg x2 fun s9 => (if x1 < 0 ∨ 8 ≤ (x1).toNatClampNeg then none else wr s9 77 (x1).toNatClampNeg x3 fun s10 => (p_X12_row_L55 x1 x2 x3 1000) (0 : Int32) s10))) else some ((-14 : Int32), s6)) else some ((-1 : Int32), s6))))))
set_option maxHeartbeats 4000000 in
set_option maxRecDepth 100000 in
theorem c_X12_row {G : Gl} {x1 : Int32} {x2 : Int32} {x3 : Int32} {σ : Mem} {res : Int32 × Mem}  (h : p_X12_row x1 x2 x3 σ = some res) : MetX G yX12_row cX12_row 5 (some .int) 3 [.ref (ga G 65), .int x1, .int x2, .int x3] σ (some (.int res.1)) res.2 := by
  refine met_V (by decide +kernel) (Nat.le_of_ble_eq_true rfl) (fun X hC => ?_)
  have hC : Ok G 3 5 X cX12_row RX12 (some .int) := hC
  have hB55 : ∀ (k55 : Int32 → Mem → Option (Int32 × Mem)), (∀ (x4 : Int32), ∀ σ : Mem, k55 x4 σ = some res → V G 3 5 X ((some (.int res.1)), res.2) σ [(0, .ref (ga G 65)), (1, .int x1), (4, .int x4)] [] 55) → ∀ (x4 : Int32), ∀ σ : Mem, p_X12_row_B55 k55 x1 x2 x3 x4 σ = some res → V G 3 5 X ((some (.int res.1)), res.2) σ [(0, .ref (ga G 65)), (1, .int x1), (4, .int x4)] [] 55 := by
    intro k55 hk55 x4 σ h
    unfold p_X12_row_B55 at h
    refine v_blk hC (is := [(.iload 4, 0), (.bipush 100, (100 : Int32))]) (pc' := 59) (ls' := [(0, .ref (ga G 65)), (1, .int x1), (4, .int x4)]) (st' := [.int (100 : Int32), .int x4]) (by decide +kernel) rfl ?_
    refine v_icmp_ge hC (off := 22) (tgt := 81) (by decide +kernel) (by decide) h (fun hq h => ?_) (fun hq h => ?_)
    · refine v_blk hC (is := [(.iconst 0, (0 : Int32))]) (pc' := 82) (ls' := [(0, .ref (ga G 65)), (1, .int x1), (4, .int x4)]) (st' := [.int (0 : Int32)]) (by decide +kernel) rfl ?_
      exact v_iret hC h (by decide +kernel)
    · refine v_blk hC (is := [(.aload_n 0, 0)]) (pc' := 63) (ls' := [(0, .ref (ga G 65)), (1, .int x1), (4, .int x4)]) (st' := [.ref (ga G 65)]) (by decide +kernel) rfl ?_
      refine gX12_17 hC lfX12_46 (by decide +kernel) ?_
      refine v_blk hC (is := [(.bipush 100, (100 : Int32)), (.iload_n 1, 0), (.imul, 0), (.iload 4, 0), (.iadd, 0), (.iconst 0, (0 : Int32))]) (pc' := 74) (ls' := [(0, .ref (ga G 65)), (1, .int x1), (4, .int x4)]) (st' := [.int (0 : Int32), .int (((100 : Int32) * x1) + x4), .ref (ga G 78)]) (by decide +kernel) rfl ?_
      refine v_iast hC isA_78 rfl (by decide +kernel) h (fun s1 h => ?_)
      refine v_blk hC (is := [(.iinc 4 1, (1 : Int32))]) (pc' := 78) (ls' := [(4, .int (x4 + (1 : Int32))), (0, .ref (ga G 65)), (1, .int x1)]) (st' := []) (by decide +kernel) rfl ?_
      refine v_goto hC (off := (-23)) (tgt := 55) (by decide +kernel) (by decide) ?_
      refine v_sub [1, 2, 0] (ls' := [(0, .ref (ga G 65)), (1, .int x1), (4, .int (x4 + (1 : Int32)))]) rfl ?_
      exact hk55 _ _ h
  have hL55 : ∀ f : Nat, ∀ (x4 : Int32), ∀ σ : Mem, p_X12_row_L55 x1 x2 x3 f x4 σ = some res → V G 3 5 X ((some (.int res.1)), res.2) σ [(0, .ref (ga G 65)), (1, .int x1), (4, .int x4)] [] 55 := by
    intro  f
    induction f with
    | zero => intro x4 σ h; exact none_some h
    | succ f ih => intro x4 σ h; exact hB55 (p_X12_row_L55 x1 x2 x3 f)  ih  x4 σ h
  unfold p_X12_row at h
  show V G 3 5 X ((some (.int res.1)), res.2) σ [(0, .ref (ga G 65)), (1, .int x1), (2, .int x2), (3, .int x3)] [] 0
  refine v_blk hC (is := [(.iload_n 1, 0)]) (pc' := 1) (ls' := [(0, .ref (ga G 65)), (1, .int x1), (2, .int x2), (3, .int x3)]) (st' := [.int x1]) (by decide +kernel) rfl ?_
  obtain ⟨v2, s3, e4, h⟩ := bndI h
  refine v_cS (idx := 248) hC ⟨tt_at 1115 (by decide +kernel) rfl, tsX12_isShelf, tnX12_isShelf, tcX12_isShelf, tmX12_isShelf⟩ (c_X12_isShelf e4) (by decide) (by decide) (by decide +kernel) (rest := []) rfl rfl (Nat.le_of_ble_eq_true rfl) rfl ?_
  refine v_if_eq hC (off := 18) (tgt := 22) (by decide +kernel) (by decide) h (fun hq h => ?_) (fun hq h => ?_)
  · refine v_blk hC (is := [(.iconst (-1), (-1 : Int32))]) (pc' := 23) (ls' := [(0, .ref (ga G 65)), (1, .int x1), (2, .int x2), (3, .int x3)]) (st' := [.int (-1 : Int32)]) (by decide +kernel) rfl ?_
    exact v_iret hC h (by decide +kernel)
  · refine v_blk hC (is := [(.iload_n 2, 0), (.iconst 0, (0 : Int32)), (.iconst 2, (2 : Int32))]) (pc' := 10) (ls' := [(0, .ref (ga G 65)), (1, .int x1), (2, .int x2), (3, .int x3)]) (st' := [.int (2 : Int32), .int (0 : Int32), .int x2]) (by decide +kernel) rfl ?_
    obtain ⟨v5, s6, e7, h⟩ := bndI h
    refine v_cS (idx := 49) hC ⟨tt_at 1118 (by decide +kernel) rfl, tsX12_isIn, tnX12_isIn, tcX12_isIn, tmX12_isIn⟩ (c_X12_isIn e7) (by decide) (by decide) (by decide +kernel) (rest := []) rfl rfl (Nat.le_of_ble_eq_true rfl) rfl ?_
    refine v_if_eq hC (off := 9) (tgt := 22) (by decide +kernel) (by decide) h (fun hq h => ?_) (fun hq h => ?_)
    · refine v_blk hC (is := [(.iconst (-1), (-1 : Int32))]) (pc' := 23) (ls' := [(0, .ref (ga G 65)), (1, .int x1), (2, .int x2), (3, .int x3)]) (st' := [.int (-1 : Int32)]) (by decide +kernel) rfl ?_
      exact v_iret hC h (by decide +kernel)
    · refine v_blk hC (is := [(.iload_n 3, 0), (.bipush 100, (100 : Int32))]) (pc' := 19) (ls' := [(0, .ref (ga G 65)), (1, .int x1), (2, .int x2), (3, .int x3)]) (st' := [.int (100 : Int32), .int x3]) (by decide +kernel) rfl ?_
      refine v_icmp_le hC (off := 5) (tgt := 24) (by decide +kernel) (by decide) h (fun hq h => ?_) (fun hq h => ?_)
      · refine v_blk hC (is := [(.iload_n 3, 0)]) (pc' := 25) (ls' := [(0, .ref (ga G 65)), (1, .int x1), (2, .int x2), (3, .int x3)]) (st' := [.int x3]) (by decide +kernel) rfl ?_
        refine v_if_ge hC (off := 6) (tgt := 31) (by decide +kernel) (by decide) h (fun hq h => ?_) (fun hq h => ?_)
        · refine v_blk hC (is := [(.aload_n 0, 0)]) (pc' := 32) (ls' := [(0, .ref (ga G 65)), (1, .int x1), (2, .int x2), (3, .int x3)]) (st' := [.ref (ga G 65)]) (by decide +kernel) rfl ?_
          refine gX12_12 hC lfX12_31 (by decide +kernel) ?_
          refine v_blk hC (is := [(.iload_n 1, 0), (.iconst 2, (2 : Int32))]) (pc' := 37) (ls' := [(0, .ref (ga G 65)), (1, .int x1), (2, .int x2), (3, .int x3)]) (st' := [.int (2 : Int32), .int x1, .ref (ga G 73)]) (by decide +kernel) rfl ?_
          refine v_iast hC isA_73 rfl (by decide +kernel) h (fun s8 h => ?_)
          refine v_blk hC (is := [(.aload_n 0, 0)]) (pc' := 39) (ls' := [(0, .ref (ga G 65)), (1, .int x1), (2, .int x2), (3, .int x3)]) (st' := [.ref (ga G 65)]) (by decide +kernel) rfl ?_
          refine gX12_15 hC lfX12_40 (by decide +kernel) ?_
          refine v_blk hC (is := [(.iload_n 1, 0), (.iload_n 2, 0)]) (pc' := 44) (ls' := [(0, .ref (ga G 65)), (1, .int x1), (2, .int x2), (3, .int x3)]) (st' := [.int x2, .int x1, .ref (ga G 76)]) (by decide +kernel) rfl ?_
          refine v_iast hC isA_76 rfl (by decide +kernel) h (fun s9 h => ?_)
          refine v_blk hC (is := [(.aload_n 0, 0)]) (pc' := 46) (ls' := [(0, .ref (ga G 65)), (1, .int x1), (2, .int x2), (3, .int x3)]) (st' := [.ref (ga G 65)]) (by decide +kernel) rfl ?_
          refine gX12_16 hC lfX12_43 (by decide +kernel) ?_
          refine v_blk hC (is := [(.iload_n 1, 0), (.iload_n 3, 0)]) (pc' := 51) (ls' := [(0, .ref (ga G 65)), (1, .int x1), (2, .int x2), (3, .int x3)]) (st' := [.int x3, .int x1, .ref (ga G 77)]) (by decide +kernel) rfl ?_
          refine v_iast hC isA_77 rfl (by decide +kernel) h (fun s10 h => ?_)
          refine v_blk hC (is := [(.iconst 0, (0 : Int32)), (.istore 4, 0)]) (pc' := 55) (ls' := [(4, .int (0 : Int32)), (0, .ref (ga G 65)), (1, .int x1), (2, .int x2), (3, .int x3)]) (st' := []) (by decide +kernel) rfl ?_
          refine v_sub [1, 2, 0] (ls' := [(0, .ref (ga G 65)), (1, .int x1), (4, .int (0 : Int32))]) rfl ?_
          exact (hL55 1000) _ _ h
        · refine v_blk hC (is := [(.bipush (-14), (-14 : Int32))]) (pc' := 30) (ls' := [(0, .ref (ga G 65)), (1, .int x1), (2, .int x2), (3, .int x3)]) (st' := [.int (-14 : Int32)]) (by decide +kernel) rfl ?_
          exact v_iret hC h (by decide +kernel)
      · refine v_blk hC (is := [(.iconst (-1), (-1 : Int32))]) (pc' := 23) (ls' := [(0, .ref (ga G 65)), (1, .int x1), (2, .int x2), (3, .int x3)]) (st' := [.int (-1 : Int32)]) (by decide +kernel) rfl ?_
        exact v_iret hC h (by decide +kernel)

def p_X12_put_B75  (x1 : Int32) (x2 : Int32) (x3 : Int32) (t1 : Int32) (t2 : Int32) (σ : Mem) : Option (Int32 × Mem) := (if t1 < 0 ∨ 800 ≤ (t1).toNatClampNeg then none else wr σ 78 (t1).toNatClampNeg t2 fun s1 => some ((0 : Int32), s1))
def p_X12_put (x1 : Int32) (x2 : Int32) (x3 : Int32) (σ : Mem) : Option (Int32 × Mem) := (bnd (p_X12_wrongRow x1 (-1 : Int32) σ) fun v2 s3 => (if v2 = 0 then (if x1 < 0 ∨ 8 ≤ (x1).toNatClampNeg then none else lt (s3 77 (x1).toNatClampNeg) fun v5 => (bnd (p_X12_isIn x2 (0 : Int32) (v5 - (1 : Int32)) s3) fun v6 s7 => (if v6 = 0 then some ((-13 : Int32), s7) else (if x1 < 0 ∨ 8 ≤ (x1).toNatClampNeg then none else lt (s7 76 (x1).toNatClampNeg) fun v9 => (if v9 = 0 then (p_X12_put_B75 x1 x2 x3) (((100 : Int32) * x1) + x2) ((Int32.toInt8 x3).toInt32) s7 else (if x1 < 0 ∨ 8 ≤ (x1).toNatClampNeg then none else lt (s7 76 (x1).toNatClampNeg) fun v10 => (if v10 = (1 : Int32) then (p_X12_put_B75 x1 x2 x3) (((100 : Int32) * x1) + x2) ((Int32.toInt16 x3).toInt32) s7 else (p_X12_put_B75 x1 x2 x3) (((100 : Int32) * x1) + x2) x3 s7))))))) else some (v2, s3)))
set_option maxHeartbeats 4000000 in
set_option maxRecDepth 100000 in
theorem c_X12_put {G : Gl} {x1 : Int32} {x2 : Int32} {x3 : Int32} {σ : Mem} {res : Int32 × Mem}  (h : p_X12_put x1 x2 x3 σ = some res) : MetX G yX12_put cX12_put 5 (some .int) 4 [.ref (ga G 65), .int x1, .int x2, .int x3] σ (some (.int res.1)) res.2 := by
  refine met_V (by decide +kernel) (Nat.le_of_ble_eq_true rfl) (fun X hC => ?_)
  have hC : Ok G 4 5 X cX12_put RX12 (some .int) := hC
  have hB75 : ∀ (t1 : Int32), ∀ (t2 : Int32), ∀ σ : Mem, p_X12_put_B75 x1 x2 x3 t1 t2 σ = some res → V G 4 5 X ((some (.int res.1)), res.2) σ [] [.int t2, .int t1, .ref (ga G 78)] 75 := by
    intro t1 t2 σ h
    unfold p_X12_put_B75 at h
    refine v_iast hC isA_78 rfl (by decide +kernel) h (fun s1 h => ?_)
    refine v_blk hC (is := [(.iconst 0, (0 : Int32))]) (pc' := 77) (ls' := []) (st' := [.int (0 : Int32)]) (by decide +kernel) rfl ?_
    exact v_iret hC h (by decide +kernel)
  unfold p_X12_put at h
  show V G 4 5 X ((some (.int res.1)), res.2) σ [(0, .ref (ga G 65)), (1, .int x1), (2, .int x2), (3, .int x3)] [] 0
  refine v_blk hC (is := [(.aload_n 0, 0), (.iload_n 1, 0), (.iconst (-1), (-1 : Int32))]) (pc' := 3) (ls' := [(0, .ref (ga G 65)), (1, .int x1), (2, .int x2), (3, .int x3)]) (st' := [.int (-1 : Int32), .int x1, .ref (ga G 65)]) (by decide +kernel) rfl ?_
  obtain ⟨v2, s3, e4, h⟩ := bndI h
  refine v_cV (idx := 157) hC ⟨tt_at 1111 (by decide +kernel) rfl, tiX12_wrongRow, tvX12_wrongRow, tnX12_wrongRow, tcX12_wrongRow, tmX12_wrongRow⟩ isO_X12 rfl (c_X12_wrongRow e4) (by decide) (by decide) (by decide +kernel) (rest := []) rfl rfl (Nat.le_of_ble_eq_true rfl) rfl ?_
  refine v_blk hC (is := [(.istore 4, 0), (.iload 4, 0)]) (pc' := 10) (ls' := [(4, .int v2), (0, .ref (ga G 65)), (1, .int x1), (2, .int x2), (3, .int x3)]) (st' := [.int v2]) (by decide +kernel) rfl ?_
  refine v_if_eq hC (off := 6) (tgt := 16) (by decide +kernel) (by decide) h (fun hq h => ?_) (fun hq h => ?_)
  · refine v_blk hC (is := [(.iload_n 2, 0), (.iconst 0, (0 : Int32)), (.aload_n 0, 0)]) (pc' := 19) (ls' := [(4, .int v2), (0, .ref (ga G 65)), (1, .int x1), (2, .int x2), (3, .int x3)]) (st' := [.ref (ga G 65), .int (0 : Int32), .int x2]) (by decide +kernel) rfl ?_
    refine gX12_16 hC lfX12_43 (by decide +kernel) ?_
    refine v_blk hC (is := [(.iload_n 1, 0)]) (pc' := 23) (ls' := [(4, .int v2), (0, .ref (ga G 65)), (1, .int x1), (2, .int x2), (3, .int x3)]) (st' := [.int x1, .ref (ga G 77), .int (0 : Int32), .int x2]) (by decide +kernel) rfl ?_
    refine v_iald hC isA_77 rfl (by decide +kernel) h (fun v5 h => ?_)
    refine v_blk hC (is := [(.iconst 1, (1 : Int32)), (.isub, 0)]) (pc' := 26) (ls' := [(4, .int v2), (0, .ref (ga G 65)), (1, .int x1), (2, .int x2), (3, .int x3)]) (st' := [.int (v5 - (1 : Int32)), .int (0 : Int32), .int x2]) (by decide +kernel) rfl ?_
    obtain ⟨v6, s7, e8, h⟩ := bndI h
    refine v_cS (idx := 49) hC ⟨tt_at 1118 (by decide +kernel) rfl, tsX12_isIn, tnX12_isIn, tcX12_isIn, tmX12_isIn⟩ (c_X12_isIn e8) (by decide) (by decide) (by decide +kernel) (rest := []) rfl rfl (Nat.le_of_ble_eq_true rfl) rfl ?_
    refine v_if_ne hC (off := 6) (tgt := 35) (by decide +kernel) (by decide) h (fun hq h => ?_) (fun hq h => ?_)
    · refine v_blk hC (is := [(.aload_n 0, 0)]) (pc' := 36) (ls' := [(4, .int v2), (0, .ref (ga G 65)), (1, .int x1), (2, .int x2), (3, .int x3)]) (st' := [.ref (ga G 65)]) (by decide +kernel) rfl ?_
      refine gX12_17 hC lfX12_46 (by decide +kernel) ?_
      refine v_blk hC (is := [(.bipush 100, (100 : Int32)), (.iload_n 1, 0), (.imul, 0), (.iload_n 2, 0), (.iadd, 0), (.aload_n 0, 0)]) (pc' := 46) (ls' := [(4, .int v2), (0, .ref (ga G 65)), (1, .int x1), (2, .int x2), (3, .int x3)]) (st' := [.ref (ga G 65), .int (((100 : Int32) * x1) + x2), .ref (ga G 78)]) (by decide +kernel) rfl ?_
      refine gX12_15 hC lfX12_40 (by decide +kernel) ?_
      refine v_blk hC (is := [(.iload_n 1, 0)]) (pc' := 50) (ls' := [(4, .int v2), (0, .ref (ga G 65)), (1, .int x1), (2, .int x2), (3, .int x3)]) (st' := [.int x1, .ref (ga G 76), .int (((100 : Int32) * x1) + x2), .ref (ga G 78)]) (by decide +kernel) rfl ?_
      refine v_iald hC isA_76 rfl (by decide +kernel) h (fun v9 h => ?_)
      refine v_if_ne hC (off := 8) (tgt := 59) (by decide +kernel) (by decide) h (fun hq h => ?_) (fun hq h => ?_)
      · refine v_blk hC (is := [(.aload_n 0, 0)]) (pc' := 60) (ls' := [(4, .int v2), (0, .ref (ga G 65)), (1, .int x1), (2, .int x2), (3, .int x3)]) (st' := [.ref (ga G 65), .int (((100 : Int32) * x1) + x2), .ref (ga G 78)]) (by decide +kernel) rfl ?_
        refine gX12_15 hC lfX12_40 (by decide +kernel) ?_
        refine v_blk hC (is := [(.iload_n 1, 0)]) (pc' := 64) (ls' := [(4, .int v2), (0, .ref (ga G 65)), (1, .int x1), (2, .int x2), (3, .int x3)]) (st' := [.int x1, .ref (ga G 76), .int (((100 : Int32) * x1) + x2), .ref (ga G 78)]) (by decide +kernel) rfl ?_
        refine v_iald hC isA_76 rfl (by decide +kernel) h (fun v10 h => ?_)
        refine v_blk hC (is := [(.iconst 1, (1 : Int32))]) (pc' := 66) (ls' := [(4, .int v2), (0, .ref (ga G 65)), (1, .int x1), (2, .int x2), (3, .int x3)]) (st' := [.int (1 : Int32), .int v10, .int (((100 : Int32) * x1) + x2), .ref (ga G 78)]) (by decide +kernel) rfl ?_
        refine v_icmp_ne hC (off := 8) (tgt := 74) (by decide +kernel) (by decide) h (fun hq h => ?_) (fun hq h => ?_)
        · refine v_blk hC (is := [(.iload_n 3, 0)]) (pc' := 75) (ls' := [(4, .int v2), (0, .ref (ga G 65)), (1, .int x1), (2, .int x2), (3, .int x3)]) (st' := [.int x3, .int (((100 : Int32) * x1) + x2), .ref (ga G 78)]) (by decide +kernel) rfl ?_
          refine v_sub [] (ls' := []) rfl ?_
          exact (hB75 ) _ _ _ h
        · refine v_blk hC (is := [(.iload_n 3, 0), (.i2s, 0)]) (pc' := 71) (ls' := [(4, .int v2), (0, .ref (ga G 65)), (1, .int x1), (2, .int x2), (3, .int x3)]) (st' := [.int ((Int32.toInt16 x3).toInt32), .int (((100 : Int32) * x1) + x2), .ref (ga G 78)]) (by decide +kernel) rfl ?_
          refine v_goto hC (off := 4) (tgt := 75) (by decide +kernel) (by decide) ?_
          refine v_sub [] (ls' := []) rfl ?_
          exact (hB75 ) _ _ _ h
      · refine v_blk hC (is := [(.iload_n 3, 0), (.i2b, 0)]) (pc' := 56) (ls' := [(4, .int v2), (0, .ref (ga G 65)), (1, .int x1), (2, .int x2), (3, .int x3)]) (st' := [.int ((Int32.toInt8 x3).toInt32), .int (((100 : Int32) * x1) + x2), .ref (ga G 78)]) (by decide +kernel) rfl ?_
        refine v_goto hC (off := 19) (tgt := 75) (by decide +kernel) (by decide) ?_
        refine v_sub [] (ls' := []) rfl ?_
        exact (hB75 ) _ _ _ h
    · refine v_blk hC (is := [(.bipush (-13), (-13 : Int32))]) (pc' := 34) (ls' := [(4, .int v2), (0, .ref (ga G 65)), (1, .int x1), (2, .int x2), (3, .int x3)]) (st' := [.int (-13 : Int32)]) (by decide +kernel) rfl ?_
      exact v_iret hC h (by decide +kernel)
  · refine v_blk hC (is := [(.iload 4, 0)]) (pc' := 15) (ls' := [(4, .int v2), (0, .ref (ga G 65)), (1, .int x1), (2, .int x2), (3, .int x3)]) (st' := [.int v2]) (by decide +kernel) rfl ?_
    exact v_iret hC h (by decide +kernel)

def p_X12_element_B43  (x1 : Int32) (x2 : Int32) (t1 : Int32) (σ : Mem) : Option (Int64 × Mem) := (wr σ 65 18 t1 fun s1 => (lt (s1 65 18) fun v2 => (if v2 = 0 then (if (((100 : Int32) * x1) + x2) < 0 ∨ 800 ≤ ((((100 : Int32) * x1) + x2)).toNatClampNeg then none else lt (s1 78 ((((100 : Int32) * x1) + x2)).toNatClampNeg) fun v3 => some ((Int32.toInt64 v3), s1)) else some ((0 : Int64), s1))))
def p_X12_element_B38  (x1 : Int32) (x2 : Int32)  (σ : Mem) : Option (Int64 × Mem) := (p_X12_element_B43 x1 x2) (2 : Int32) σ
def p_X12_element (x1 : Int32) (x2 : Int32) (σ : Mem) : Option (Int64 × Mem) := (bnd (p_X12_isShelf x1 σ) fun v4 s5 => (if v4 = 0 then (p_X12_element_B43 x1 x2) (1 : Int32) s5 else (if x1 < 0 ∨ 8 ≤ (x1).toNatClampNeg then none else lt (s5 73 (x1).toNatClampNeg) fun v7 => (if v7 = (2 : Int32) then (if x1 < 0 ∨ 8 ≤ (x1).toNatClampNeg then none else lt (s5 77 (x1).toNatClampNeg) fun v8 => (bnd (p_X12_isIn x2 (0 : Int32) (v8 - (1 : Int32)) s5) fun v9 s10 => (if v9 = 0 then (p_X12_element_B38 x1 x2) s10 else (p_X12_element_B43 x1 x2) (0 : Int32) s10))) else (p_X12_element_B38 x1 x2) s5))))
set_option maxHeartbeats 4000000 in
set_option maxRecDepth 100000 in
theorem c_X12_element {G : Gl} {x1 : Int32} {x2 : Int32} {σ : Mem} {res : Int64 × Mem}  (h : p_X12_element x1 x2 σ = some res) : MetX G yX12_element cX12_element 3 (some .long) 3 [.ref (ga G 65), .int x1, .int x2] σ (some (.long res.1)) res.2 := by
  refine met_V (by decide +kernel) (Nat.le_of_ble_eq_true rfl) (fun X hC => ?_)
  have hC : Ok G 3 3 X cX12_element RX12 (some .long) := hC
  have hB43 : ∀ (t1 : Int32), ∀ σ : Mem, p_X12_element_B43 x1 x2 t1 σ = some res → V G 3 3 X ((some (.long res.1)), res.2) σ [(0, .ref (ga G 65)), (1, .int x1), (2, .int x2)] [.int t1, .ref (ga G 65)] 43 := by
    intro t1 σ h
    unfold p_X12_element_B43 at h
    refine pX12_18 hC lfX12_245 (by decide +kernel) h (fun s1 h => ?_)
    refine v_blk hC (is := [(.aload_n 0, 0)]) (pc' := 47) (ls' := [(0, .ref (ga G 65)), (1, .int x1), (2, .int x2)]) (st' := [.ref (ga G 65)]) (by decide +kernel) rfl ?_
    refine gX12_18 hC lfX12_245 (by decide +kernel) h (fun v2 h => ?_)
    refine v_if_ne hC (off := 18) (tgt := 68) (by decide +kernel) (by decide) h (fun hq h => ?_) (fun hq h => ?_)
    · refine v_blk hC (is := [(.lconst 0, 0)]) (pc' := 69) (ls' := [(0, .ref (ga G 65)), (1, .int x1), (2, .int x2)]) (st' := [.long (0 : Int64)]) (by decide +kernel) rfl ?_
      exact v_lret hC h (by decide +kernel)
    · refine v_blk hC (is := [(.aload_n 0, 0)]) (pc' := 54) (ls' := [(0, .ref (ga G 65)), (1, .int x1), (2, .int x2)]) (st' := [.ref (ga G 65)]) (by decide +kernel) rfl ?_
      refine gX12_17 hC lfX12_46 (by decide +kernel) ?_
      refine v_blk hC (is := [(.bipush 100, (100 : Int32)), (.iload_n 1, 0), (.imul, 0), (.iload_n 2, 0), (.iadd, 0)]) (pc' := 63) (ls' := [(0, .ref (ga G 65)), (1, .int x1), (2, .int x2)]) (st' := [.int (((100 : Int32) * x1) + x2), .ref (ga G 78)]) (by decide +kernel) rfl ?_
      refine v_iald hC isA_78 rfl (by decide +kernel) h (fun v3 h => ?_)
      refine v_blk hC (is := [(.i2l, 0)]) (pc' := 65) (ls' := [(0, .ref (ga G 65)), (1, .int x1), (2, .int x2)]) (st' := [.long (Int32.toInt64 v3)]) (by decide +kernel) rfl ?_
      refine v_goto hC (off := 4) (tgt := 69) (by decide +kernel) (by decide) ?_
      exact v_lret hC h (by decide +kernel)
  have hB38 : ∀ σ : Mem, p_X12_element_B38 x1 x2 σ = some res → V G 3 3 X ((some (.long res.1)), res.2) σ [(0, .ref (ga G 65)), (1, .int x1), (2, .int x2)] [.ref (ga G 65)] 38 := by
    intro  σ h
    unfold p_X12_element_B38 at h
    refine v_blk hC (is := [(.iconst 2, (2 : Int32))]) (pc' := 39) (ls' := [(0, .ref (ga G 65)), (1, .int x1), (2, .int x2)]) (st' := [.int (2 : Int32), .ref (ga G 65)]) (by decide +kernel) rfl ?_
    refine v_goto hC (off := 4) (tgt := 43) (by decide +kernel) (by decide) ?_
    exact (hB43 ) _ _ h
  unfold p_X12_element at h
  show V G 3 3 X ((some (.long res.1)), res.2) σ [(0, .ref (ga G 65)), (1, .int x1), (2, .int x2)] [] 0
  refine v_blk hC (is := [(.aload_n 0, 0), (.iload_n 1, 0)]) (pc' := 2) (ls' := [(0, .ref (ga G 65)), (1, .int x1), (2, .int x2)]) (st' := [.int x1, .ref (ga G 65)]) (by decide +kernel) rfl ?_
  obtain ⟨v4, s5, e6, h⟩ := bndI h
  refine v_cS (idx := 248) hC ⟨tt_at 1115 (by decide +kernel) rfl, tsX12_isShelf, tnX12_isShelf, tcX12_isShelf, tmX12_isShelf⟩ (c_X12_isShelf e6) (by decide) (by decide) (by decide +kernel) (rest := [.ref (ga G 65)]) rfl rfl (Nat.le_of_ble_eq_true rfl) rfl ?_
  refine v_if_ne hC (off := 7) (tgt := 12) (by decide +kernel) (by decide) h (fun hq h => ?_) (fun hq h => ?_)
  · refine v_blk hC (is := [(.aload_n 0, 0)]) (pc' := 13) (ls' := [(0, .ref (ga G 65)), (1, .int x1), (2, .int x2)]) (st' := [.ref (ga G 65), .ref (ga G 65)]) (by decide +kernel) rfl ?_
    refine gX12_12 hC lfX12_31 (by decide +kernel) ?_
    refine v_blk hC (is := [(.iload_n 1, 0)]) (pc' := 17) (ls' := [(0, .ref (ga G 65)), (1, .int x1), (2, .int x2)]) (st' := [.int x1, .ref (ga G 73), .ref (ga G 65)]) (by decide +kernel) rfl ?_
    refine v_iald hC isA_73 rfl (by decide +kernel) h (fun v7 h => ?_)
    refine v_blk hC (is := [(.iconst 2, (2 : Int32))]) (pc' := 19) (ls' := [(0, .ref (ga G 65)), (1, .int x1), (2, .int x2)]) (st' := [.int (2 : Int32), .int v7, .ref (ga G 65)]) (by decide +kernel) rfl ?_
    refine v_icmp_ne hC (off := 19) (tgt := 38) (by decide +kernel) (by decide) h (fun hq h => ?_) (fun hq h => ?_)
    · exact (hB38 ) _ h
    · refine v_blk hC (is := [(.iload_n 2, 0), (.iconst 0, (0 : Int32)), (.aload_n 0, 0)]) (pc' := 25) (ls' := [(0, .ref (ga G 65)), (1, .int x1), (2, .int x2)]) (st' := [.ref (ga G 65), .int (0 : Int32), .int x2, .ref (ga G 65)]) (by decide +kernel) rfl ?_
      refine gX12_16 hC lfX12_43 (by decide +kernel) ?_
      refine v_blk hC (is := [(.iload_n 1, 0)]) (pc' := 29) (ls' := [(0, .ref (ga G 65)), (1, .int x1), (2, .int x2)]) (st' := [.int x1, .ref (ga G 77), .int (0 : Int32), .int x2, .ref (ga G 65)]) (by decide +kernel) rfl ?_
      refine v_iald hC isA_77 rfl (by decide +kernel) h (fun v8 h => ?_)
      refine v_blk hC (is := [(.iconst 1, (1 : Int32)), (.isub, 0)]) (pc' := 32) (ls' := [(0, .ref (ga G 65)), (1, .int x1), (2, .int x2)]) (st' := [.int (v8 - (1 : Int32)), .int (0 : Int32), .int x2, .ref (ga G 65)]) (by decide +kernel) rfl ?_
      obtain ⟨v9, s10, e11, h⟩ := bndI h
      refine v_cS (idx := 49) hC ⟨tt_at 1118 (by decide +kernel) rfl, tsX12_isIn, tnX12_isIn, tcX12_isIn, tmX12_isIn⟩ (c_X12_isIn e11) (by decide) (by decide) (by decide +kernel) (rest := [.ref (ga G 65)]) rfl rfl (Nat.le_of_ble_eq_true rfl) rfl ?_
      refine v_if_ne hC (off := 7) (tgt := 42) (by decide +kernel) (by decide) h (fun hq h => ?_) (fun hq h => ?_)
      · refine v_blk hC (is := [(.iconst 0, (0 : Int32))]) (pc' := 43) (ls' := [(0, .ref (ga G 65)), (1, .int x1), (2, .int x2)]) (st' := [.int (0 : Int32), .ref (ga G 65)]) (by decide +kernel) rfl ?_
        exact (hB43 ) _ _ h
      · exact (hB38 ) _ h
  · refine v_blk hC (is := [(.iconst 1, (1 : Int32))]) (pc' := 9) (ls' := [(0, .ref (ga G 65)), (1, .int x1), (2, .int x2)]) (st' := [.int (1 : Int32), .ref (ga G 65)]) (by decide +kernel) rfl ?_
    refine v_goto hC (off := 34) (tgt := 43) (by decide +kernel) (by decide) ?_
    exact (hB43 ) _ _ h

def p_X12_copy_B147 (k122 : Int32 → Mem → Option (Int32 × Mem)) (x1 : Int32) (x2 : Int32) (x3 : Int32) (x4 : Int32) (x5 : Int32) (x6 : Int32) (t0 : Int32) (σ : Mem) : Option (Int32 × Mem) := (if ((((100 : Int32) * x1) + x2) + t0) < 0 ∨ 800 ≤ (((((100 : Int32) * x1) + x2) + t0)).toNatClampNeg then none else lt (σ 78 (((((100 : Int32) * x1) + x2) + t0)).toNatClampNeg) fun v1 => (if ((((100 : Int32) * x3) + x4) + t0) < 0 ∨ 800 ≤ (((((100 : Int32) * x3) + x4) + t0)).toNatClampNeg then none else wr σ 78 (((((100 : Int32) * x3) + x4) + t0)).toNatClampNeg v1 fun s2 => k122 (x6 + (1 : Int32)) s2))
def p_X12_copy_B122 (k122 : Int32 → Mem → Option (Int32 × Mem)) (x1 : Int32) (x2 : Int32) (x3 : Int32) (x4 : Int32) (x5 : Int32) (x6 : Int32) (σ : Mem) : Option (Int32 × Mem) := (if x5 ≤ x6 then some (x5, σ) else (if x2 ≤ x4 then (p_X12_copy_B147 k122 x1 x2 x3 x4 x5) x6 ((x5 - (1 : Int32)) - x6) σ else (p_X12_copy_B147 k122 x1 x2 x3 x4 x5) x6 x6 σ))
def p_X12_copy_L122  (x1 : Int32) (x2 : Int32) (x3 : Int32) (x4 : Int32) (x5 : Int32) : Nat → Int32 → Mem → Option (Int32 × Mem)
  | 0 => fun _ _ => none
  | f + 1 => p_X12_copy_B122 (p_X12_copy_L122 x1 x2 x3 x4 x5 f) x1 x2 x3 x4 x5
def p_X12_copy (x1 : Int32) (x2 : Int32) (x3 : Int32) (x4 : Int32) (x5 : Int32) (σ : Mem) : Option (Int32 × Mem) := (bnd (p_X12_isShelf x1 σ) fun v3 s4 => (if v3 = 0 then some ((-1 : Int32), s4) else (bnd (p_X12_isShelf x3 s4) fun v6 s7 => (if v6 = 0 then some ((-1 : Int32), s7) else (if x1 < 0 ∨ 8 ≤ (x1).toNatClampNeg then none else lt (s7 73 (x1).toNatClampNeg) fun v9 => (if v9 = 0 then some ((-11 : Int32), s7) else (if x3 < 0 ∨ 8 ≤ (x3).toNatClampNeg then none else lt (s7 73 (x3).toNatClampNeg) fun v10 => (if v10 = 0 then some ((-11 : Int32), s7) else (if x1 < 0 ∨ 8 ≤ (x1).toNatClampNeg then none else lt (s7 73 (x1).toNatClampNeg) fun v11 => (if v11 = (2 : Int32) then (if x3 < 0 ∨ 8 ≤ (x3).toNatClampNeg then none else lt (s7 73 (x3).toNatClampNeg) fun v12 => (if v12 = (2 : Int32) then (if x1 < 0 ∨ 8 ≤ (x1).toNatClampNeg then none else lt (s7 76 (x1).toNatClampNeg) fun v13 => (if x3 < 0 ∨ 8 ≤ (x3).toNatClampNeg then none else lt (s7 76 (x3).toNatClampNeg) fun v14 => (if v13 = v14 then (if x5 < 0 then some ((-13 : Int32), s7) else (if x2 < 0 then some ((-13 : Int32), s7) else (if x4 < 0 then some ((-13 : Int32), s7) else (if x1 < 0 ∨ 8 ≤ (x1).toNatClampNeg then none else lt (s7 77 (x1).toNatClampNeg) fun v15 => (if (v15 - x2) < x5 then some ((-13 : Int32), s7) else (if x3 < 0 ∨ 8 ≤ (x3).toNatClampNeg then none else lt (s7 77 (x3).toNatClampNeg) fun v16 => (if x5 ≤ (v16 - x4) then (p_X12_copy_L122 x1 x2 x3 x4 x5 1000) (0 : Int32) s7 else some ((-13 : Int32), s7)))))))) else some ((-12 : Int32), s7)))) else some ((-12 : Int32), s7))) else some ((-12 : Int32), s7)))))))))))
set_option maxHeartbeats 4000000 in
set_option maxRecDepth 100000 in
theorem c_X12_copy {G : Gl} {x1 : Int32} {x2 : Int32} {x3 : Int32} {x4 : Int32} {x5 : Int32} {σ : Mem} {res : Int32 × Mem}  (h : p_X12_copy x1 x2 x3 x4 x5 σ = some res) : MetX G yX12_copy cX12_copy 8 (some .int) 3 [.ref (ga G 65), .int x1, .int x2, .int x3, .int x4, .int x5] σ (some (.int res.1)) res.2 := by
  refine met_V (by decide +kernel) (Nat.le_of_ble_eq_true rfl) (fun X hC => ?_)
  have hC : Ok G 3 8 X cX12_copy RX12 (some .int) := hC
  have hB147 : ∀ (k122 : Int32 → Mem → Option (Int32 × Mem)), (∀ (x6 : Int32), ∀ σ : Mem, k122 x6 σ = some res → V G 3 8 X ((some (.int res.1)), res.2) σ [(0, .ref (ga G 65)), (1, .int x1), (2, .int x2), (3, .int x3), (4, .int x4), (5, .int x5), (6, .int x6)] [] 122) → ∀ (x6 : Int32), ∀ (t0 : Int32), ∀ σ : Mem, p_X12_copy_B147 k122 x1 x2 x3 x4 x5 x6 t0 σ = some res → V G 3 8 X ((some (.int res.1)), res.2) σ [(0, .ref (ga G 65)), (1, .int x1), (2, .int x2), (3, .int x3), (4, .int x4), (5, .int x5), (6, .int x6)] [.int t0] 147 := by
    intro k122 hk122 x6 t0 σ h
    unfold p_X12_copy_B147 at h
    refine v_blk hC (is := [(.istore 7, 0), (.aload_n 0, 0)]) (pc' := 150) (ls' := [(7, .int t0), (0, .ref (ga G 65)), (1, .int x1), (2, .int x2), (3, .int x3), (4, .int x4), (5, .int x5), (6, .int x6)]) (st' := [.ref (ga G 65)]) (by decide +kernel) rfl ?_
    refine gX12_17 hC lfX12_46 (by decide +kernel) ?_
    refine v_blk hC (is := [(.bipush 100, (100 : Int32)), (.iload_n 3, 0), (.imul, 0), (.iload 4, 0), (.iadd, 0), (.iload 7, 0), (.iadd, 0), (.aload_n 0, 0)]) (pc' := 164) (ls' := [(7, .int t0), (0, .ref (ga G 65)), (1, .int x1), (2, .int x2), (3, .int x3), (4, .int x4), (5, .int x5), (6, .int x6)]) (st' := [.ref (ga G 65), .int ((((100 : Int32) * x3) + x4) + t0), .ref (ga G 78)]) (by decide +kernel) rfl ?_
    refine gX12_17 hC lfX12_46 (by decide +kernel) ?_
    refine v_blk hC (is := [(.bipush 100, (100 : Int32)), (.iload_n 1, 0), (.imul, 0), (.iload_n 2, 0), (.iadd, 0), (.iload 7, 0), (.iadd, 0)]) (pc' := 176) (ls' := [(7, .int t0), (0, .ref (ga G 65)), (1, .int x1), (2, .int x2), (3, .int x3), (4, .int x4), (5, .int x5), (6, .int x6)]) (st' := [.int ((((100 : Int32) * x1) + x2) + t0), .ref (ga G 78), .int ((((100 : Int32) * x3) + x4) + t0), .ref (ga G 78)]) (by decide +kernel) rfl ?_
    refine v_iald hC isA_78 rfl (by decide +kernel) h (fun v1 h => ?_)
    refine v_iast hC isA_78 rfl (by decide +kernel) h (fun s2 h => ?_)
    refine v_blk hC (is := [(.iinc 6 1, (1 : Int32))]) (pc' := 181) (ls' := [(6, .int (x6 + (1 : Int32))), (7, .int t0), (0, .ref (ga G 65)), (1, .int x1), (2, .int x2), (3, .int x3), (4, .int x4), (5, .int x5)]) (st' := []) (by decide +kernel) rfl ?_
    refine v_goto hC (off := (-59)) (tgt := 122) (by decide +kernel) (by decide) ?_
    refine v_sub [2, 3, 4, 5, 6, 7, 0] (ls' := [(0, .ref (ga G 65)), (1, .int x1), (2, .int x2), (3, .int x3), (4, .int x4), (5, .int x5), (6, .int (x6 + (1 : Int32)))]) rfl ?_
    exact hk122 _ _ h
  have hB122 : ∀ (k122 : Int32 → Mem → Option (Int32 × Mem)), (∀ (x6 : Int32), ∀ σ : Mem, k122 x6 σ = some res → V G 3 8 X ((some (.int res.1)), res.2) σ [(0, .ref (ga G 65)), (1, .int x1), (2, .int x2), (3, .int x3), (4, .int x4), (5, .int x5), (6, .int x6)] [] 122) → ∀ (x6 : Int32), ∀ σ : Mem, p_X12_copy_B122 k122 x1 x2 x3 x4 x5 x6 σ = some res → V G 3 8 X ((some (.int res.1)), res.2) σ [(0, .ref (ga G 65)), (1, .int x1), (2, .int x2), (3, .int x3), (4, .int x4), (5, .int x5), (6, .int x6)] [] 122 := by
    intro k122 hk122 x6 σ h
    unfold p_X12_copy_B122 at h
    refine v_blk hC (is := [(.iload 6, 0), (.iload 5, 0)]) (pc' := 126) (ls' := [(0, .ref (ga G 65)), (1, .int x1), (2, .int x2), (3, .int x3), (4, .int x4), (5, .int x5), (6, .int x6)]) (st' := [.int x5, .int x6]) (by decide +kernel) rfl ?_
    refine v_icmp_ge hC (off := 58) (tgt := 184) (by decide +kernel) (by decide) h (fun hq h => ?_) (fun hq h => ?_)
    · refine v_blk hC (is := [(.iload 5, 0)]) (pc' := 186) (ls' := [(0, .ref (ga G 65)), (1, .int x1), (2, .int x2), (3, .int x3), (4, .int x4), (5, .int x5), (6, .int x6)]) (st' := [.int x5]) (by decide +kernel) rfl ?_
      exact v_iret hC h (by decide +kernel)
    · refine v_blk hC (is := [(.iload_n 2, 0), (.iload 4, 0)]) (pc' := 132) (ls' := [(0, .ref (ga G 65)), (1, .int x1), (2, .int x2), (3, .int x3), (4, .int x4), (5, .int x5), (6, .int x6)]) (st' := [.int x4, .int x2]) (by decide +kernel) rfl ?_
      refine v_icmp_le hC (off := 8) (tgt := 140) (by decide +kernel) (by decide) h (fun hq h => ?_) (fun hq h => ?_)
      · refine v_blk hC (is := [(.iload 5, 0), (.iconst 1, (1 : Int32)), (.isub, 0), (.iload 6, 0), (.isub, 0)]) (pc' := 147) (ls' := [(0, .ref (ga G 65)), (1, .int x1), (2, .int x2), (3, .int x3), (4, .int x4), (5, .int x5), (6, .int x6)]) (st' := [.int ((x5 - (1 : Int32)) - x6)]) (by decide +kernel) rfl ?_
        exact (hB147 _ hk122) _ _ _ h
      · refine v_blk hC (is := [(.iload 6, 0)]) (pc' := 137) (ls' := [(0, .ref (ga G 65)), (1, .int x1), (2, .int x2), (3, .int x3), (4, .int x4), (5, .int x5), (6, .int x6)]) (st' := [.int x6]) (by decide +kernel) rfl ?_
        refine v_goto hC (off := 10) (tgt := 147) (by decide +kernel) (by decide) ?_
        exact (hB147 _ hk122) _ _ _ h
  have hL122 : ∀ f : Nat, ∀ (x6 : Int32), ∀ σ : Mem, p_X12_copy_L122 x1 x2 x3 x4 x5 f x6 σ = some res → V G 3 8 X ((some (.int res.1)), res.2) σ [(0, .ref (ga G 65)), (1, .int x1), (2, .int x2), (3, .int x3), (4, .int x4), (5, .int x5), (6, .int x6)] [] 122 := by
    intro  f
    induction f with
    | zero => intro x6 σ h; exact none_some h
    | succ f ih => intro x6 σ h; exact hB122 (p_X12_copy_L122 x1 x2 x3 x4 x5 f)  ih  x6 σ h
  unfold p_X12_copy at h
  show V G 3 8 X ((some (.int res.1)), res.2) σ [(0, .ref (ga G 65)), (1, .int x1), (2, .int x2), (3, .int x3), (4, .int x4), (5, .int x5)] [] 0
  refine v_blk hC (is := [(.iload_n 1, 0)]) (pc' := 1) (ls' := [(0, .ref (ga G 65)), (1, .int x1), (2, .int x2), (3, .int x3), (4, .int x4), (5, .int x5)]) (st' := [.int x1]) (by decide +kernel) rfl ?_
  obtain ⟨v3, s4, e5, h⟩ := bndI h
  refine v_cS (idx := 248) hC ⟨tt_at 1115 (by decide +kernel) rfl, tsX12_isShelf, tnX12_isShelf, tcX12_isShelf, tmX12_isShelf⟩ (c_X12_isShelf e5) (by decide) (by decide) (by decide +kernel) (rest := []) rfl rfl (Nat.le_of_ble_eq_true rfl) rfl ?_
  refine v_if_eq hC (off := 10) (tgt := 14) (by decide +kernel) (by decide) h (fun hq h => ?_) (fun hq h => ?_)
  · refine v_blk hC (is := [(.iconst (-1), (-1 : Int32))]) (pc' := 15) (ls' := [(0, .ref (ga G 65)), (1, .int x1), (2, .int x2), (3, .int x3), (4, .int x4), (5, .int x5)]) (st' := [.int (-1 : Int32)]) (by decide +kernel) rfl ?_
    exact v_iret hC h (by decide +kernel)
  · refine v_blk hC (is := [(.iload_n 3, 0)]) (pc' := 8) (ls' := [(0, .ref (ga G 65)), (1, .int x1), (2, .int x2), (3, .int x3), (4, .int x4), (5, .int x5)]) (st' := [.int x3]) (by decide +kernel) rfl ?_
    obtain ⟨v6, s7, e8, h⟩ := bndI h
    refine v_cS (idx := 248) hC ⟨tt_at 1115 (by decide +kernel) rfl, tsX12_isShelf, tnX12_isShelf, tcX12_isShelf, tmX12_isShelf⟩ (c_X12_isShelf e8) (by decide) (by decide) (by decide +kernel) (rest := []) rfl rfl (Nat.le_of_ble_eq_true rfl) rfl ?_
    refine v_if_ne hC (off := 5) (tgt := 16) (by decide +kernel) (by decide) h (fun hq h => ?_) (fun hq h => ?_)
    · refine v_blk hC (is := [(.aload_n 0, 0)]) (pc' := 17) (ls' := [(0, .ref (ga G 65)), (1, .int x1), (2, .int x2), (3, .int x3), (4, .int x4), (5, .int x5)]) (st' := [.ref (ga G 65)]) (by decide +kernel) rfl ?_
      refine gX12_12 hC lfX12_31 (by decide +kernel) ?_
      refine v_blk hC (is := [(.iload_n 1, 0)]) (pc' := 21) (ls' := [(0, .ref (ga G 65)), (1, .int x1), (2, .int x2), (3, .int x3), (4, .int x4), (5, .int x5)]) (st' := [.int x1, .ref (ga G 73)]) (by decide +kernel) rfl ?_
      refine v_iald hC isA_73 rfl (by decide +kernel) h (fun v9 h => ?_)
      refine v_if_eq hC (off := 12) (tgt := 34) (by decide +kernel) (by decide) h (fun hq h => ?_) (fun hq h => ?_)
      · refine v_blk hC (is := [(.bipush (-11), (-11 : Int32))]) (pc' := 36) (ls' := [(0, .ref (ga G 65)), (1, .int x1), (2, .int x2), (3, .int x3), (4, .int x4), (5, .int x5)]) (st' := [.int (-11 : Int32)]) (by decide +kernel) rfl ?_
        exact v_iret hC h (by decide +kernel)
      · refine v_blk hC (is := [(.aload_n 0, 0)]) (pc' := 26) (ls' := [(0, .ref (ga G 65)), (1, .int x1), (2, .int x2), (3, .int x3), (4, .int x4), (5, .int x5)]) (st' := [.ref (ga G 65)]) (by decide +kernel) rfl ?_
        refine gX12_12 hC lfX12_31 (by decide +kernel) ?_
        refine v_blk hC (is := [(.iload_n 3, 0)]) (pc' := 30) (ls' := [(0, .ref (ga G 65)), (1, .int x1), (2, .int x2), (3, .int x3), (4, .int x4), (5, .int x5)]) (st' := [.int x3, .ref (ga G 73)]) (by decide +kernel) rfl ?_
        refine v_iald hC isA_73 rfl (by decide +kernel) h (fun v10 h => ?_)
        refine v_if_ne hC (off := 6) (tgt := 37) (by decide +kernel) (by decide) h (fun hq h => ?_) (fun hq h => ?_)
        · refine v_blk hC (is := [(.aload_n 0, 0)]) (pc' := 38) (ls' := [(0, .ref (ga G 65)), (1, .int x1), (2, .int x2), (3, .int x3), (4, .int x4), (5, .int x5)]) (st' := [.ref (ga G 65)]) (by decide +kernel) rfl ?_
          refine gX12_12 hC lfX12_31 (by decide +kernel) ?_
          refine v_blk hC (is := [(.iload_n 1, 0)]) (pc' := 42) (ls' := [(0, .ref (ga G 65)), (1, .int x1), (2, .int x2), (3, .int x3), (4, .int x4), (5, .int x5)]) (st' := [.int x1, .ref (ga G 73)]) (by decide +kernel) rfl ?_
          refine v_iald hC isA_73 rfl (by decide +kernel) h (fun v11 h => ?_)
          refine v_blk hC (is := [(.iconst 2, (2 : Int32))]) (pc' := 44) (ls' := [(0, .ref (ga G 65)), (1, .int x1), (2, .int x2), (3, .int x3), (4, .int x4), (5, .int x5)]) (st' := [.int (2 : Int32), .int v11]) (by decide +kernel) rfl ?_
          refine v_icmp_ne hC (off := 28) (tgt := 72) (by decide +kernel) (by decide) h (fun hq h => ?_) (fun hq h => ?_)
          · refine v_blk hC (is := [(.bipush (-12), (-12 : Int32))]) (pc' := 74) (ls' := [(0, .ref (ga G 65)), (1, .int x1), (2, .int x2), (3, .int x3), (4, .int x4), (5, .int x5)]) (st' := [.int (-12 : Int32)]) (by decide +kernel) rfl ?_
            exact v_iret hC h (by decide +kernel)
          · refine v_blk hC (is := [(.aload_n 0, 0)]) (pc' := 48) (ls' := [(0, .ref (ga G 65)), (1, .int x1), (2, .int x2), (3, .int x3), (4, .int x4), (5, .int x5)]) (st' := [.ref (ga G 65)]) (by decide +kernel) rfl ?_
            refine gX12_12 hC lfX12_31 (by decide +kernel) ?_
            refine v_blk hC (is := [(.iload_n 3, 0)]) (pc' := 52) (ls' := [(0, .ref (ga G 65)), (1, .int x1), (2, .int x2), (3, .int x3), (4, .int x4), (5, .int x5)]) (st' := [.int x3, .ref (ga G 73)]) (by decide +kernel) rfl ?_
            refine v_iald hC isA_73 rfl (by decide +kernel) h (fun v12 h => ?_)
            refine v_blk hC (is := [(.iconst 2, (2 : Int32))]) (pc' := 54) (ls' := [(0, .ref (ga G 65)), (1, .int x1), (2, .int x2), (3, .int x3), (4, .int x4), (5, .int x5)]) (st' := [.int (2 : Int32), .int v12]) (by decide +kernel) rfl ?_
            refine v_icmp_ne hC (off := 18) (tgt := 72) (by decide +kernel) (by decide) h (fun hq h => ?_) (fun hq h => ?_)
            · refine v_blk hC (is := [(.bipush (-12), (-12 : Int32))]) (pc' := 74) (ls' := [(0, .ref (ga G 65)), (1, .int x1), (2, .int x2), (3, .int x3), (4, .int x4), (5, .int x5)]) (st' := [.int (-12 : Int32)]) (by decide +kernel) rfl ?_
              exact v_iret hC h (by decide +kernel)
            · refine v_blk hC (is := [(.aload_n 0, 0)]) (pc' := 58) (ls' := [(0, .ref (ga G 65)), (1, .int x1), (2, .int x2), (3, .int x3), (4, .int x4), (5, .int x5)]) (st' := [.ref (ga G 65)]) (by decide +kernel) rfl ?_
              refine gX12_15 hC lfX12_40 (by decide +kernel) ?_
              refine v_blk hC (is := [(.iload_n 1, 0)]) (pc' := 62) (ls' := [(0, .ref (ga G 65)), (1, .int x1), (2, .int x2), (3, .int x3), (4, .int x4), (5, .int x5)]) (st' := [.int x1, .ref (ga G 76)]) (by decide +kernel) rfl ?_
              refine v_iald hC isA_76 rfl (by decide +kernel) h (fun v13 h => ?_)
              refine v_blk hC (is := [(.aload_n 0, 0)]) (pc' := 64) (ls' := [(0, .ref (ga G 65)), (1, .int x1), (2, .int x2), (3, .int x3), (4, .int x4), (5, .int x5)]) (st' := [.ref (ga G 65), .int v13]) (by decide +kernel) rfl ?_
              refine gX12_15 hC lfX12_40 (by decide +kernel) ?_
              refine v_blk hC (is := [(.iload_n 3, 0)]) (pc' := 68) (ls' := [(0, .ref (ga G 65)), (1, .int x1), (2, .int x2), (3, .int x3), (4, .int x4), (5, .int x5)]) (st' := [.int x3, .ref (ga G 76), .int v13]) (by decide +kernel) rfl ?_
              refine v_iald hC isA_76 rfl (by decide +kernel) h (fun v14 h => ?_)
              refine v_icmp_eq hC (off := 6) (tgt := 75) (by decide +kernel) (by decide) h (fun hq h => ?_) (fun hq h => ?_)
              · refine v_blk hC (is := [(.iload 5, 0)]) (pc' := 77) (ls' := [(0, .ref (ga G 65)), (1, .int x1), (2, .int x2), (3, .int x3), (4, .int x4), (5, .int x5)]) (st' := [.int x5]) (by decide +kernel) rfl ?_
                refine v_if_lt hC (off := 39) (tgt := 116) (by decide +kernel) (by decide) h (fun hq h => ?_) (fun hq h => ?_)
                · refine v_blk hC (is := [(.bipush (-13), (-13 : Int32))]) (pc' := 118) (ls' := [(0, .ref (ga G 65)), (1, .int x1), (2, .int x2), (3, .int x3), (4, .int x4), (5, .int x5)]) (st' := [.int (-13 : Int32)]) (by decide +kernel) rfl ?_
                  exact v_iret hC h (by decide +kernel)
                · refine v_blk hC (is := [(.iload_n 2, 0)]) (pc' := 81) (ls' := [(0, .ref (ga G 65)), (1, .int x1), (2, .int x2), (3, .int x3), (4, .int x4), (5, .int x5)]) (st' := [.int x2]) (by decide +kernel) rfl ?_
                  refine v_if_lt hC (off := 35) (tgt := 116) (by decide +kernel) (by decide) h (fun hq h => ?_) (fun hq h => ?_)
                  · refine v_blk hC (is := [(.bipush (-13), (-13 : Int32))]) (pc' := 118) (ls' := [(0, .ref (ga G 65)), (1, .int x1), (2, .int x2), (3, .int x3), (4, .int x4), (5, .int x5)]) (st' := [.int (-13 : Int32)]) (by decide +kernel) rfl ?_
                    exact v_iret hC h (by decide +kernel)
                  · refine v_blk hC (is := [(.iload 4, 0)]) (pc' := 86) (ls' := [(0, .ref (ga G 65)), (1, .int x1), (2, .int x2), (3, .int x3), (4, .int x4), (5, .int x5)]) (st' := [.int x4]) (by decide +kernel) rfl ?_
                    refine v_if_lt hC (off := 30) (tgt := 116) (by decide +kernel) (by decide) h (fun hq h => ?_) (fun hq h => ?_)
                    · refine v_blk hC (is := [(.bipush (-13), (-13 : Int32))]) (pc' := 118) (ls' := [(0, .ref (ga G 65)), (1, .int x1), (2, .int x2), (3, .int x3), (4, .int x4), (5, .int x5)]) (st' := [.int (-13 : Int32)]) (by decide +kernel) rfl ?_
                      exact v_iret hC h (by decide +kernel)
                    · refine v_blk hC (is := [(.iload 5, 0), (.aload_n 0, 0)]) (pc' := 92) (ls' := [(0, .ref (ga G 65)), (1, .int x1), (2, .int x2), (3, .int x3), (4, .int x4), (5, .int x5)]) (st' := [.ref (ga G 65), .int x5]) (by decide +kernel) rfl ?_
                      refine gX12_16 hC lfX12_43 (by decide +kernel) ?_
                      refine v_blk hC (is := [(.iload_n 1, 0)]) (pc' := 96) (ls' := [(0, .ref (ga G 65)), (1, .int x1), (2, .int x2), (3, .int x3), (4, .int x4), (5, .int x5)]) (st' := [.int x1, .ref (ga G 77), .int x5]) (by decide +kernel) rfl ?_
                      refine v_iald hC isA_77 rfl (by decide +kernel) h (fun v15 h => ?_)
                      refine v_blk hC (is := [(.iload_n 2, 0), (.isub, 0)]) (pc' := 99) (ls' := [(0, .ref (ga G 65)), (1, .int x1), (2, .int x2), (3, .int x3), (4, .int x4), (5, .int x5)]) (st' := [.int (v15 - x2), .int x5]) (by decide +kernel) rfl ?_
                      refine v_icmp_gt hC (off := 17) (tgt := 116) (by decide +kernel) (by decide) h (fun hq h => ?_) (fun hq h => ?_)
                      · refine v_blk hC (is := [(.bipush (-13), (-13 : Int32))]) (pc' := 118) (ls' := [(0, .ref (ga G 65)), (1, .int x1), (2, .int x2), (3, .int x3), (4, .int x4), (5, .int x5)]) (st' := [.int (-13 : Int32)]) (by decide +kernel) rfl ?_
                        exact v_iret hC h (by decide +kernel)
                      · refine v_blk hC (is := [(.iload 5, 0), (.aload_n 0, 0)]) (pc' := 105) (ls' := [(0, .ref (ga G 65)), (1, .int x1), (2, .int x2), (3, .int x3), (4, .int x4), (5, .int x5)]) (st' := [.ref (ga G 65), .int x5]) (by decide +kernel) rfl ?_
                        refine gX12_16 hC lfX12_43 (by decide +kernel) ?_
                        refine v_blk hC (is := [(.iload_n 3, 0)]) (pc' := 109) (ls' := [(0, .ref (ga G 65)), (1, .int x1), (2, .int x2), (3, .int x3), (4, .int x4), (5, .int x5)]) (st' := [.int x3, .ref (ga G 77), .int x5]) (by decide +kernel) rfl ?_
                        refine v_iald hC isA_77 rfl (by decide +kernel) h (fun v16 h => ?_)
                        refine v_blk hC (is := [(.iload 4, 0), (.isub, 0)]) (pc' := 113) (ls' := [(0, .ref (ga G 65)), (1, .int x1), (2, .int x2), (3, .int x3), (4, .int x4), (5, .int x5)]) (st' := [.int (v16 - x4), .int x5]) (by decide +kernel) rfl ?_
                        refine v_icmp_le hC (off := 6) (tgt := 119) (by decide +kernel) (by decide) h (fun hq h => ?_) (fun hq h => ?_)
                        · refine v_blk hC (is := [(.iconst 0, (0 : Int32)), (.istore 6, 0)]) (pc' := 122) (ls' := [(6, .int (0 : Int32)), (0, .ref (ga G 65)), (1, .int x1), (2, .int x2), (3, .int x3), (4, .int x4), (5, .int x5)]) (st' := []) (by decide +kernel) rfl ?_
                          refine v_sub [1, 2, 3, 4, 5, 6, 0] (ls' := [(0, .ref (ga G 65)), (1, .int x1), (2, .int x2), (3, .int x3), (4, .int x4), (5, .int x5), (6, .int (0 : Int32))]) rfl ?_
                          exact (hL122 1000) _ _ h
                        · refine v_blk hC (is := [(.bipush (-13), (-13 : Int32))]) (pc' := 118) (ls' := [(0, .ref (ga G 65)), (1, .int x1), (2, .int x2), (3, .int x3), (4, .int x4), (5, .int x5)]) (st' := [.int (-13 : Int32)]) (by decide +kernel) rfl ?_
                          exact v_iret hC h (by decide +kernel)
              · refine v_blk hC (is := [(.bipush (-12), (-12 : Int32))]) (pc' := 74) (ls' := [(0, .ref (ga G 65)), (1, .int x1), (2, .int x2), (3, .int x3), (4, .int x4), (5, .int x5)]) (st' := [.int (-12 : Int32)]) (by decide +kernel) rfl ?_
                exact v_iret hC h (by decide +kernel)
        · refine v_blk hC (is := [(.bipush (-11), (-11 : Int32))]) (pc' := 36) (ls' := [(0, .ref (ga G 65)), (1, .int x1), (2, .int x2), (3, .int x3), (4, .int x4), (5, .int x5)]) (st' := [.int (-11 : Int32)]) (by decide +kernel) rfl ?_
          exact v_iret hC h (by decide +kernel)
    · refine v_blk hC (is := [(.iconst (-1), (-1 : Int32))]) (pc' := 15) (ls' := [(0, .ref (ga G 65)), (1, .int x1), (2, .int x2), (3, .int x3), (4, .int x4), (5, .int x5)]) (st' := [.int (-1 : Int32)]) (by decide +kernel) rfl ?_
      exact v_iret hC h (by decide +kernel)

def p_X12_costBy (x0 : Int32) (x1 : Int32) (σ : Mem) : Option (Int32 × Mem) := (if x0 = (1 : Int32) then some (((2 : Int32) + x1), σ) else (if x0 = (2 : Int32) then some ((1 : Int32), σ) else (if x0 = (3 : Int32) then some ((9 : Int32), σ) else (if x0 = (4 : Int32) then some (((4 : Int32) + ((2 : Int32) * x1)), σ) else (if x0 = (5 : Int32) then some ((4 : Int32), σ) else (if x0 = (6 : Int32) then some ((6 : Int32), σ) else (if x0 = (7 : Int32) then some ((4 : Int32), σ) else some ((2 : Int32), σ))))))))
set_option maxHeartbeats 4000000 in
set_option maxRecDepth 100000 in
theorem c_X12_costBy {G : Gl} {x0 : Int32} {x1 : Int32} {σ : Mem} {res : Int32 × Mem}  (h : p_X12_costBy x0 x1 σ = some res) : MetX G yX12_costBy cX12_costBy 2 (some .int) 1 [.int x0, .int x1] σ (some (.int res.1)) res.2 := by
  refine met_V (by decide +kernel) (Nat.le_of_ble_eq_true rfl) (fun X hC => ?_)
  have hC : Ok G 1 2 X cX12_costBy RX12 (some .int) := hC
  unfold p_X12_costBy at h
  show V G 1 2 X ((some (.int res.1)), res.2) σ [(0, .int x0), (1, .int x1)] [] 0
  refine v_blk hC (is := [(.iload_n 0, 0)]) (pc' := 1) (ls' := [(0, .int x0), (1, .int x1)]) (st' := [.int x0]) (by decide +kernel) rfl ?_
  by_cases q1 : x0 = (1 : Int32)
  · replace h := br_pos h q1
    refine v_tin hC (dflt := 63) (lo := 1) (hi := 7) (offs := #[43, 47, 49, 52, 58, 60, 58]) (len := 43) (off := 43) (tgt := 44) (by decide +kernel) (by rw [q1]; decide) (by rw [q1]; decide) (by rw [q1]; decide) (by decide) ?_
    refine v_blk hC (is := [(.iconst 2, (2 : Int32)), (.iload_n 1, 0), (.iadd, 0)]) (pc' := 47) (ls' := [(0, .int x0), (1, .int x1)]) (st' := [.int ((2 : Int32) + x1)]) (by decide +kernel) rfl ?_
    exact v_iret hC h (by decide +kernel)
  replace h := br_neg h q1
  by_cases q2 : x0 = (2 : Int32)
  · replace h := br_pos h q2
    refine v_tin hC (dflt := 63) (lo := 1) (hi := 7) (offs := #[43, 47, 49, 52, 58, 60, 58]) (len := 43) (off := 47) (tgt := 48) (by decide +kernel) (by rw [q2]; decide) (by rw [q2]; decide) (by rw [q2]; decide) (by decide) ?_
    refine v_blk hC (is := [(.iconst 1, (1 : Int32))]) (pc' := 49) (ls' := [(0, .int x0), (1, .int x1)]) (st' := [.int (1 : Int32)]) (by decide +kernel) rfl ?_
    exact v_iret hC h (by decide +kernel)
  replace h := br_neg h q2
  by_cases q3 : x0 = (3 : Int32)
  · replace h := br_pos h q3
    refine v_tin hC (dflt := 63) (lo := 1) (hi := 7) (offs := #[43, 47, 49, 52, 58, 60, 58]) (len := 43) (off := 49) (tgt := 50) (by decide +kernel) (by rw [q3]; decide) (by rw [q3]; decide) (by rw [q3]; decide) (by decide) ?_
    refine v_blk hC (is := [(.bipush 9, (9 : Int32))]) (pc' := 52) (ls' := [(0, .int x0), (1, .int x1)]) (st' := [.int (9 : Int32)]) (by decide +kernel) rfl ?_
    exact v_iret hC h (by decide +kernel)
  replace h := br_neg h q3
  by_cases q4 : x0 = (4 : Int32)
  · replace h := br_pos h q4
    refine v_tin hC (dflt := 63) (lo := 1) (hi := 7) (offs := #[43, 47, 49, 52, 58, 60, 58]) (len := 43) (off := 52) (tgt := 53) (by decide +kernel) (by rw [q4]; decide) (by rw [q4]; decide) (by rw [q4]; decide) (by decide) ?_
    refine v_blk hC (is := [(.iconst 4, (4 : Int32)), (.iconst 2, (2 : Int32)), (.iload_n 1, 0), (.imul, 0), (.iadd, 0)]) (pc' := 58) (ls' := [(0, .int x0), (1, .int x1)]) (st' := [.int ((4 : Int32) + ((2 : Int32) * x1))]) (by decide +kernel) rfl ?_
    exact v_iret hC h (by decide +kernel)
  replace h := br_neg h q4
  by_cases q5 : x0 = (5 : Int32)
  · replace h := br_pos h q5
    refine v_tin hC (dflt := 63) (lo := 1) (hi := 7) (offs := #[43, 47, 49, 52, 58, 60, 58]) (len := 43) (off := 58) (tgt := 59) (by decide +kernel) (by rw [q5]; decide) (by rw [q5]; decide) (by rw [q5]; decide) (by decide) ?_
    refine v_blk hC (is := [(.iconst 4, (4 : Int32))]) (pc' := 60) (ls' := [(0, .int x0), (1, .int x1)]) (st' := [.int (4 : Int32)]) (by decide +kernel) rfl ?_
    exact v_iret hC h (by decide +kernel)
  replace h := br_neg h q5
  by_cases q6 : x0 = (6 : Int32)
  · replace h := br_pos h q6
    refine v_tin hC (dflt := 63) (lo := 1) (hi := 7) (offs := #[43, 47, 49, 52, 58, 60, 58]) (len := 43) (off := 60) (tgt := 61) (by decide +kernel) (by rw [q6]; decide) (by rw [q6]; decide) (by rw [q6]; decide) (by decide) ?_
    refine v_blk hC (is := [(.bipush 6, (6 : Int32))]) (pc' := 63) (ls' := [(0, .int x0), (1, .int x1)]) (st' := [.int (6 : Int32)]) (by decide +kernel) rfl ?_
    exact v_iret hC h (by decide +kernel)
  replace h := br_neg h q6
  by_cases q7 : x0 = (7 : Int32)
  · replace h := br_pos h q7
    refine v_tin hC (dflt := 63) (lo := 1) (hi := 7) (offs := #[43, 47, 49, 52, 58, 60, 58]) (len := 43) (off := 58) (tgt := 59) (by decide +kernel) (by rw [q7]; decide) (by rw [q7]; decide) (by rw [q7]; decide) (by decide) ?_
    refine v_blk hC (is := [(.iconst 4, (4 : Int32))]) (pc' := 60) (ls' := [(0, .int x0), (1, .int x1)]) (st' := [.int (4 : Int32)]) (by decide +kernel) rfl ?_
    exact v_iret hC h (by decide +kernel)
  replace h := br_neg h q7
  refine v_tout hC (dflt := 63) (lo := 1) (hi := 7) (offs := #[43, 47, 49, 52, 58, 60, 58]) (len := 43) (tgt := 64) (by decide +kernel) (by have wq1 := lv_neT q1 (a := 1) (by decide); have wq2 := lv_neT q2 (a := 2) (by decide); have wq3 := lv_neT q3 (a := 3) (by decide); have wq4 := lv_neT q4 (a := 4) (by decide); have wq5 := lv_neT q5 (a := 5) (by decide); have wq6 := lv_neT q6 (a := 6) (by decide); have wq7 := lv_neT q7 (a := 7) (by decide); omega) (by decide) ?_
  refine v_blk hC (is := [(.iconst 2, (2 : Int32))]) (pc' := 65) (ls' := [(0, .int x0), (1, .int x1)]) (st' := [.int (2 : Int32)]) (by decide +kernel) rfl ?_
  exact v_iret hC h (by decide +kernel)

def p_X12_cost (x1 : Int32) (σ : Mem) : Option (Int32 × Mem) := (bnd (p_X12_wrongKept x1 σ) fun v1 s2 => (if v1 = 0 then (if x1 < 0 ∨ 8 ≤ (x1).toNatClampNeg then none else lt (s2 74 (x1).toNatClampNeg) fun v4 => (if x1 < 0 ∨ 8 ≤ (x1).toNatClampNeg then none else lt (s2 75 (x1).toNatClampNeg) fun v5 => (bnd (p_X12_costBy v4 v5 s2) fun v6 s7 => some (v6, s7)))) else some (v1, s2)))
set_option maxHeartbeats 4000000 in
set_option maxRecDepth 100000 in
theorem c_X12_cost {G : Gl} {x1 : Int32} {σ : Mem} {res : Int32 × Mem}  (h : p_X12_cost x1 σ = some res) : MetX G yX12_cost cX12_cost 3 (some .int) 4 [.ref (ga G 65), .int x1] σ (some (.int res.1)) res.2 := by
  refine met_V (by decide +kernel) (Nat.le_of_ble_eq_true rfl) (fun X hC => ?_)
  have hC : Ok G 4 3 X cX12_cost RX12 (some .int) := hC
  unfold p_X12_cost at h
  show V G 4 3 X ((some (.int res.1)), res.2) σ [(0, .ref (ga G 65)), (1, .int x1)] [] 0
  refine v_blk hC (is := [(.aload_n 0, 0), (.iload_n 1, 0)]) (pc' := 2) (ls' := [(0, .ref (ga G 65)), (1, .int x1)]) (st' := [.int x1, .ref (ga G 65)]) (by decide +kernel) rfl ?_
  obtain ⟨v1, s2, e3, h⟩ := bndI h
  refine v_cV (idx := 177) hC ⟨tt_at 1226 (by decide +kernel) rfl, tiX12_wrongKept, tvX12_wrongKept, tnX12_wrongKept, tcX12_wrongKept, tmX12_wrongKept⟩ isO_X12 rfl (c_X12_wrongKept e3) (by decide) (by decide) (by decide +kernel) (rest := []) rfl rfl (Nat.le_of_ble_eq_true rfl) rfl ?_
  refine v_blk hC (is := [(.istore_n 2, 0), (.iload_n 2, 0)]) (pc' := 7) (ls' := [(2, .int v1), (0, .ref (ga G 65)), (1, .int x1)]) (st' := [.int v1]) (by decide +kernel) rfl ?_
  refine v_if_eq hC (off := 7) (tgt := 14) (by decide +kernel) (by decide) h (fun hq h => ?_) (fun hq h => ?_)
  · refine v_blk hC (is := [(.aload_n 0, 0)]) (pc' := 15) (ls' := [(2, .int v1), (0, .ref (ga G 65)), (1, .int x1)]) (st' := [.ref (ga G 65)]) (by decide +kernel) rfl ?_
    refine gX12_13 hC lfX12_34 (by decide +kernel) ?_
    refine v_blk hC (is := [(.iload_n 1, 0)]) (pc' := 19) (ls' := [(2, .int v1), (0, .ref (ga G 65)), (1, .int x1)]) (st' := [.int x1, .ref (ga G 74)]) (by decide +kernel) rfl ?_
    refine v_iald hC isA_74 rfl (by decide +kernel) h (fun v4 h => ?_)
    refine v_blk hC (is := [(.aload_n 0, 0)]) (pc' := 21) (ls' := [(2, .int v1), (0, .ref (ga G 65)), (1, .int x1)]) (st' := [.ref (ga G 65), .int v4]) (by decide +kernel) rfl ?_
    refine gX12_14 hC lfX12_37 (by decide +kernel) ?_
    refine v_blk hC (is := [(.iload_n 1, 0)]) (pc' := 25) (ls' := [(2, .int v1), (0, .ref (ga G 65)), (1, .int x1)]) (st' := [.int x1, .ref (ga G 75), .int v4]) (by decide +kernel) rfl ?_
    refine v_iald hC isA_75 rfl (by decide +kernel) h (fun v5 h => ?_)
    obtain ⟨v6, s7, e8, h⟩ := bndI h
    refine v_cS (idx := 251) hC ⟨tt_at 1480 (by decide +kernel) rfl, tsX12_costBy, tnX12_costBy, tcX12_costBy, tmX12_costBy⟩ (c_X12_costBy e8) (by decide) (by decide) (by decide +kernel) (rest := []) rfl rfl (Nat.le_of_ble_eq_true rfl) rfl ?_
    exact v_iret hC h (by decide +kernel)
  · refine v_blk hC (is := [(.iload_n 2, 0)]) (pc' := 11) (ls' := [(2, .int v1), (0, .ref (ga G 65)), (1, .int x1)]) (st' := [.int v1]) (by decide +kernel) rfl ?_
    refine v_goto hC (off := 18) (tgt := 29) (by decide +kernel) (by decide) ?_
    exact v_iret hC h (by decide +kernel)

def p_X12_toss (x1 : Int32) (σ : Mem) : Option (Int32 × Mem) := (bnd (p_X12_wrongKept x1 σ) fun v1 s2 => (if v1 = 0 then (if x1 < 0 ∨ 8 ≤ (x1).toNatClampNeg then none else lt (s2 74 (x1).toNatClampNeg) fun v4 => (if x1 < 0 ∨ 8 ≤ (x1).toNatClampNeg then none else lt (s2 75 (x1).toNatClampNeg) fun v5 => (if v4 = (3 : Int32) then some ((-15 : Int32), s2) else (if v4 = (7 : Int32) then some ((-15 : Int32), s2) else (if v5 = 0 then some ((-15 : Int32), s2) else (if v4 = (4 : Int32) then (bnd (p_X12_costBy v4 v5 s2) fun v6 s7 => some (((200 : Int32) + v6), s7)) else (if v4 = (1 : Int32) then some (((100 : Int32) + v5), s2) else some (v5, s2)))))))) else some (v1, s2)))
set_option maxHeartbeats 4000000 in
set_option maxRecDepth 100000 in
theorem c_X12_toss {G : Gl} {x1 : Int32} {σ : Mem} {res : Int32 × Mem}  (h : p_X12_toss x1 σ = some res) : MetX G yX12_toss cX12_toss 5 (some .int) 4 [.ref (ga G 65), .int x1] σ (some (.int res.1)) res.2 := by
  refine met_V (by decide +kernel) (Nat.le_of_ble_eq_true rfl) (fun X hC => ?_)
  have hC : Ok G 4 5 X cX12_toss RX12 (some .int) := hC
  unfold p_X12_toss at h
  show V G 4 5 X ((some (.int res.1)), res.2) σ [(0, .ref (ga G 65)), (1, .int x1)] [] 0
  refine v_blk hC (is := [(.aload_n 0, 0), (.iload_n 1, 0)]) (pc' := 2) (ls' := [(0, .ref (ga G 65)), (1, .int x1)]) (st' := [.int x1, .ref (ga G 65)]) (by decide +kernel) rfl ?_
  obtain ⟨v1, s2, e3, h⟩ := bndI h
  refine v_cV (idx := 177) hC ⟨tt_at 1226 (by decide +kernel) rfl, tiX12_wrongKept, tvX12_wrongKept, tnX12_wrongKept, tcX12_wrongKept, tmX12_wrongKept⟩ isO_X12 rfl (c_X12_wrongKept e3) (by decide) (by decide) (by decide +kernel) (rest := []) rfl rfl (Nat.le_of_ble_eq_true rfl) rfl ?_
  refine v_blk hC (is := [(.istore_n 2, 0), (.iload_n 2, 0)]) (pc' := 7) (ls' := [(2, .int v1), (0, .ref (ga G 65)), (1, .int x1)]) (st' := [.int v1]) (by decide +kernel) rfl ?_
  refine v_if_eq hC (off := 5) (tgt := 12) (by decide +kernel) (by decide) h (fun hq h => ?_) (fun hq h => ?_)
  · refine v_blk hC (is := [(.aload_n 0, 0)]) (pc' := 13) (ls' := [(2, .int v1), (0, .ref (ga G 65)), (1, .int x1)]) (st' := [.ref (ga G 65)]) (by decide +kernel) rfl ?_
    refine gX12_13 hC lfX12_34 (by decide +kernel) ?_
    refine v_blk hC (is := [(.iload_n 1, 0)]) (pc' := 17) (ls' := [(2, .int v1), (0, .ref (ga G 65)), (1, .int x1)]) (st' := [.int x1, .ref (ga G 74)]) (by decide +kernel) rfl ?_
    refine v_iald hC isA_74 rfl (by decide +kernel) h (fun v4 h => ?_)
    refine v_blk hC (is := [(.istore_n 3, 0), (.aload_n 0, 0)]) (pc' := 20) (ls' := [(3, .int v4), (2, .int v1), (0, .ref (ga G 65)), (1, .int x1)]) (st' := [.ref (ga G 65)]) (by decide +kernel) rfl ?_
    refine gX12_14 hC lfX12_37 (by decide +kernel) ?_
    refine v_blk hC (is := [(.iload_n 1, 0)]) (pc' := 24) (ls' := [(3, .int v4), (2, .int v1), (0, .ref (ga G 65)), (1, .int x1)]) (st' := [.int x1, .ref (ga G 75)]) (by decide +kernel) rfl ?_
    refine v_iald hC isA_75 rfl (by decide +kernel) h (fun v5 h => ?_)
    refine v_blk hC (is := [(.istore 4, 0), (.iload_n 3, 0), (.iconst 3, (3 : Int32))]) (pc' := 29) (ls' := [(4, .int v5), (3, .int v4), (2, .int v1), (0, .ref (ga G 65)), (1, .int x1)]) (st' := [.int (3 : Int32), .int v4]) (by decide +kernel) rfl ?_
    refine v_icmp_eq hC (off := 14) (tgt := 43) (by decide +kernel) (by decide) h (fun hq h => ?_) (fun hq h => ?_)
    · refine v_blk hC (is := [(.bipush (-15), (-15 : Int32))]) (pc' := 45) (ls' := [(4, .int v5), (3, .int v4), (2, .int v1), (0, .ref (ga G 65)), (1, .int x1)]) (st' := [.int (-15 : Int32)]) (by decide +kernel) rfl ?_
      exact v_iret hC h (by decide +kernel)
    · refine v_blk hC (is := [(.iload_n 3, 0), (.bipush 7, (7 : Int32))]) (pc' := 35) (ls' := [(4, .int v5), (3, .int v4), (2, .int v1), (0, .ref (ga G 65)), (1, .int x1)]) (st' := [.int (7 : Int32), .int v4]) (by decide +kernel) rfl ?_
      refine v_icmp_eq hC (off := 8) (tgt := 43) (by decide +kernel) (by decide) h (fun hq h => ?_) (fun hq h => ?_)
      · refine v_blk hC (is := [(.bipush (-15), (-15 : Int32))]) (pc' := 45) (ls' := [(4, .int v5), (3, .int v4), (2, .int v1), (0, .ref (ga G 65)), (1, .int x1)]) (st' := [.int (-15 : Int32)]) (by decide +kernel) rfl ?_
        exact v_iret hC h (by decide +kernel)
      · refine v_blk hC (is := [(.iload 4, 0)]) (pc' := 40) (ls' := [(4, .int v5), (3, .int v4), (2, .int v1), (0, .ref (ga G 65)), (1, .int x1)]) (st' := [.int v5]) (by decide +kernel) rfl ?_
        refine v_if_ne hC (off := 6) (tgt := 46) (by decide +kernel) (by decide) h (fun hq h => ?_) (fun hq h => ?_)
        · refine v_blk hC (is := [(.iload_n 3, 0), (.iconst 4, (4 : Int32))]) (pc' := 48) (ls' := [(4, .int v5), (3, .int v4), (2, .int v1), (0, .ref (ga G 65)), (1, .int x1)]) (st' := [.int (4 : Int32), .int v4]) (by decide +kernel) rfl ?_
          refine v_icmp_ne hC (off := 16) (tgt := 64) (by decide +kernel) (by decide) h (fun hq h => ?_) (fun hq h => ?_)
          · refine v_blk hC (is := [(.iload_n 3, 0), (.iconst 1, (1 : Int32))]) (pc' := 66) (ls' := [(4, .int v5), (3, .int v4), (2, .int v1), (0, .ref (ga G 65)), (1, .int x1)]) (st' := [.int (1 : Int32), .int v4]) (by decide +kernel) rfl ?_
            refine v_icmp_ne hC (off := 11) (tgt := 77) (by decide +kernel) (by decide) h (fun hq h => ?_) (fun hq h => ?_)
            · refine v_blk hC (is := [(.iload 4, 0)]) (pc' := 79) (ls' := [(4, .int v5), (3, .int v4), (2, .int v1), (0, .ref (ga G 65)), (1, .int x1)]) (st' := [.int v5]) (by decide +kernel) rfl ?_
              exact v_iret hC h (by decide +kernel)
            · refine v_blk hC (is := [(.bipush 100, (100 : Int32)), (.iload 4, 0), (.iadd, 0)]) (pc' := 74) (ls' := [(4, .int v5), (3, .int v4), (2, .int v1), (0, .ref (ga G 65)), (1, .int x1)]) (st' := [.int ((100 : Int32) + v5)]) (by decide +kernel) rfl ?_
              refine v_goto hC (off := 5) (tgt := 79) (by decide +kernel) (by decide) ?_
              exact v_iret hC h (by decide +kernel)
          · refine v_blk hC (is := [(.sipush 200, (200 : Int32)), (.iload_n 3, 0), (.iload 4, 0)]) (pc' := 57) (ls' := [(4, .int v5), (3, .int v4), (2, .int v1), (0, .ref (ga G 65)), (1, .int x1)]) (st' := [.int v5, .int v4, .int (200 : Int32)]) (by decide +kernel) rfl ?_
            obtain ⟨v6, s7, e8, h⟩ := bndI h
            refine v_cS (idx := 251) hC ⟨tt_at 1480 (by decide +kernel) rfl, tsX12_costBy, tnX12_costBy, tcX12_costBy, tmX12_costBy⟩ (c_X12_costBy e8) (by decide) (by decide) (by decide +kernel) (rest := [.int (200 : Int32)]) rfl rfl (Nat.le_of_ble_eq_true rfl) rfl ?_
            refine v_blk hC (is := [(.iadd, 0)]) (pc' := 61) (ls' := [(4, .int v5), (3, .int v4), (2, .int v1), (0, .ref (ga G 65)), (1, .int x1)]) (st' := [.int ((200 : Int32) + v6)]) (by decide +kernel) rfl ?_
            refine v_goto hC (off := 18) (tgt := 79) (by decide +kernel) (by decide) ?_
            exact v_iret hC h (by decide +kernel)
        · refine v_blk hC (is := [(.bipush (-15), (-15 : Int32))]) (pc' := 45) (ls' := [(4, .int v5), (3, .int v4), (2, .int v1), (0, .ref (ga G 65)), (1, .int x1)]) (st' := [.int (-15 : Int32)]) (by decide +kernel) rfl ?_
          exact v_iret hC h (by decide +kernel)
  · refine v_blk hC (is := [(.iload_n 2, 0)]) (pc' := 11) (ls' := [(2, .int v1), (0, .ref (ga G 65)), (1, .int x1)]) (st' := [.int v1]) (by decide +kernel) rfl ?_
    exact v_iret hC h (by decide +kernel)
