theorem acn : Cond.native arraycopyName ∈ TT := tt_at 320 (by decide +kernel) rfl
theorem acs : Cond.static arraycopyName ∈ TT := tt_at 319 (by decide +kernel) rfl
theorem aci : Cond.initialized "java/lang/System" ∈ TT := tt_at 81 (by decide +kernel) rfl
theorem v_iremV {G : Gl} {lv nL : Nat} {X : Cx} {ro : Option Value × Mem} {σ : Mem} {ls : List (Nat × Value)} {st : List Value} {pc : Nat} {cc : ByteArray} {own : String} {ret : Option FieldType} {α : Type} {A : Option α} {r : α} {x y : Int32} (hC : Ok G lv nL X cc own ret) (hd : decode cc pc = .ok (.irem, 1)) (h : (if y = 0 then none else A) = some r) (k : A = some r → V G lv nL X ro σ ls (.int (x - x / y * y) :: st) (pc + 1)) : V G lv nL X ro σ ls (.int y :: .int x :: st) pc := by
  by_cases hy : y = 0
  · rw [if_pos hy] at h
    cases h
  · rw [if_neg hy] at h
    exact v_irem hC hd hy (k h)
theorem kinds_lt {c : Nat} (h : isCape c) : 21 + c < 79 := by have := h.2; omega
theorem sailor_at {c : Nat} (h : isCape c) {x : Int32} (hx : vp_in x 8) : isSailor (33 + 8 * c + x.toNatClampNeg) := by
  have := vp_lt hx; have := h.1; have := h.2
  exact ⟨by omega, by omega⟩
def p_X7_skill (o : Nat) (x1 : Int32) (σ : Mem) : Option (Int32 × Mem) := some (x1, σ)
set_option maxHeartbeats 4000000 in
set_option maxRecDepth 100000 in
theorem c_X7_skill {G : Gl} {o : Nat} {x1 : Int32} {σ : Mem} {res : Int32 × Mem} (ho : isSailor o) (h : p_X7_skill o x1 σ = some res) : MetX G yX7_skill cX7_skill 2 (some .int) 1 [.ref (ga G o), .int x1] σ (some (.int res.1)) res.2 := by
  refine met_V (by decide +kernel) (Nat.le_of_ble_eq_true rfl) (fun X hC => ?_)
  have hC : Ok G 1 2 X cX7_skill RX7 (some .int) := hC
  unfold p_X7_skill at h
  show V G 1 2 X ((some (.int res.1)), res.2) σ [(0, .ref (ga G o)), (1, .int x1)] [] 0
  refine v_blk hC (is := [(.iload_n 1, 0)]) (pc' := 1) (ls' := [(0, .ref (ga G o)), (1, .int x1)]) (st' := [.int x1]) (by decide +kernel) rfl ?_
  exact v_iret hC h (by decide +kernel)

def p_X0_skill (o : Nat) (x1 : Int32) (σ : Mem) : Option (Int32 × Mem) := (bnd (p_X7_skill o x1 σ) fun v1 s2 => some ((v1 + (3 : Int32)), s2))
set_option maxHeartbeats 4000000 in
set_option maxRecDepth 100000 in
theorem c_X0_skill {G : Gl} {o : Nat} {x1 : Int32} {σ : Mem} {res : Int32 × Mem} (ho : isSailor o) (h : p_X0_skill o x1 σ = some res) : MetX G yX0_skill cX0_skill 2 (some .int) 2 [.ref (ga G o), .int x1] σ (some (.int res.1)) res.2 := by
  refine met_V (by decide +kernel) (Nat.le_of_ble_eq_true rfl) (fun X hC => ?_)
  have hC : Ok G 2 2 X cX0_skill RX0 (some .int) := hC
  unfold p_X0_skill at h
  show V G 2 2 X ((some (.int res.1)), res.2) σ [(0, .ref (ga G o)), (1, .int x1)] [] 0
  refine v_blk hC (is := [(.aload_n 0, 0), (.iload_n 1, 0)]) (pc' := 2) (ls' := [(0, .ref (ga G o)), (1, .int x1)]) (st' := [.int x1, .ref (ga G o)]) (by decide +kernel) rfl ?_
  obtain ⟨v1, s2, e3, h⟩ := bndI h
  obtain ⟨C1, T1, hcl⟩ := cl_S ((o - 41) % 8)
  refine v_cSU (idx := 7) (n := 1) hC ⟨tt_at 495 (by decide +kernel) rfl, tt_at 491 (by decide +kernel) rfl, tt_at 118 (by decide +kernel) rfl, tiX7_skill, tnX7_skill, tcX7_skill, ⟨by decide +kernel, tmX7_skill.2.2⟩⟩ (isO_S ho) hcl (c_X7_skill ho e3) (by decide) (by decide) (by decide +kernel) (rest := []) rfl rfl (Nat.le_of_ble_eq_true rfl) rfl ?_
  refine v_blk hC (is := [(.iconst 3, (3 : Int32)), (.iadd, 0)]) (pc' := 7) (ls' := [(0, .ref (ga G o)), (1, .int x1)]) (st' := [.int (v1 + (3 : Int32))]) (by decide +kernel) rfl ?_
  exact v_iret hC h (by decide +kernel)

def p_X0_risk (o : Nat) (x1 : Int32) (x2 : Int32) (σ : Mem) : Option (Int32 × Mem) := some ((0 : Int32), σ)
set_option maxHeartbeats 4000000 in
set_option maxRecDepth 100000 in
theorem c_X0_risk {G : Gl} {o : Nat} {x1 : Int32} {x2 : Int32} {σ : Mem} {res : Int32 × Mem} (ho : isSailor o) (h : p_X0_risk o x1 x2 σ = some res) : MetX G yX0_risk cX0_risk 3 (some .int) 1 [.ref (ga G o), .int x1, .int x2] σ (some (.int res.1)) res.2 := by
  refine met_V (by decide +kernel) (Nat.le_of_ble_eq_true rfl) (fun X hC => ?_)
  have hC : Ok G 1 3 X cX0_risk RX0 (some .int) := hC
  unfold p_X0_risk at h
  show V G 1 3 X ((some (.int res.1)), res.2) σ [(0, .ref (ga G o)), (1, .int x1), (2, .int x2)] [] 0
  refine v_blk hC (is := [(.iconst 0, (0 : Int32))]) (pc' := 1) (ls' := [(0, .ref (ga G o)), (1, .int x1), (2, .int x2)]) (st' := [.int (0 : Int32)]) (by decide +kernel) rfl ?_
  exact v_iret hC h (by decide +kernel)

def p_X7_reach (o : Nat) (x1 : Int32) (σ : Mem) : Option (Int32 × Mem) := some (((3 : Int32) + (x1 / (3 : Int32))), σ)
set_option maxHeartbeats 4000000 in
set_option maxRecDepth 100000 in
theorem c_X7_reach {G : Gl} {o : Nat} {x1 : Int32} {σ : Mem} {res : Int32 × Mem} (ho : isSailor o) (h : p_X7_reach o x1 σ = some res) : MetX G yX7_reach cX7_reach 2 (some .int) 1 [.ref (ga G o), .int x1] σ (some (.int res.1)) res.2 := by
  refine met_V (by decide +kernel) (Nat.le_of_ble_eq_true rfl) (fun X hC => ?_)
  have hC : Ok G 1 2 X cX7_reach RX7 (some .int) := hC
  unfold p_X7_reach at h
  show V G 1 2 X ((some (.int res.1)), res.2) σ [(0, .ref (ga G o)), (1, .int x1)] [] 0
  refine v_blk hC (is := [(.iconst 3, (3 : Int32)), (.iload_n 1, 0), (.iconst 3, (3 : Int32))]) (pc' := 3) (ls' := [(0, .ref (ga G o)), (1, .int x1)]) (st' := [.int (3 : Int32), .int x1, .int (3 : Int32)]) (by decide +kernel) rfl ?_
  refine v_idiv hC (by decide +kernel) (by decide) ?_
  refine v_blk hC (is := [(.iadd, 0)]) (pc' := 5) (ls' := [(0, .ref (ga G o)), (1, .int x1)]) (st' := [.int ((3 : Int32) + (x1 / (3 : Int32)))]) (by decide +kernel) rfl ?_
  exact v_iret hC h (by decide +kernel)

def p_X0_reach (o : Nat) (x1 : Int32) (σ : Mem) : Option (Int32 × Mem) := (bnd (p_X7_reach o x1 σ) fun v1 s2 => some ((v1 + (3 : Int32)), s2))
set_option maxHeartbeats 4000000 in
set_option maxRecDepth 100000 in
theorem c_X0_reach {G : Gl} {o : Nat} {x1 : Int32} {σ : Mem} {res : Int32 × Mem} (ho : isSailor o) (h : p_X0_reach o x1 σ = some res) : MetX G yX0_reach cX0_reach 2 (some .int) 2 [.ref (ga G o), .int x1] σ (some (.int res.1)) res.2 := by
  refine met_V (by decide +kernel) (Nat.le_of_ble_eq_true rfl) (fun X hC => ?_)
  have hC : Ok G 2 2 X cX0_reach RX0 (some .int) := hC
  unfold p_X0_reach at h
  show V G 2 2 X ((some (.int res.1)), res.2) σ [(0, .ref (ga G o)), (1, .int x1)] [] 0
  refine v_blk hC (is := [(.aload_n 0, 0), (.iload_n 1, 0)]) (pc' := 2) (ls' := [(0, .ref (ga G o)), (1, .int x1)]) (st' := [.int x1, .ref (ga G o)]) (by decide +kernel) rfl ?_
  obtain ⟨v1, s2, e3, h⟩ := bndI h
  obtain ⟨C1, T1, hcl⟩ := cl_S ((o - 41) % 8)
  refine v_cSU (idx := 11) (n := 1) hC ⟨tt_at 421 (by decide +kernel) rfl, tt_at 417 (by decide +kernel) rfl, tt_at 118 (by decide +kernel) rfl, tiX7_reach, tnX7_reach, tcX7_reach, ⟨by decide +kernel, tmX7_reach.2.2⟩⟩ (isO_S ho) hcl (c_X7_reach ho e3) (by decide) (by decide) (by decide +kernel) (rest := []) rfl rfl (Nat.le_of_ble_eq_true rfl) rfl ?_
  refine v_blk hC (is := [(.iconst 3, (3 : Int32)), (.iadd, 0)]) (pc' := 7) (ls' := [(0, .ref (ga G o)), (1, .int x1)]) (st' := [.int (v1 + (3 : Int32))]) (by decide +kernel) rfl ?_
  exact v_iret hC h (by decide +kernel)

def p_X7_pay (o : Nat) (x1 : Int32) (σ : Mem) : Option (Int32 × Mem) := some ((2 : Int32), σ)
set_option maxHeartbeats 4000000 in
set_option maxRecDepth 100000 in
theorem c_X7_pay {G : Gl} {o : Nat} {x1 : Int32} {σ : Mem} {res : Int32 × Mem} (ho : isSailor o) (h : p_X7_pay o x1 σ = some res) : MetX G yX7_pay cX7_pay 2 (some .int) 1 [.ref (ga G o), .int x1] σ (some (.int res.1)) res.2 := by
  refine met_V (by decide +kernel) (Nat.le_of_ble_eq_true rfl) (fun X hC => ?_)
  have hC : Ok G 1 2 X cX7_pay RX7 (some .int) := hC
  unfold p_X7_pay at h
  show V G 1 2 X ((some (.int res.1)), res.2) σ [(0, .ref (ga G o)), (1, .int x1)] [] 0
  refine v_blk hC (is := [(.iconst 2, (2 : Int32))]) (pc' := 1) (ls' := [(0, .ref (ga G o)), (1, .int x1)]) (st' := [.int (2 : Int32)]) (by decide +kernel) rfl ?_
  exact v_iret hC h (by decide +kernel)

def p_X0_pay (o : Nat) (x1 : Int32) (σ : Mem) : Option (Int32 × Mem) := (bnd (p_X7_pay o x1 σ) fun v1 s2 => some ((v1 + x1), s2))
set_option maxHeartbeats 4000000 in
set_option maxRecDepth 100000 in
theorem c_X0_pay {G : Gl} {o : Nat} {x1 : Int32} {σ : Mem} {res : Int32 × Mem} (ho : isSailor o) (h : p_X0_pay o x1 σ = some res) : MetX G yX0_pay cX0_pay 2 (some .int) 2 [.ref (ga G o), .int x1] σ (some (.int res.1)) res.2 := by
  refine met_V (by decide +kernel) (Nat.le_of_ble_eq_true rfl) (fun X hC => ?_)
  have hC : Ok G 2 2 X cX0_pay RX0 (some .int) := hC
  unfold p_X0_pay at h
  show V G 2 2 X ((some (.int res.1)), res.2) σ [(0, .ref (ga G o)), (1, .int x1)] [] 0
  refine v_blk hC (is := [(.aload_n 0, 0), (.iload_n 1, 0)]) (pc' := 2) (ls' := [(0, .ref (ga G o)), (1, .int x1)]) (st' := [.int x1, .ref (ga G o)]) (by decide +kernel) rfl ?_
  obtain ⟨v1, s2, e3, h⟩ := bndI h
  obtain ⟨C1, T1, hcl⟩ := cl_S ((o - 41) % 8)
  refine v_cSU (idx := 14) (n := 1) hC ⟨tt_at 525 (by decide +kernel) rfl, tt_at 521 (by decide +kernel) rfl, tt_at 118 (by decide +kernel) rfl, tiX7_pay, tnX7_pay, tcX7_pay, ⟨by decide +kernel, tmX7_pay.2.2⟩⟩ (isO_S ho) hcl (c_X7_pay ho e3) (by decide) (by decide) (by decide +kernel) (rest := []) rfl rfl (Nat.le_of_ble_eq_true rfl) rfl ?_
  refine v_blk hC (is := [(.iload_n 1, 0), (.iadd, 0)]) (pc' := 7) (ls' := [(0, .ref (ga G o)), (1, .int x1)]) (st' := [.int (v1 + x1)]) (by decide +kernel) rfl ?_
  exact v_iret hC h (by decide +kernel)

def p_X7_price (o : Nat) (x1 : Int32) (σ : Mem) : Option (Int32 × Mem) := some ((2 : Int32), σ)
set_option maxHeartbeats 4000000 in
set_option maxRecDepth 100000 in
theorem c_X7_price {G : Gl} {o : Nat} {x1 : Int32} {σ : Mem} {res : Int32 × Mem} (ho : isSailor o) (h : p_X7_price o x1 σ = some res) : MetX G yX7_price cX7_price 2 (some .int) 1 [.ref (ga G o), .int x1] σ (some (.int res.1)) res.2 := by
  refine met_V (by decide +kernel) (Nat.le_of_ble_eq_true rfl) (fun X hC => ?_)
  have hC : Ok G 1 2 X cX7_price RX7 (some .int) := hC
  unfold p_X7_price at h
  show V G 1 2 X ((some (.int res.1)), res.2) σ [(0, .ref (ga G o)), (1, .int x1)] [] 0
  refine v_blk hC (is := [(.iconst 2, (2 : Int32))]) (pc' := 1) (ls' := [(0, .ref (ga G o)), (1, .int x1)]) (st' := [.int (2 : Int32)]) (by decide +kernel) rfl ?_
  exact v_iret hC h (by decide +kernel)

def p_X0_price (o : Nat) (x1 : Int32) (σ : Mem) : Option (Int32 × Mem) := (bnd (p_X7_price o x1 σ) fun v1 s2 => some ((v1 + x1), s2))
set_option maxHeartbeats 4000000 in
set_option maxRecDepth 100000 in
theorem c_X0_price {G : Gl} {o : Nat} {x1 : Int32} {σ : Mem} {res : Int32 × Mem} (ho : isSailor o) (h : p_X0_price o x1 σ = some res) : MetX G yX0_price cX0_price 2 (some .int) 2 [.ref (ga G o), .int x1] σ (some (.int res.1)) res.2 := by
  refine met_V (by decide +kernel) (Nat.le_of_ble_eq_true rfl) (fun X hC => ?_)
  have hC : Ok G 2 2 X cX0_price RX0 (some .int) := hC
  unfold p_X0_price at h
  show V G 2 2 X ((some (.int res.1)), res.2) σ [(0, .ref (ga G o)), (1, .int x1)] [] 0
  refine v_blk hC (is := [(.aload_n 0, 0), (.iload_n 1, 0)]) (pc' := 2) (ls' := [(0, .ref (ga G o)), (1, .int x1)]) (st' := [.int x1, .ref (ga G o)]) (by decide +kernel) rfl ?_
  obtain ⟨v1, s2, e3, h⟩ := bndI h
  obtain ⟨C1, T1, hcl⟩ := cl_S ((o - 41) % 8)
  refine v_cSU (idx := 17) (n := 1) hC ⟨tt_at 880 (by decide +kernel) rfl, tt_at 876 (by decide +kernel) rfl, tt_at 118 (by decide +kernel) rfl, tiX7_price, tnX7_price, tcX7_price, ⟨by decide +kernel, tmX7_price.2.2⟩⟩ (isO_S ho) hcl (c_X7_price ho e3) (by decide) (by decide) (by decide +kernel) (rest := []) rfl rfl (Nat.le_of_ble_eq_true rfl) rfl ?_
  refine v_blk hC (is := [(.iload_n 1, 0), (.iadd, 0)]) (pc' := 7) (ls' := [(0, .ref (ga G o)), (1, .int x1)]) (st' := [.int (v1 + x1)]) (by decide +kernel) rfl ?_
  exact v_iret hC h (by decide +kernel)

def p_X1_skill (o : Nat) (x1 : Int32) (σ : Mem) : Option (Int32 × Mem) := (bnd (p_X7_skill o x1 σ) fun v1 s2 => some ((v1 / (2 : Int32)), s2))
set_option maxHeartbeats 4000000 in
set_option maxRecDepth 100000 in
theorem c_X1_skill {G : Gl} {o : Nat} {x1 : Int32} {σ : Mem} {res : Int32 × Mem} (ho : isSailor o) (h : p_X1_skill o x1 σ = some res) : MetX G yX1_skill cX1_skill 2 (some .int) 2 [.ref (ga G o), .int x1] σ (some (.int res.1)) res.2 := by
  refine met_V (by decide +kernel) (Nat.le_of_ble_eq_true rfl) (fun X hC => ?_)
  have hC : Ok G 2 2 X cX1_skill RX1 (some .int) := hC
  unfold p_X1_skill at h
  show V G 2 2 X ((some (.int res.1)), res.2) σ [(0, .ref (ga G o)), (1, .int x1)] [] 0
  refine v_blk hC (is := [(.aload_n 0, 0), (.iload_n 1, 0)]) (pc' := 2) (ls' := [(0, .ref (ga G o)), (1, .int x1)]) (st' := [.int x1, .ref (ga G o)]) (by decide +kernel) rfl ?_
  obtain ⟨v1, s2, e3, h⟩ := bndI h
  obtain ⟨C1, T1, hcl⟩ := cl_S ((o - 41) % 8)
  refine v_cSU (idx := 7) (n := 1) hC ⟨tt_at 499 (by decide +kernel) rfl, tt_at 491 (by decide +kernel) rfl, tt_at 125 (by decide +kernel) rfl, tiX7_skill, tnX7_skill, tcX7_skill, ⟨by decide +kernel, tmX7_skill.2.2⟩⟩ (isO_S ho) hcl (c_X7_skill ho e3) (by decide) (by decide) (by decide +kernel) (rest := []) rfl rfl (Nat.le_of_ble_eq_true rfl) rfl ?_
  refine v_blk hC (is := [(.iconst 2, (2 : Int32))]) (pc' := 6) (ls' := [(0, .ref (ga G o)), (1, .int x1)]) (st' := [.int (2 : Int32), .int v1]) (by decide +kernel) rfl ?_
  refine v_idiv hC (by decide +kernel) (by decide) ?_
  exact v_iret hC h (by decide +kernel)

def p_X7_risk (o : Nat) (x1 : Int32) (x2 : Int32) (σ : Mem) : Option (Int32 × Mem) := some ((x1 - x1 / (5 : Int32) * (5 : Int32)), σ)
set_option maxHeartbeats 4000000 in
set_option maxRecDepth 100000 in
theorem c_X7_risk {G : Gl} {o : Nat} {x1 : Int32} {x2 : Int32} {σ : Mem} {res : Int32 × Mem} (ho : isSailor o) (h : p_X7_risk o x1 x2 σ = some res) : MetX G yX7_risk cX7_risk 3 (some .int) 1 [.ref (ga G o), .int x1, .int x2] σ (some (.int res.1)) res.2 := by
  refine met_V (by decide +kernel) (Nat.le_of_ble_eq_true rfl) (fun X hC => ?_)
  have hC : Ok G 1 3 X cX7_risk RX7 (some .int) := hC
  unfold p_X7_risk at h
  show V G 1 3 X ((some (.int res.1)), res.2) σ [(0, .ref (ga G o)), (1, .int x1), (2, .int x2)] [] 0
  refine v_blk hC (is := [(.iload_n 1, 0), (.iconst 5, (5 : Int32))]) (pc' := 2) (ls' := [(0, .ref (ga G o)), (1, .int x1), (2, .int x2)]) (st' := [.int (5 : Int32), .int x1]) (by decide +kernel) rfl ?_
  refine v_irem hC (by decide +kernel) (by decide) ?_
  exact v_iret hC h (by decide +kernel)

def p_X1_risk (o : Nat) (x1 : Int32) (x2 : Int32) (σ : Mem) : Option (Int32 × Mem) := (bnd (p_X7_risk o x1 x2 σ) fun v1 s2 => some ((v1 + (4 : Int32)), s2))
set_option maxHeartbeats 4000000 in
set_option maxRecDepth 100000 in
theorem c_X1_risk {G : Gl} {o : Nat} {x1 : Int32} {x2 : Int32} {σ : Mem} {res : Int32 × Mem} (ho : isSailor o) (h : p_X1_risk o x1 x2 σ = some res) : MetX G yX1_risk cX1_risk 3 (some .int) 2 [.ref (ga G o), .int x1, .int x2] σ (some (.int res.1)) res.2 := by
  refine met_V (by decide +kernel) (Nat.le_of_ble_eq_true rfl) (fun X hC => ?_)
  have hC : Ok G 2 3 X cX1_risk RX1 (some .int) := hC
  unfold p_X1_risk at h
  show V G 2 3 X ((some (.int res.1)), res.2) σ [(0, .ref (ga G o)), (1, .int x1), (2, .int x2)] [] 0
  refine v_blk hC (is := [(.aload_n 0, 0), (.iload_n 1, 0), (.iload_n 2, 0)]) (pc' := 3) (ls' := [(0, .ref (ga G o)), (1, .int x1), (2, .int x2)]) (st' := [.int x2, .int x1, .ref (ga G o)]) (by decide +kernel) rfl ?_
  obtain ⟨v1, s2, e3, h⟩ := bndI h
  obtain ⟨C1, T1, hcl⟩ := cl_S ((o - 41) % 8)
  refine v_cSU (idx := 11) (n := 2) hC ⟨tt_at 394 (by decide +kernel) rfl, tt_at 387 (by decide +kernel) rfl, tt_at 125 (by decide +kernel) rfl, tiX7_risk, tnX7_risk, tcX7_risk, ⟨by decide +kernel, tmX7_risk.2.2⟩⟩ (isO_S ho) hcl (c_X7_risk ho e3) (by decide) (by decide) (by decide +kernel) (rest := []) rfl rfl (Nat.le_of_ble_eq_true rfl) rfl ?_
  refine v_blk hC (is := [(.iconst 4, (4 : Int32)), (.iadd, 0)]) (pc' := 8) (ls' := [(0, .ref (ga G o)), (1, .int x1), (2, .int x2)]) (st' := [.int (v1 + (4 : Int32))]) (by decide +kernel) rfl ?_
  exact v_iret hC h (by decide +kernel)

def p_X1_reach (o : Nat) (x1 : Int32) (σ : Mem) : Option (Int32 × Mem) := some ((1 : Int32), σ)
set_option maxHeartbeats 4000000 in
set_option maxRecDepth 100000 in
theorem c_X1_reach {G : Gl} {o : Nat} {x1 : Int32} {σ : Mem} {res : Int32 × Mem} (ho : isSailor o) (h : p_X1_reach o x1 σ = some res) : MetX G yX1_reach cX1_reach 2 (some .int) 1 [.ref (ga G o), .int x1] σ (some (.int res.1)) res.2 := by
  refine met_V (by decide +kernel) (Nat.le_of_ble_eq_true rfl) (fun X hC => ?_)
  have hC : Ok G 1 2 X cX1_reach RX1 (some .int) := hC
  unfold p_X1_reach at h
  show V G 1 2 X ((some (.int res.1)), res.2) σ [(0, .ref (ga G o)), (1, .int x1)] [] 0
  refine v_blk hC (is := [(.iconst 1, (1 : Int32))]) (pc' := 1) (ls' := [(0, .ref (ga G o)), (1, .int x1)]) (st' := [.int (1 : Int32)]) (by decide +kernel) rfl ?_
  exact v_iret hC h (by decide +kernel)

def p_X1_pay (o : Nat) (x1 : Int32) (σ : Mem) : Option (Int32 × Mem) := some ((1 : Int32), σ)
set_option maxHeartbeats 4000000 in
set_option maxRecDepth 100000 in
theorem c_X1_pay {G : Gl} {o : Nat} {x1 : Int32} {σ : Mem} {res : Int32 × Mem} (ho : isSailor o) (h : p_X1_pay o x1 σ = some res) : MetX G yX1_pay cX1_pay 2 (some .int) 1 [.ref (ga G o), .int x1] σ (some (.int res.1)) res.2 := by
  refine met_V (by decide +kernel) (Nat.le_of_ble_eq_true rfl) (fun X hC => ?_)
  have hC : Ok G 1 2 X cX1_pay RX1 (some .int) := hC
  unfold p_X1_pay at h
  show V G 1 2 X ((some (.int res.1)), res.2) σ [(0, .ref (ga G o)), (1, .int x1)] [] 0
  refine v_blk hC (is := [(.iconst 1, (1 : Int32))]) (pc' := 1) (ls' := [(0, .ref (ga G o)), (1, .int x1)]) (st' := [.int (1 : Int32)]) (by decide +kernel) rfl ?_
  exact v_iret hC h (by decide +kernel)

def p_X1_price (o : Nat) (x1 : Int32) (σ : Mem) : Option (Int32 × Mem) := some ((1 : Int32), σ)
set_option maxHeartbeats 4000000 in
set_option maxRecDepth 100000 in
theorem c_X1_price {G : Gl} {o : Nat} {x1 : Int32} {σ : Mem} {res : Int32 × Mem} (ho : isSailor o) (h : p_X1_price o x1 σ = some res) : MetX G yX1_price cX1_price 2 (some .int) 1 [.ref (ga G o), .int x1] σ (some (.int res.1)) res.2 := by
  refine met_V (by decide +kernel) (Nat.le_of_ble_eq_true rfl) (fun X hC => ?_)
  have hC : Ok G 1 2 X cX1_price RX1 (some .int) := hC
  unfold p_X1_price at h
  show V G 1 2 X ((some (.int res.1)), res.2) σ [(0, .ref (ga G o)), (1, .int x1)] [] 0
  refine v_blk hC (is := [(.iconst 1, (1 : Int32))]) (pc' := 1) (ls' := [(0, .ref (ga G o)), (1, .int x1)]) (st' := [.int (1 : Int32)]) (by decide +kernel) rfl ?_
  exact v_iret hC h (by decide +kernel)

def p_X2_skill (o : Nat) (x1 : Int32) (σ : Mem) : Option (Int32 × Mem) := (bnd (p_X1_skill o x1 σ) fun v1 s2 => some ((v1 + (1 : Int32)), s2))
set_option maxHeartbeats 4000000 in
set_option maxRecDepth 100000 in
theorem c_X2_skill {G : Gl} {o : Nat} {x1 : Int32} {σ : Mem} {res : Int32 × Mem} (ho : isSailor o) (h : p_X2_skill o x1 σ = some res) : MetX G yX2_skill cX2_skill 2 (some .int) 3 [.ref (ga G o), .int x1] σ (some (.int res.1)) res.2 := by
  refine met_V (by decide +kernel) (Nat.le_of_ble_eq_true rfl) (fun X hC => ?_)
  have hC : Ok G 3 2 X cX2_skill RX2 (some .int) := hC
  unfold p_X2_skill at h
  show V G 3 2 X ((some (.int res.1)), res.2) σ [(0, .ref (ga G o)), (1, .int x1)] [] 0
  refine v_blk hC (is := [(.aload_n 0, 0), (.iload_n 1, 0)]) (pc' := 2) (ls' := [(0, .ref (ga G o)), (1, .int x1)]) (st' := [.int x1, .ref (ga G o)]) (by decide +kernel) rfl ?_
  obtain ⟨v1, s2, e3, h⟩ := bndI h
  obtain ⟨C1, T1, hcl⟩ := cl_S ((o - 41) % 8)
  refine v_cSU (idx := 7) (n := 1) hC ⟨tt_at 503 (by decide +kernel) rfl, tt_at 1491 (by decide +kernel) rfl, tt_at 146 (by decide +kernel) rfl, tiX1_skill, tnX1_skill, tcX1_skill, ⟨by decide +kernel, tmX1_skill.2.2⟩⟩ (isO_S ho) hcl (c_X1_skill ho e3) (by decide) (by decide) (by decide +kernel) (rest := []) rfl rfl (Nat.le_of_ble_eq_true rfl) rfl ?_
  refine v_blk hC (is := [(.iconst 1, (1 : Int32)), (.iadd, 0)]) (pc' := 7) (ls' := [(0, .ref (ga G o)), (1, .int x1)]) (st' := [.int (v1 + (1 : Int32))]) (by decide +kernel) rfl ?_
  exact v_iret hC h (by decide +kernel)

def p_X2_risk (o : Nat) (x1 : Int32) (x2 : Int32) (σ : Mem) : Option (Int32 × Mem) := (bnd (p_X1_risk o x1 x2 σ) fun v1 s2 => some ((v1 - (x2 &&& (1 : Int32))), s2))
set_option maxHeartbeats 4000000 in
set_option maxRecDepth 100000 in
theorem c_X2_risk {G : Gl} {o : Nat} {x1 : Int32} {x2 : Int32} {σ : Mem} {res : Int32 × Mem} (ho : isSailor o) (h : p_X2_risk o x1 x2 σ = some res) : MetX G yX2_risk cX2_risk 3 (some .int) 3 [.ref (ga G o), .int x1, .int x2] σ (some (.int res.1)) res.2 := by
  refine met_V (by decide +kernel) (Nat.le_of_ble_eq_true rfl) (fun X hC => ?_)
  have hC : Ok G 3 3 X cX2_risk RX2 (some .int) := hC
  unfold p_X2_risk at h
  show V G 3 3 X ((some (.int res.1)), res.2) σ [(0, .ref (ga G o)), (1, .int x1), (2, .int x2)] [] 0
  refine v_blk hC (is := [(.aload_n 0, 0), (.iload_n 1, 0), (.iload_n 2, 0)]) (pc' := 3) (ls' := [(0, .ref (ga G o)), (1, .int x1), (2, .int x2)]) (st' := [.int x2, .int x1, .ref (ga G o)]) (by decide +kernel) rfl ?_
  obtain ⟨v1, s2, e3, h⟩ := bndI h
  obtain ⟨C1, T1, hcl⟩ := cl_S ((o - 41) % 8)
  refine v_cSU (idx := 11) (n := 2) hC ⟨tt_at 398 (by decide +kernel) rfl, tt_at 1488 (by decide +kernel) rfl, tt_at 146 (by decide +kernel) rfl, tiX1_risk, tnX1_risk, tcX1_risk, ⟨by decide +kernel, tmX1_risk.2.2⟩⟩ (isO_S ho) hcl (c_X1_risk ho e3) (by decide) (by decide) (by decide +kernel) (rest := []) rfl rfl (Nat.le_of_ble_eq_true rfl) rfl ?_
  refine v_blk hC (is := [(.iload_n 2, 0), (.iconst 1, (1 : Int32)), (.iand, 0), (.isub, 0)]) (pc' := 10) (ls' := [(0, .ref (ga G o)), (1, .int x1), (2, .int x2)]) (st' := [.int (v1 - (x2 &&& (1 : Int32)))]) (by decide +kernel) rfl ?_
  exact v_iret hC h (by decide +kernel)

def p_X2_reach (o : Nat) (x1 : Int32) (σ : Mem) : Option (Int32 × Mem) := (bnd (p_X1_reach o x1 σ) fun v1 s2 => some ((v1 * (2 : Int32)), s2))
set_option maxHeartbeats 4000000 in
set_option maxRecDepth 100000 in
theorem c_X2_reach {G : Gl} {o : Nat} {x1 : Int32} {σ : Mem} {res : Int32 × Mem} (ho : isSailor o) (h : p_X2_reach o x1 σ = some res) : MetX G yX2_reach cX2_reach 2 (some .int) 2 [.ref (ga G o), .int x1] σ (some (.int res.1)) res.2 := by
  refine met_V (by decide +kernel) (Nat.le_of_ble_eq_true rfl) (fun X hC => ?_)
  have hC : Ok G 2 2 X cX2_reach RX2 (some .int) := hC
  unfold p_X2_reach at h
  show V G 2 2 X ((some (.int res.1)), res.2) σ [(0, .ref (ga G o)), (1, .int x1)] [] 0
  refine v_blk hC (is := [(.aload_n 0, 0), (.iload_n 1, 0)]) (pc' := 2) (ls' := [(0, .ref (ga G o)), (1, .int x1)]) (st' := [.int x1, .ref (ga G o)]) (by decide +kernel) rfl ?_
  obtain ⟨v1, s2, e3, h⟩ := bndI h
  obtain ⟨C1, T1, hcl⟩ := cl_S ((o - 41) % 8)
  refine v_cSU (idx := 15) (n := 1) hC ⟨tt_at 428 (by decide +kernel) rfl, tt_at 1489 (by decide +kernel) rfl, tt_at 146 (by decide +kernel) rfl, tiX1_reach, tnX1_reach, tcX1_reach, ⟨by decide +kernel, tmX1_reach.2.2⟩⟩ (isO_S ho) hcl (c_X1_reach ho e3) (by decide) (by decide) (by decide +kernel) (rest := []) rfl rfl (Nat.le_of_ble_eq_true rfl) rfl ?_
  refine v_blk hC (is := [(.iconst 2, (2 : Int32)), (.imul, 0)]) (pc' := 7) (ls' := [(0, .ref (ga G o)), (1, .int x1)]) (st' := [.int (v1 * (2 : Int32))]) (by decide +kernel) rfl ?_
  exact v_iret hC h (by decide +kernel)

def p_X2_price (o : Nat) (x1 : Int32) (σ : Mem) : Option (Int32 × Mem) := (bnd (p_X1_price o x1 σ) fun v1 s2 => some ((v1 + (3 : Int32)), s2))
set_option maxHeartbeats 4000000 in
set_option maxRecDepth 100000 in
theorem c_X2_price {G : Gl} {o : Nat} {x1 : Int32} {σ : Mem} {res : Int32 × Mem} (ho : isSailor o) (h : p_X2_price o x1 σ = some res) : MetX G yX2_price cX2_price 2 (some .int) 2 [.ref (ga G o), .int x1] σ (some (.int res.1)) res.2 := by
  refine met_V (by decide +kernel) (Nat.le_of_ble_eq_true rfl) (fun X hC => ?_)
  have hC : Ok G 2 2 X cX2_price RX2 (some .int) := hC
  unfold p_X2_price at h
  show V G 2 2 X ((some (.int res.1)), res.2) σ [(0, .ref (ga G o)), (1, .int x1)] [] 0
  refine v_blk hC (is := [(.aload_n 0, 0), (.iload_n 1, 0)]) (pc' := 2) (ls' := [(0, .ref (ga G o)), (1, .int x1)]) (st' := [.int x1, .ref (ga G o)]) (by decide +kernel) rfl ?_
  obtain ⟨v1, s2, e3, h⟩ := bndI h
  obtain ⟨C1, T1, hcl⟩ := cl_S ((o - 41) % 8)
  refine v_cSU (idx := 18) (n := 1) hC ⟨tt_at 887 (by decide +kernel) rfl, tt_at 1494 (by decide +kernel) rfl, tt_at 146 (by decide +kernel) rfl, tiX1_price, tnX1_price, tcX1_price, ⟨by decide +kernel, tmX1_price.2.2⟩⟩ (isO_S ho) hcl (c_X1_price ho e3) (by decide) (by decide) (by decide +kernel) (rest := []) rfl rfl (Nat.le_of_ble_eq_true rfl) rfl ?_
  refine v_blk hC (is := [(.iconst 3, (3 : Int32)), (.iadd, 0)]) (pc' := 7) (ls' := [(0, .ref (ga G o)), (1, .int x1)]) (st' := [.int (v1 + (3 : Int32))]) (by decide +kernel) rfl ?_
  exact v_iret hC h (by decide +kernel)

def p_X11_holds (x0 : Int32) (x1 : Int32) (σ : Mem) : Option (Int32 × Mem) := (if ((x0 >>> (x1 &&& 31)) &&& (1 : Int32)) = 0 then some ((0 : Int32), σ) else some ((1 : Int32), σ))
set_option maxHeartbeats 4000000 in
set_option maxRecDepth 100000 in
theorem c_X11_holds {G : Gl} {x0 : Int32} {x1 : Int32} {σ : Mem} {res : Int32 × Mem}  (h : p_X11_holds x0 x1 σ = some res) : MetX G yX11_holds cX11_holds 2 (some .boolean) 1 [.int x0, .int x1] σ (some (.int res.1)) res.2 := by
  refine met_V (by decide +kernel) (Nat.le_of_ble_eq_true rfl) (fun X hC => ?_)
  have hC : Ok G 1 2 X cX11_holds RX11 (some .boolean) := hC
  unfold p_X11_holds at h
  show V G 1 2 X ((some (.int res.1)), res.2) σ [(0, .int x0), (1, .int x1)] [] 0
  refine v_blk hC (is := [(.iload_n 0, 0), (.iload_n 1, 0), (.ishr, 0), (.iconst 1, (1 : Int32)), (.iand, 0)]) (pc' := 5) (ls' := [(0, .int x0), (1, .int x1)]) (st' := [.int ((x0 >>> (x1 &&& 31)) &&& (1 : Int32))]) (by decide +kernel) rfl ?_
  refine v_if_eq hC (off := 7) (tgt := 12) (by decide +kernel) (by decide) h (fun hq h => ?_) (fun hq h => ?_)
  · refine v_blk hC (is := [(.iconst 0, (0 : Int32))]) (pc' := 13) (ls' := [(0, .int x0), (1, .int x1)]) (st' := [.int (0 : Int32)]) (by decide +kernel) rfl ?_
    exact v_zret hC rfl h (by decide +kernel)
  · refine v_blk hC (is := [(.iconst 1, (1 : Int32))]) (pc' := 9) (ls' := [(0, .int x0), (1, .int x1)]) (st' := [.int (1 : Int32)]) (by decide +kernel) rfl ?_
    refine v_goto hC (off := 4) (tgt := 13) (by decide +kernel) (by decide) ?_
    exact v_zret hC rfl h (by decide +kernel)

def p_J6_bitCount_0f7a4 (x0 : Int32) (σ : Mem) : Option (Int32 × Mem) := some (((((((((x0 - ((((x0).toUInt32 >>> (((1 : Int32)).toUInt32 &&& Int32.toUInt32 31)).toInt32) &&& (1431655765 : Int32))) &&& (858993459 : Int32)) + (((((x0 - ((((x0).toUInt32 >>> (((1 : Int32)).toUInt32 &&& Int32.toUInt32 31)).toInt32) &&& (1431655765 : Int32)))).toUInt32 >>> (((2 : Int32)).toUInt32 &&& Int32.toUInt32 31)).toInt32) &&& (858993459 : Int32))) + ((((((x0 - ((((x0).toUInt32 >>> (((1 : Int32)).toUInt32 &&& Int32.toUInt32 31)).toInt32) &&& (1431655765 : Int32))) &&& (858993459 : Int32)) + (((((x0 - ((((x0).toUInt32 >>> (((1 : Int32)).toUInt32 &&& Int32.toUInt32 31)).toInt32) &&& (1431655765 : Int32)))).toUInt32 >>> (((2 : Int32)).toUInt32 &&& Int32.toUInt32 31)).toInt32) &&& (858993459 : Int32)))).toUInt32 >>> (((4 : Int32)).toUInt32 &&& Int32.toUInt32 31)).toInt32)) &&& (252645135 : Int32)) + ((((((((x0 - ((((x0).toUInt32 >>> (((1 : Int32)).toUInt32 &&& Int32.toUInt32 31)).toInt32) &&& (1431655765 : Int32))) &&& (858993459 : Int32)) + (((((x0 - ((((x0).toUInt32 >>> (((1 : Int32)).toUInt32 &&& Int32.toUInt32 31)).toInt32) &&& (1431655765 : Int32)))).toUInt32 >>> (((2 : Int32)).toUInt32 &&& Int32.toUInt32 31)).toInt32) &&& (858993459 : Int32))) + ((((((x0 - ((((x0).toUInt32 >>> (((1 : Int32)).toUInt32 &&& Int32.toUInt32 31)).toInt32) &&& (1431655765 : Int32))) &&& (858993459 : Int32)) + (((((x0 - ((((x0).toUInt32 >>> (((1 : Int32)).toUInt32 &&& Int32.toUInt32 31)).toInt32) &&& (1431655765 : Int32)))).toUInt32 >>> (((2 : Int32)).toUInt32 &&& Int32.toUInt32 31)).toInt32) &&& (858993459 : Int32)))).toUInt32 >>> (((4 : Int32)).toUInt32 &&& Int32.toUInt32 31)).toInt32)) &&& (252645135 : Int32))).toUInt32 >>> (((8 : Int32)).toUInt32 &&& Int32.toUInt32 31)).toInt32)) + (((((((((x0 - ((((x0).toUInt32 >>> (((1 : Int32)).toUInt32 &&& Int32.toUInt32 31)).toInt32) &&& (1431655765 : Int32))) &&& (858993459 : Int32)) + (((((x0 - ((((x0).toUInt32 >>> (((1 : Int32)).toUInt32 &&& Int32.toUInt32 31)).toInt32) &&& (1431655765 : Int32)))).toUInt32 >>> (((2 : Int32)).toUInt32 &&& Int32.toUInt32 31)).toInt32) &&& (858993459 : Int32))) + ((((((x0 - ((((x0).toUInt32 >>> (((1 : Int32)).toUInt32 &&& Int32.toUInt32 31)).toInt32) &&& (1431655765 : Int32))) &&& (858993459 : Int32)) + (((((x0 - ((((x0).toUInt32 >>> (((1 : Int32)).toUInt32 &&& Int32.toUInt32 31)).toInt32) &&& (1431655765 : Int32)))).toUInt32 >>> (((2 : Int32)).toUInt32 &&& Int32.toUInt32 31)).toInt32) &&& (858993459 : Int32)))).toUInt32 >>> (((4 : Int32)).toUInt32 &&& Int32.toUInt32 31)).toInt32)) &&& (252645135 : Int32)) + ((((((((x0 - ((((x0).toUInt32 >>> (((1 : Int32)).toUInt32 &&& Int32.toUInt32 31)).toInt32) &&& (1431655765 : Int32))) &&& (858993459 : Int32)) + (((((x0 - ((((x0).toUInt32 >>> (((1 : Int32)).toUInt32 &&& Int32.toUInt32 31)).toInt32) &&& (1431655765 : Int32)))).toUInt32 >>> (((2 : Int32)).toUInt32 &&& Int32.toUInt32 31)).toInt32) &&& (858993459 : Int32))) + ((((((x0 - ((((x0).toUInt32 >>> (((1 : Int32)).toUInt32 &&& Int32.toUInt32 31)).toInt32) &&& (1431655765 : Int32))) &&& (858993459 : Int32)) + (((((x0 - ((((x0).toUInt32 >>> (((1 : Int32)).toUInt32 &&& Int32.toUInt32 31)).toInt32) &&& (1431655765 : Int32)))).toUInt32 >>> (((2 : Int32)).toUInt32 &&& Int32.toUInt32 31)).toInt32) &&& (858993459 : Int32)))).toUInt32 >>> (((4 : Int32)).toUInt32 &&& Int32.toUInt32 31)).toInt32)) &&& (252645135 : Int32))).toUInt32 >>> (((8 : Int32)).toUInt32 &&& Int32.toUInt32 31)).toInt32))).toUInt32 >>> (((16 : Int32)).toUInt32 &&& Int32.toUInt32 31)).toInt32)) &&& (63 : Int32)), σ)
set_option maxHeartbeats 4000000 in
set_option maxRecDepth 100000 in
theorem c_J6_bitCount_0f7a4 {G : Gl} {x0 : Int32} {σ : Mem} {res : Int32 × Mem}  (h : p_J6_bitCount_0f7a4 x0 σ = some res) : MetX G yJ6_bitCount_0f7a4 cJ6_bitCount_0f7a4 1 (some .int) 1 [.int x0] σ (some (.int res.1)) res.2 := by
  refine met_V (by decide +kernel) (Nat.le_of_ble_eq_true rfl) (fun X hC => ?_)
  have hC : Ok G 1 1 X cJ6_bitCount_0f7a4 RJ6 (some .int) := hC
  unfold p_J6_bitCount_0f7a4 at h
  show V G 1 1 X ((some (.int res.1)), res.2) σ [(0, .int x0)] [] 0
  refine v_blk hC (is := [(.iload_n 0, 0), (.iload_n 0, 0), (.iconst 1, (1 : Int32)), (.iushr, 0)]) (pc' := 4) (ls' := [(0, .int x0)]) (st' := [.int (((x0).toUInt32 >>> (((1 : Int32)).toUInt32 &&& Int32.toUInt32 31)).toInt32), .int x0]) (by decide +kernel) rfl ?_
  refine v_ldcw hC (idx := 265) (v := (1431655765 : Int32)) (tt_at 474 (by decide +kernel) rfl) (by decide +kernel) ?_
  refine v_blk hC (is := [(.iand, 0), (.isub, 0), (.istore_n 0, 0), (.iload_n 0, 0)]) (pc' := 11) (ls' := [(0, .int (x0 - ((((x0).toUInt32 >>> (((1 : Int32)).toUInt32 &&& Int32.toUInt32 31)).toInt32) &&& (1431655765 : Int32))))]) (st' := [.int (x0 - ((((x0).toUInt32 >>> (((1 : Int32)).toUInt32 &&& Int32.toUInt32 31)).toInt32) &&& (1431655765 : Int32)))]) (by decide +kernel) rfl ?_
  refine v_ldcw hC (idx := 266) (v := (858993459 : Int32)) (tt_at 475 (by decide +kernel) rfl) (by decide +kernel) ?_
  refine v_blk hC (is := [(.iand, 0), (.iload_n 0, 0), (.iconst 2, (2 : Int32)), (.iushr, 0)]) (pc' := 18) (ls' := [(0, .int (x0 - ((((x0).toUInt32 >>> (((1 : Int32)).toUInt32 &&& Int32.toUInt32 31)).toInt32) &&& (1431655765 : Int32))))]) (st' := [.int ((((x0 - ((((x0).toUInt32 >>> (((1 : Int32)).toUInt32 &&& Int32.toUInt32 31)).toInt32) &&& (1431655765 : Int32)))).toUInt32 >>> (((2 : Int32)).toUInt32 &&& Int32.toUInt32 31)).toInt32), .int ((x0 - ((((x0).toUInt32 >>> (((1 : Int32)).toUInt32 &&& Int32.toUInt32 31)).toInt32) &&& (1431655765 : Int32))) &&& (858993459 : Int32))]) (by decide +kernel) rfl ?_
  refine v_ldcw hC (idx := 266) (v := (858993459 : Int32)) (tt_at 475 (by decide +kernel) rfl) (by decide +kernel) ?_
  refine v_blk hC (is := [(.iand, 0), (.iadd, 0), (.istore_n 0, 0), (.iload_n 0, 0), (.iload_n 0, 0), (.iconst 4, (4 : Int32)), (.iushr, 0), (.iadd, 0)]) (pc' := 29) (ls' := [(0, .int (((x0 - ((((x0).toUInt32 >>> (((1 : Int32)).toUInt32 &&& Int32.toUInt32 31)).toInt32) &&& (1431655765 : Int32))) &&& (858993459 : Int32)) + (((((x0 - ((((x0).toUInt32 >>> (((1 : Int32)).toUInt32 &&& Int32.toUInt32 31)).toInt32) &&& (1431655765 : Int32)))).toUInt32 >>> (((2 : Int32)).toUInt32 &&& Int32.toUInt32 31)).toInt32) &&& (858993459 : Int32))))]) (st' := [.int ((((x0 - ((((x0).toUInt32 >>> (((1 : Int32)).toUInt32 &&& Int32.toUInt32 31)).toInt32) &&& (1431655765 : Int32))) &&& (858993459 : Int32)) + (((((x0 - ((((x0).toUInt32 >>> (((1 : Int32)).toUInt32 &&& Int32.toUInt32 31)).toInt32) &&& (1431655765 : Int32)))).toUInt32 >>> (((2 : Int32)).toUInt32 &&& Int32.toUInt32 31)).toInt32) &&& (858993459 : Int32))) + ((((((x0 - ((((x0).toUInt32 >>> (((1 : Int32)).toUInt32 &&& Int32.toUInt32 31)).toInt32) &&& (1431655765 : Int32))) &&& (858993459 : Int32)) + (((((x0 - ((((x0).toUInt32 >>> (((1 : Int32)).toUInt32 &&& Int32.toUInt32 31)).toInt32) &&& (1431655765 : Int32)))).toUInt32 >>> (((2 : Int32)).toUInt32 &&& Int32.toUInt32 31)).toInt32) &&& (858993459 : Int32)))).toUInt32 >>> (((4 : Int32)).toUInt32 &&& Int32.toUInt32 31)).toInt32))]) (by decide +kernel) rfl ?_
  refine v_ldcw hC (idx := 267) (v := (252645135 : Int32)) (tt_at 476 (by decide +kernel) rfl) (by decide +kernel) ?_
  refine v_blk hC (is := [(.iand, 0), (.istore_n 0, 0), (.iload_n 0, 0), (.iload_n 0, 0), (.bipush 8, (8 : Int32)), (.iushr, 0), (.iadd, 0), (.istore_n 0, 0), (.iload_n 0, 0), (.iload_n 0, 0), (.bipush 16, (16 : Int32)), (.iushr, 0), (.iadd, 0), (.istore_n 0, 0), (.iload_n 0, 0), (.bipush 63, (63 : Int32)), (.iand, 0)]) (pc' := 52) (ls' := [(0, .int (((((((x0 - ((((x0).toUInt32 >>> (((1 : Int32)).toUInt32 &&& Int32.toUInt32 31)).toInt32) &&& (1431655765 : Int32))) &&& (858993459 : Int32)) + (((((x0 - ((((x0).toUInt32 >>> (((1 : Int32)).toUInt32 &&& Int32.toUInt32 31)).toInt32) &&& (1431655765 : Int32)))).toUInt32 >>> (((2 : Int32)).toUInt32 &&& Int32.toUInt32 31)).toInt32) &&& (858993459 : Int32))) + ((((((x0 - ((((x0).toUInt32 >>> (((1 : Int32)).toUInt32 &&& Int32.toUInt32 31)).toInt32) &&& (1431655765 : Int32))) &&& (858993459 : Int32)) + (((((x0 - ((((x0).toUInt32 >>> (((1 : Int32)).toUInt32 &&& Int32.toUInt32 31)).toInt32) &&& (1431655765 : Int32)))).toUInt32 >>> (((2 : Int32)).toUInt32 &&& Int32.toUInt32 31)).toInt32) &&& (858993459 : Int32)))).toUInt32 >>> (((4 : Int32)).toUInt32 &&& Int32.toUInt32 31)).toInt32)) &&& (252645135 : Int32)) + ((((((((x0 - ((((x0).toUInt32 >>> (((1 : Int32)).toUInt32 &&& Int32.toUInt32 31)).toInt32) &&& (1431655765 : Int32))) &&& (858993459 : Int32)) + (((((x0 - ((((x0).toUInt32 >>> (((1 : Int32)).toUInt32 &&& Int32.toUInt32 31)).toInt32) &&& (1431655765 : Int32)))).toUInt32 >>> (((2 : Int32)).toUInt32 &&& Int32.toUInt32 31)).toInt32) &&& (858993459 : Int32))) + ((((((x0 - ((((x0).toUInt32 >>> (((1 : Int32)).toUInt32 &&& Int32.toUInt32 31)).toInt32) &&& (1431655765 : Int32))) &&& (858993459 : Int32)) + (((((x0 - ((((x0).toUInt32 >>> (((1 : Int32)).toUInt32 &&& Int32.toUInt32 31)).toInt32) &&& (1431655765 : Int32)))).toUInt32 >>> (((2 : Int32)).toUInt32 &&& Int32.toUInt32 31)).toInt32) &&& (858993459 : Int32)))).toUInt32 >>> (((4 : Int32)).toUInt32 &&& Int32.toUInt32 31)).toInt32)) &&& (252645135 : Int32))).toUInt32 >>> (((8 : Int32)).toUInt32 &&& Int32.toUInt32 31)).toInt32)) + (((((((((x0 - ((((x0).toUInt32 >>> (((1 : Int32)).toUInt32 &&& Int32.toUInt32 31)).toInt32) &&& (1431655765 : Int32))) &&& (858993459 : Int32)) + (((((x0 - ((((x0).toUInt32 >>> (((1 : Int32)).toUInt32 &&& Int32.toUInt32 31)).toInt32) &&& (1431655765 : Int32)))).toUInt32 >>> (((2 : Int32)).toUInt32 &&& Int32.toUInt32 31)).toInt32) &&& (858993459 : Int32))) + ((((((x0 - ((((x0).toUInt32 >>> (((1 : Int32)).toUInt32 &&& Int32.toUInt32 31)).toInt32) &&& (1431655765 : Int32))) &&& (858993459 : Int32)) + (((((x0 - ((((x0).toUInt32 >>> (((1 : Int32)).toUInt32 &&& Int32.toUInt32 31)).toInt32) &&& (1431655765 : Int32)))).toUInt32 >>> (((2 : Int32)).toUInt32 &&& Int32.toUInt32 31)).toInt32) &&& (858993459 : Int32)))).toUInt32 >>> (((4 : Int32)).toUInt32 &&& Int32.toUInt32 31)).toInt32)) &&& (252645135 : Int32)) + ((((((((x0 - ((((x0).toUInt32 >>> (((1 : Int32)).toUInt32 &&& Int32.toUInt32 31)).toInt32) &&& (1431655765 : Int32))) &&& (858993459 : Int32)) + (((((x0 - ((((x0).toUInt32 >>> (((1 : Int32)).toUInt32 &&& Int32.toUInt32 31)).toInt32) &&& (1431655765 : Int32)))).toUInt32 >>> (((2 : Int32)).toUInt32 &&& Int32.toUInt32 31)).toInt32) &&& (858993459 : Int32))) + ((((((x0 - ((((x0).toUInt32 >>> (((1 : Int32)).toUInt32 &&& Int32.toUInt32 31)).toInt32) &&& (1431655765 : Int32))) &&& (858993459 : Int32)) + (((((x0 - ((((x0).toUInt32 >>> (((1 : Int32)).toUInt32 &&& Int32.toUInt32 31)).toInt32) &&& (1431655765 : Int32)))).toUInt32 >>> (((2 : Int32)).toUInt32 &&& Int32.toUInt32 31)).toInt32) &&& (858993459 : Int32)))).toUInt32 >>> (((4 : Int32)).toUInt32 &&& Int32.toUInt32 31)).toInt32)) &&& (252645135 : Int32))).toUInt32 >>> (((8 : Int32)).toUInt32 &&& Int32.toUInt32 31)).toInt32))).toUInt32 >>> (((16 : Int32)).toUInt32 &&& Int32.toUInt32 31)).toInt32)))]) (st' := [.int ((((((((x0 - ((((x0).toUInt32 >>> (((1 : Int32)).toUInt32 &&& Int32.toUInt32 31)).toInt32) &&& (1431655765 : Int32))) &&& (858993459 : Int32)) + (((((x0 - ((((x0).toUInt32 >>> (((1 : Int32)).toUInt32 &&& Int32.toUInt32 31)).toInt32) &&& (1431655765 : Int32)))).toUInt32 >>> (((2 : Int32)).toUInt32 &&& Int32.toUInt32 31)).toInt32) &&& (858993459 : Int32))) + ((((((x0 - ((((x0).toUInt32 >>> (((1 : Int32)).toUInt32 &&& Int32.toUInt32 31)).toInt32) &&& (1431655765 : Int32))) &&& (858993459 : Int32)) + (((((x0 - ((((x0).toUInt32 >>> (((1 : Int32)).toUInt32 &&& Int32.toUInt32 31)).toInt32) &&& (1431655765 : Int32)))).toUInt32 >>> (((2 : Int32)).toUInt32 &&& Int32.toUInt32 31)).toInt32) &&& (858993459 : Int32)))).toUInt32 >>> (((4 : Int32)).toUInt32 &&& Int32.toUInt32 31)).toInt32)) &&& (252645135 : Int32)) + ((((((((x0 - ((((x0).toUInt32 >>> (((1 : Int32)).toUInt32 &&& Int32.toUInt32 31)).toInt32) &&& (1431655765 : Int32))) &&& (858993459 : Int32)) + (((((x0 - ((((x0).toUInt32 >>> (((1 : Int32)).toUInt32 &&& Int32.toUInt32 31)).toInt32) &&& (1431655765 : Int32)))).toUInt32 >>> (((2 : Int32)).toUInt32 &&& Int32.toUInt32 31)).toInt32) &&& (858993459 : Int32))) + ((((((x0 - ((((x0).toUInt32 >>> (((1 : Int32)).toUInt32 &&& Int32.toUInt32 31)).toInt32) &&& (1431655765 : Int32))) &&& (858993459 : Int32)) + (((((x0 - ((((x0).toUInt32 >>> (((1 : Int32)).toUInt32 &&& Int32.toUInt32 31)).toInt32) &&& (1431655765 : Int32)))).toUInt32 >>> (((2 : Int32)).toUInt32 &&& Int32.toUInt32 31)).toInt32) &&& (858993459 : Int32)))).toUInt32 >>> (((4 : Int32)).toUInt32 &&& Int32.toUInt32 31)).toInt32)) &&& (252645135 : Int32))).toUInt32 >>> (((8 : Int32)).toUInt32 &&& Int32.toUInt32 31)).toInt32)) + (((((((((x0 - ((((x0).toUInt32 >>> (((1 : Int32)).toUInt32 &&& Int32.toUInt32 31)).toInt32) &&& (1431655765 : Int32))) &&& (858993459 : Int32)) + (((((x0 - ((((x0).toUInt32 >>> (((1 : Int32)).toUInt32 &&& Int32.toUInt32 31)).toInt32) &&& (1431655765 : Int32)))).toUInt32 >>> (((2 : Int32)).toUInt32 &&& Int32.toUInt32 31)).toInt32) &&& (858993459 : Int32))) + ((((((x0 - ((((x0).toUInt32 >>> (((1 : Int32)).toUInt32 &&& Int32.toUInt32 31)).toInt32) &&& (1431655765 : Int32))) &&& (858993459 : Int32)) + (((((x0 - ((((x0).toUInt32 >>> (((1 : Int32)).toUInt32 &&& Int32.toUInt32 31)).toInt32) &&& (1431655765 : Int32)))).toUInt32 >>> (((2 : Int32)).toUInt32 &&& Int32.toUInt32 31)).toInt32) &&& (858993459 : Int32)))).toUInt32 >>> (((4 : Int32)).toUInt32 &&& Int32.toUInt32 31)).toInt32)) &&& (252645135 : Int32)) + ((((((((x0 - ((((x0).toUInt32 >>> (((1 : Int32)).toUInt32 &&& Int32.toUInt32 31)).toInt32) &&& (1431655765 : Int32))) &&& (858993459 : Int32)) + (((((x0 - ((((x0).toUInt32 >>> (((1 : Int32)).toUInt32 &&& Int32.toUInt32 31)).toInt32) &&& (1431655765 : Int32)))).toUInt32 >>> (((2 : Int32)).toUInt32 &&& Int32.toUInt32 31)).toInt32) &&& (858993459 : Int32))) + ((((((x0 - ((((x0).toUInt32 >>> (((1 : Int32)).toUInt32 &&& Int32.toUInt32 31)).toInt32) &&& (1431655765 : Int32))) &&& (858993459 : Int32)) + (((((x0 - ((((x0).toUInt32 >>> (((1 : Int32)).toUInt32 &&& Int32.toUInt32 31)).toInt32) &&& (1431655765 : Int32)))).toUInt32 >>> (((2 : Int32)).toUInt32 &&& Int32.toUInt32 31)).toInt32) &&& (858993459 : Int32)))).toUInt32 >>> (((4 : Int32)).toUInt32 &&& Int32.toUInt32 31)).toInt32)) &&& (252645135 : Int32))).toUInt32 >>> (((8 : Int32)).toUInt32 &&& Int32.toUInt32 31)).toInt32))).toUInt32 >>> (((16 : Int32)).toUInt32 &&& Int32.toUInt32 31)).toInt32)) &&& (63 : Int32))]) (by decide +kernel) rfl ?_
  exact v_iret hC h (by decide +kernel)

def p_X7_isGhost (o : Nat) (σ : Mem) : Option (Int32 × Mem) := some ((0 : Int32), σ)
set_option maxHeartbeats 4000000 in
set_option maxRecDepth 100000 in
theorem c_X7_isGhost {G : Gl} {o : Nat} {σ : Mem} {res : Int32 × Mem} (ho : isSailor o) (h : p_X7_isGhost o σ = some res) : MetX G yX7_isGhost cX7_isGhost 1 (some .boolean) 1 [.ref (ga G o)] σ (some (.int res.1)) res.2 := by
  refine met_V (by decide +kernel) (Nat.le_of_ble_eq_true rfl) (fun X hC => ?_)
  have hC : Ok G 1 1 X cX7_isGhost RX7 (some .boolean) := hC
  unfold p_X7_isGhost at h
  show V G 1 1 X ((some (.int res.1)), res.2) σ [(0, .ref (ga G o))] [] 0
  refine v_blk hC (is := [(.iconst 0, (0 : Int32))]) (pc' := 1) (ls' := [(0, .ref (ga G o))]) (st' := [.int (0 : Int32)]) (by decide +kernel) rfl ?_
  exact v_zret hC rfl h (by decide +kernel)

def p_X5_isGhost (o : Nat) (σ : Mem) : Option (Int32 × Mem) := some ((1 : Int32), σ)
set_option maxHeartbeats 4000000 in
set_option maxRecDepth 100000 in
theorem c_X5_isGhost {G : Gl} {o : Nat} {σ : Mem} {res : Int32 × Mem} (ho : isSailor o) (h : p_X5_isGhost o σ = some res) : MetX G yX5_isGhost cX5_isGhost 1 (some .boolean) 1 [.ref (ga G o)] σ (some (.int res.1)) res.2 := by
  refine met_V (by decide +kernel) (Nat.le_of_ble_eq_true rfl) (fun X hC => ?_)
  have hC : Ok G 1 1 X cX5_isGhost RX5 (some .boolean) := hC
  unfold p_X5_isGhost at h
  show V G 1 1 X ((some (.int res.1)), res.2) σ [(0, .ref (ga G o))] [] 0
  refine v_blk hC (is := [(.iconst 1, (1 : Int32))]) (pc' := 1) (ls' := [(0, .ref (ga G o))]) (st' := [.int (1 : Int32)]) (by decide +kernel) rfl ?_
  exact v_zret hC rfl h (by decide +kernel)

def p_K_isGhost (o : Nat)  (σ : Mem) : Option (Int32 × Mem) := if o < 41 ∨ 64 < o then none else if (o - 41) % 8 = 0 then p_X7_isGhost o  σ else if (o - 41) % 8 = 1 then p_X7_isGhost o  σ else if (o - 41) % 8 = 2 then p_X7_isGhost o  σ else if (o - 41) % 8 = 3 then p_X5_isGhost o  σ else if (o - 41) % 8 = 4 then p_X7_isGhost o  σ else if (o - 41) % 8 = 5 then p_X7_isGhost o  σ else if (o - 41) % 8 = 6 then p_X7_isGhost o  σ else p_X5_isGhost o  σ
theorem kX3_isGhost {G : Gl} {lv nL : Nat} {X : Cx} {ro : Option Value × Mem} {σ σ1 : Mem} {ls : List (Nat × Value)} {st rest st2 : List Value} {pc : Nat} {cc : ByteArray} {ret : Option FieldType} (hC : Ok G lv nL X cc RX3 ret) {o : Nat} {v : Int32} (h : p_K_isGhost o  σ = some (v, σ1)) (hlv : 1 + 1 ≤ lv) (hd : decode cc pc = .ok (.invokevirtual 95, 3)) (hst : st = .ref (ga G o) :: rest) (hw : (rest.map fun v => v.category).sum ≤ 8) (h2 : .int v :: rest = st2) (k : V G lv nL X ro σ1 ls st2 (pc + 3)) : V G lv nL X ro σ ls st pc := by
  subst hst
  unfold p_K_isGhost at h
  have hS : isSailor o := by
    by_cases hq : o < 41 ∨ 64 < o
    · rw [if_pos hq] at h
      cases h
    · exact ⟨by omega, by omega⟩
  rw [if_neg (by have := hS.1; have := hS.2; omega)] at h
  have hO := isO_S (G := G) hS
  have hm : (o - 41) % 8 < 8 := Nat.mod_lt _ (by decide)
  by_cases hk : (o - 41) % 8 = 0
  · rw [if_pos hk] at h
    rw [hk] at hO
    exact v_cU (idx := 95) (C := RX7) (x := yX7_isGhost) hC ⟨tt_at 449 (by decide +kernel) rfl, tt_at 452 (by decide +kernel) rfl, tiX7_isGhost, tt_at 451 (by decide +kernel) rfl, tiX7_isGhost, tnX7_isGhost, tcX7_isGhost, ⟨_, _, _, tcX7_isGhost⟩, tmX7_isGhost⟩ hO rfl (c_X7_isGhost hS h) (by omega) (by decide) hd rfl rfl hw h2 k
  rw [if_neg hk] at h
  by_cases hk : (o - 41) % 8 = 1
  · rw [if_pos hk] at h
    rw [hk] at hO
    exact v_cU (idx := 95) (C := RX0) (x := yX7_isGhost) hC ⟨tt_at 449 (by decide +kernel) rfl, tt_at 452 (by decide +kernel) rfl, tiX7_isGhost, tt_at 453 (by decide +kernel) rfl, tiX7_isGhost, tnX7_isGhost, tcX7_isGhost, ⟨_, _, _, tcX7_isGhost⟩, tmX7_isGhost⟩ hO rfl (c_X7_isGhost hS h) (by omega) (by decide) hd rfl rfl hw h2 k
  rw [if_neg hk] at h
  by_cases hk : (o - 41) % 8 = 2
  · rw [if_pos hk] at h
    rw [hk] at hO
    exact v_cU (idx := 95) (C := RX1) (x := yX7_isGhost) hC ⟨tt_at 449 (by decide +kernel) rfl, tt_at 452 (by decide +kernel) rfl, tiX7_isGhost, tt_at 454 (by decide +kernel) rfl, tiX7_isGhost, tnX7_isGhost, tcX7_isGhost, ⟨_, _, _, tcX7_isGhost⟩, tmX7_isGhost⟩ hO rfl (c_X7_isGhost hS h) (by omega) (by decide) hd rfl rfl hw h2 k
  rw [if_neg hk] at h
  by_cases hk : (o - 41) % 8 = 3
  · rw [if_pos hk] at h
    rw [hk] at hO
    exact v_cU (idx := 95) (C := RX5) (x := yX7_isGhost) hC ⟨tt_at 449 (by decide +kernel) rfl, tt_at 452 (by decide +kernel) rfl, tiX7_isGhost, tt_at 456 (by decide +kernel) rfl, tiX5_isGhost, tnX5_isGhost, tcX5_isGhost, ⟨_, _, _, tcX7_isGhost⟩, tmX7_isGhost⟩ hO rfl (c_X5_isGhost hS h) (by omega) (by decide) hd rfl rfl hw h2 k
  rw [if_neg hk] at h
  by_cases hk : (o - 41) % 8 = 4
  · rw [if_pos hk] at h
    rw [hk] at hO
    exact v_cU (idx := 95) (C := RX6) (x := yX7_isGhost) hC ⟨tt_at 449 (by decide +kernel) rfl, tt_at 452 (by decide +kernel) rfl, tiX7_isGhost, tt_at 459 (by decide +kernel) rfl, tiX7_isGhost, tnX7_isGhost, tcX7_isGhost, ⟨_, _, _, tcX7_isGhost⟩, tmX7_isGhost⟩ hO rfl (c_X7_isGhost hS h) (by omega) (by decide) hd rfl rfl hw h2 k
  rw [if_neg hk] at h
  by_cases hk : (o - 41) % 8 = 5
  · rw [if_pos hk] at h
    rw [hk] at hO
    exact v_cU (idx := 95) (C := RX2) (x := yX7_isGhost) hC ⟨tt_at 449 (by decide +kernel) rfl, tt_at 452 (by decide +kernel) rfl, tiX7_isGhost, tt_at 455 (by decide +kernel) rfl, tiX7_isGhost, tnX7_isGhost, tcX7_isGhost, ⟨_, _, _, tcX7_isGhost⟩, tmX7_isGhost⟩ hO rfl (c_X7_isGhost hS h) (by omega) (by decide) hd rfl rfl hw h2 k
  rw [if_neg hk] at h
  by_cases hk : (o - 41) % 8 = 6
  · rw [if_pos hk] at h
    rw [hk] at hO
    exact v_cU (idx := 95) (C := RX9) (x := yX7_isGhost) hC ⟨tt_at 449 (by decide +kernel) rfl, tt_at 452 (by decide +kernel) rfl, tiX7_isGhost, tt_at 460 (by decide +kernel) rfl, tiX7_isGhost, tnX7_isGhost, tcX7_isGhost, ⟨_, _, _, tcX7_isGhost⟩, tmX7_isGhost⟩ hO rfl (c_X7_isGhost hS h) (by omega) (by decide) hd rfl rfl hw h2 k
  rw [if_neg hk] at h
  have hk : (o - 41) % 8 = 7 := by omega
  rw [hk] at hO
  exact v_cU (idx := 95) (C := RX10) (x := yX7_isGhost) hC ⟨tt_at 449 (by decide +kernel) rfl, tt_at 452 (by decide +kernel) rfl, tiX7_isGhost, tt_at 461 (by decide +kernel) rfl, tiX5_isGhost, tnX5_isGhost, tcX5_isGhost, ⟨_, _, _, tcX7_isGhost⟩, tmX7_isGhost⟩ hO rfl (c_X5_isGhost hS h) (by omega) (by decide) hd rfl rfl hw h2 k

def p_X5_skill (o : Nat) (x1 : Int32) (σ : Mem) : Option (Int32 × Mem) := some ((0 : Int32), σ)
set_option maxHeartbeats 4000000 in
set_option maxRecDepth 100000 in
theorem c_X5_skill {G : Gl} {o : Nat} {x1 : Int32} {σ : Mem} {res : Int32 × Mem} (ho : isSailor o) (h : p_X5_skill o x1 σ = some res) : MetX G yX5_skill cX5_skill 2 (some .int) 1 [.ref (ga G o), .int x1] σ (some (.int res.1)) res.2 := by
  refine met_V (by decide +kernel) (Nat.le_of_ble_eq_true rfl) (fun X hC => ?_)
  have hC : Ok G 1 2 X cX5_skill RX5 (some .int) := hC
  unfold p_X5_skill at h
  show V G 1 2 X ((some (.int res.1)), res.2) σ [(0, .ref (ga G o)), (1, .int x1)] [] 0
  refine v_blk hC (is := [(.iconst 0, (0 : Int32))]) (pc' := 1) (ls' := [(0, .ref (ga G o)), (1, .int x1)]) (st' := [.int (0 : Int32)]) (by decide +kernel) rfl ?_
  exact v_iret hC h (by decide +kernel)

def p_X6_skill (o : Nat) (x1 : Int32) (σ : Mem) : Option (Int32 × Mem) := (bnd (p_X0_skill o x1 σ) fun v1 s2 => some ((v1 * (2 : Int32)), s2))
set_option maxHeartbeats 4000000 in
set_option maxRecDepth 100000 in
theorem c_X6_skill {G : Gl} {o : Nat} {x1 : Int32} {σ : Mem} {res : Int32 × Mem} (ho : isSailor o) (h : p_X6_skill o x1 σ = some res) : MetX G yX6_skill cX6_skill 2 (some .int) 3 [.ref (ga G o), .int x1] σ (some (.int res.1)) res.2 := by
  refine met_V (by decide +kernel) (Nat.le_of_ble_eq_true rfl) (fun X hC => ?_)
  have hC : Ok G 3 2 X cX6_skill RX6 (some .int) := hC
  unfold p_X6_skill at h
  show V G 3 2 X ((some (.int res.1)), res.2) σ [(0, .ref (ga G o)), (1, .int x1)] [] 0
  refine v_blk hC (is := [(.aload_n 0, 0), (.iload_n 1, 0)]) (pc' := 2) (ls' := [(0, .ref (ga G o)), (1, .int x1)]) (st' := [.int x1, .ref (ga G o)]) (by decide +kernel) rfl ?_
  obtain ⟨v1, s2, e3, h⟩ := bndI h
  obtain ⟨C1, T1, hcl⟩ := cl_S ((o - 41) % 8)
  refine v_cSU (idx := 7) (n := 1) hC ⟨tt_at 510 (by decide +kernel) rfl, tt_at 1492 (by decide +kernel) rfl, tt_at 139 (by decide +kernel) rfl, tiX0_skill, tnX0_skill, tcX0_skill, ⟨by decide +kernel, tmX0_skill.2.2⟩⟩ (isO_S ho) hcl (c_X0_skill ho e3) (by decide) (by decide) (by decide +kernel) (rest := []) rfl rfl (Nat.le_of_ble_eq_true rfl) rfl ?_
  refine v_blk hC (is := [(.iconst 2, (2 : Int32)), (.imul, 0)]) (pc' := 7) (ls' := [(0, .ref (ga G o)), (1, .int x1)]) (st' := [.int (v1 * (2 : Int32))]) (by decide +kernel) rfl ?_
  exact v_iret hC h (by decide +kernel)

def p_X10_skill (o : Nat) (x1 : Int32) (σ : Mem) : Option (Int32 × Mem) := some ((9 : Int32), σ)
set_option maxHeartbeats 4000000 in
set_option maxRecDepth 100000 in
theorem c_X10_skill {G : Gl} {o : Nat} {x1 : Int32} {σ : Mem} {res : Int32 × Mem} (ho : isSailor o) (h : p_X10_skill o x1 σ = some res) : MetX G yX10_skill cX10_skill 2 (some .int) 1 [.ref (ga G o), .int x1] σ (some (.int res.1)) res.2 := by
  refine met_V (by decide +kernel) (Nat.le_of_ble_eq_true rfl) (fun X hC => ?_)
  have hC : Ok G 1 2 X cX10_skill RX10 (some .int) := hC
  unfold p_X10_skill at h
  show V G 1 2 X ((some (.int res.1)), res.2) σ [(0, .ref (ga G o)), (1, .int x1)] [] 0
  refine v_blk hC (is := [(.bipush 9, (9 : Int32))]) (pc' := 2) (ls' := [(0, .ref (ga G o)), (1, .int x1)]) (st' := [.int (9 : Int32)]) (by decide +kernel) rfl ?_
  exact v_iret hC h (by decide +kernel)

def p_K_skill (o : Nat) (x1 : Int32) (σ : Mem) : Option (Int32 × Mem) := if o < 41 ∨ 64 < o then none else if (o - 41) % 8 = 0 then p_X7_skill o x1 σ else if (o - 41) % 8 = 1 then p_X0_skill o x1 σ else if (o - 41) % 8 = 2 then p_X1_skill o x1 σ else if (o - 41) % 8 = 3 then p_X5_skill o x1 σ else if (o - 41) % 8 = 4 then p_X6_skill o x1 σ else if (o - 41) % 8 = 5 then p_X2_skill o x1 σ else if (o - 41) % 8 = 6 then p_X7_skill o x1 σ else p_X10_skill o x1 σ
theorem kX3_skill {G : Gl} {lv nL : Nat} {X : Cx} {ro : Option Value × Mem} {σ σ1 : Mem} {ls : List (Nat × Value)} {st rest st2 : List Value} {pc : Nat} {cc : ByteArray} {ret : Option FieldType} (hC : Ok G lv nL X cc RX3 ret) {o : Nat} {x1 : Int32} {v : Int32} (h : p_K_skill o x1 σ = some (v, σ1)) (hlv : 3 + 1 ≤ lv) (hd : decode cc pc = .ok (.invokevirtual 112, 3)) (hst : st = .int x1 :: .ref (ga G o) :: rest) (hw : (rest.map fun v => v.category).sum ≤ 8) (h2 : .int v :: rest = st2) (k : V G lv nL X ro σ1 ls st2 (pc + 3)) : V G lv nL X ro σ ls st pc := by
  subst hst
  unfold p_K_skill at h
  have hS : isSailor o := by
    by_cases hq : o < 41 ∨ 64 < o
    · rw [if_pos hq] at h
      cases h
    · exact ⟨by omega, by omega⟩
  rw [if_neg (by have := hS.1; have := hS.2; omega)] at h
  have hO := isO_S (G := G) hS
  have hm : (o - 41) % 8 < 8 := Nat.mod_lt _ (by decide)
  by_cases hk : (o - 41) % 8 = 0
  · rw [if_pos hk] at h
    rw [hk] at hO
    exact v_cU (idx := 112) (C := RX7) (x := yX7_skill) hC ⟨tt_at 665 (by decide +kernel) rfl, tt_at 491 (by decide +kernel) rfl, tiX7_skill, tt_at 490 (by decide +kernel) rfl, tiX7_skill, tnX7_skill, tcX7_skill, ⟨_, _, _, tcX7_skill⟩, tmX7_skill⟩ hO rfl (c_X7_skill hS h) (by omega) (by decide) hd rfl rfl hw h2 k
  rw [if_neg hk] at h
  by_cases hk : (o - 41) % 8 = 1
  · rw [if_pos hk] at h
    rw [hk] at hO
    exact v_cU (idx := 112) (C := RX0) (x := yX7_skill) hC ⟨tt_at 665 (by decide +kernel) rfl, tt_at 491 (by decide +kernel) rfl, tiX7_skill, tt_at 492 (by decide +kernel) rfl, tiX0_skill, tnX0_skill, tcX0_skill, ⟨_, _, _, tcX7_skill⟩, tmX7_skill⟩ hO rfl (c_X0_skill hS h) (by omega) (by decide) hd rfl rfl hw h2 k
  rw [if_neg hk] at h
  by_cases hk : (o - 41) % 8 = 2
  · rw [if_pos hk] at h
    rw [hk] at hO
    exact v_cU (idx := 112) (C := RX1) (x := yX7_skill) hC ⟨tt_at 665 (by decide +kernel) rfl, tt_at 491 (by decide +kernel) rfl, tiX7_skill, tt_at 496 (by decide +kernel) rfl, tiX1_skill, tnX1_skill, tcX1_skill, ⟨_, _, _, tcX7_skill⟩, tmX7_skill⟩ hO rfl (c_X1_skill hS h) (by omega) (by decide) hd rfl rfl hw h2 k
  rw [if_neg hk] at h
  by_cases hk : (o - 41) % 8 = 3
  · rw [if_pos hk] at h
    rw [hk] at hO
    exact v_cU (idx := 112) (C := RX5) (x := yX7_skill) hC ⟨tt_at 665 (by decide +kernel) rfl, tt_at 491 (by decide +kernel) rfl, tiX7_skill, tt_at 504 (by decide +kernel) rfl, tiX5_skill, tnX5_skill, tcX5_skill, ⟨_, _, _, tcX7_skill⟩, tmX7_skill⟩ hO rfl (c_X5_skill hS h) (by omega) (by decide) hd rfl rfl hw h2 k
  rw [if_neg hk] at h
  by_cases hk : (o - 41) % 8 = 4
  · rw [if_pos hk] at h
    rw [hk] at hO
    exact v_cU (idx := 112) (C := RX6) (x := yX7_skill) hC ⟨tt_at 665 (by decide +kernel) rfl, tt_at 491 (by decide +kernel) rfl, tiX7_skill, tt_at 507 (by decide +kernel) rfl, tiX6_skill, tnX6_skill, tcX6_skill, ⟨_, _, _, tcX7_skill⟩, tmX7_skill⟩ hO rfl (c_X6_skill hS h) (by omega) (by decide) hd rfl rfl hw h2 k
  rw [if_neg hk] at h
  by_cases hk : (o - 41) % 8 = 5
  · rw [if_pos hk] at h
    rw [hk] at hO
    exact v_cU (idx := 112) (C := RX2) (x := yX7_skill) hC ⟨tt_at 665 (by decide +kernel) rfl, tt_at 491 (by decide +kernel) rfl, tiX7_skill, tt_at 500 (by decide +kernel) rfl, tiX2_skill, tnX2_skill, tcX2_skill, ⟨_, _, _, tcX7_skill⟩, tmX7_skill⟩ hO rfl (c_X2_skill hS h) (by omega) (by decide) hd rfl rfl hw h2 k
  rw [if_neg hk] at h
  by_cases hk : (o - 41) % 8 = 6
  · rw [if_pos hk] at h
    rw [hk] at hO
    exact v_cU (idx := 112) (C := RX9) (x := yX7_skill) hC ⟨tt_at 665 (by decide +kernel) rfl, tt_at 491 (by decide +kernel) rfl, tiX7_skill, tt_at 511 (by decide +kernel) rfl, tiX7_skill, tnX7_skill, tcX7_skill, ⟨_, _, _, tcX7_skill⟩, tmX7_skill⟩ hO rfl (c_X7_skill hS h) (by omega) (by decide) hd rfl rfl hw h2 k
  rw [if_neg hk] at h
  have hk : (o - 41) % 8 = 7 := by omega
  rw [hk] at hO
  exact v_cU (idx := 112) (C := RX10) (x := yX7_skill) hC ⟨tt_at 665 (by decide +kernel) rfl, tt_at 491 (by decide +kernel) rfl, tiX7_skill, tt_at 512 (by decide +kernel) rfl, tiX10_skill, tnX10_skill, tcX10_skill, ⟨_, _, _, tcX7_skill⟩, tmX7_skill⟩ hO rfl (c_X10_skill hS h) (by omega) (by decide) hd rfl rfl hw h2 k
theorem kX11_skill {G : Gl} {lv nL : Nat} {X : Cx} {ro : Option Value × Mem} {σ σ1 : Mem} {ls : List (Nat × Value)} {st rest st2 : List Value} {pc : Nat} {cc : ByteArray} {ret : Option FieldType} (hC : Ok G lv nL X cc RX11 ret) {o : Nat} {x1 : Int32} {v : Int32} (h : p_K_skill o x1 σ = some (v, σ1)) (hlv : 3 + 1 ≤ lv) (hd : decode cc pc = .ok (.invokevirtual 84, 3)) (hst : st = .int x1 :: .ref (ga G o) :: rest) (hw : (rest.map fun v => v.category).sum ≤ 8) (h2 : .int v :: rest = st2) (k : V G lv nL X ro σ1 ls st2 (pc + 3)) : V G lv nL X ro σ ls st pc := by
  subst hst
  unfold p_K_skill at h
  have hS : isSailor o := by
    by_cases hq : o < 41 ∨ 64 < o
    · rw [if_pos hq] at h
      cases h
    · exact ⟨by omega, by omega⟩
  rw [if_neg (by have := hS.1; have := hS.2; omega)] at h
  have hO := isO_S (G := G) hS
  have hm : (o - 41) % 8 < 8 := Nat.mod_lt _ (by decide)
  by_cases hk : (o - 41) % 8 = 0
  · rw [if_pos hk] at h
    rw [hk] at hO
    exact v_cU (idx := 84) (C := RX7) (x := yX7_skill) hC ⟨tt_at 488 (by decide +kernel) rfl, tt_at 491 (by decide +kernel) rfl, tiX7_skill, tt_at 490 (by decide +kernel) rfl, tiX7_skill, tnX7_skill, tcX7_skill, ⟨_, _, _, tcX7_skill⟩, tmX7_skill⟩ hO rfl (c_X7_skill hS h) (by omega) (by decide) hd rfl rfl hw h2 k
  rw [if_neg hk] at h
  by_cases hk : (o - 41) % 8 = 1
  · rw [if_pos hk] at h
    rw [hk] at hO
    exact v_cU (idx := 84) (C := RX0) (x := yX7_skill) hC ⟨tt_at 488 (by decide +kernel) rfl, tt_at 491 (by decide +kernel) rfl, tiX7_skill, tt_at 492 (by decide +kernel) rfl, tiX0_skill, tnX0_skill, tcX0_skill, ⟨_, _, _, tcX7_skill⟩, tmX7_skill⟩ hO rfl (c_X0_skill hS h) (by omega) (by decide) hd rfl rfl hw h2 k
  rw [if_neg hk] at h
  by_cases hk : (o - 41) % 8 = 2
  · rw [if_pos hk] at h
    rw [hk] at hO
    exact v_cU (idx := 84) (C := RX1) (x := yX7_skill) hC ⟨tt_at 488 (by decide +kernel) rfl, tt_at 491 (by decide +kernel) rfl, tiX7_skill, tt_at 496 (by decide +kernel) rfl, tiX1_skill, tnX1_skill, tcX1_skill, ⟨_, _, _, tcX7_skill⟩, tmX7_skill⟩ hO rfl (c_X1_skill hS h) (by omega) (by decide) hd rfl rfl hw h2 k
  rw [if_neg hk] at h
  by_cases hk : (o - 41) % 8 = 3
  · rw [if_pos hk] at h
    rw [hk] at hO
    exact v_cU (idx := 84) (C := RX5) (x := yX7_skill) hC ⟨tt_at 488 (by decide +kernel) rfl, tt_at 491 (by decide +kernel) rfl, tiX7_skill, tt_at 504 (by decide +kernel) rfl, tiX5_skill, tnX5_skill, tcX5_skill, ⟨_, _, _, tcX7_skill⟩, tmX7_skill⟩ hO rfl (c_X5_skill hS h) (by omega) (by decide) hd rfl rfl hw h2 k
  rw [if_neg hk] at h
  by_cases hk : (o - 41) % 8 = 4
  · rw [if_pos hk] at h
    rw [hk] at hO
    exact v_cU (idx := 84) (C := RX6) (x := yX7_skill) hC ⟨tt_at 488 (by decide +kernel) rfl, tt_at 491 (by decide +kernel) rfl, tiX7_skill, tt_at 507 (by decide +kernel) rfl, tiX6_skill, tnX6_skill, tcX6_skill, ⟨_, _, _, tcX7_skill⟩, tmX7_skill⟩ hO rfl (c_X6_skill hS h) (by omega) (by decide) hd rfl rfl hw h2 k
  rw [if_neg hk] at h
  by_cases hk : (o - 41) % 8 = 5
  · rw [if_pos hk] at h
    rw [hk] at hO
    exact v_cU (idx := 84) (C := RX2) (x := yX7_skill) hC ⟨tt_at 488 (by decide +kernel) rfl, tt_at 491 (by decide +kernel) rfl, tiX7_skill, tt_at 500 (by decide +kernel) rfl, tiX2_skill, tnX2_skill, tcX2_skill, ⟨_, _, _, tcX7_skill⟩, tmX7_skill⟩ hO rfl (c_X2_skill hS h) (by omega) (by decide) hd rfl rfl hw h2 k
  rw [if_neg hk] at h
  by_cases hk : (o - 41) % 8 = 6
  · rw [if_pos hk] at h
    rw [hk] at hO
    exact v_cU (idx := 84) (C := RX9) (x := yX7_skill) hC ⟨tt_at 488 (by decide +kernel) rfl, tt_at 491 (by decide +kernel) rfl, tiX7_skill, tt_at 511 (by decide +kernel) rfl, tiX7_skill, tnX7_skill, tcX7_skill, ⟨_, _, _, tcX7_skill⟩, tmX7_skill⟩ hO rfl (c_X7_skill hS h) (by omega) (by decide) hd rfl rfl hw h2 k
  rw [if_neg hk] at h
  have hk : (o - 41) % 8 = 7 := by omega
  rw [hk] at hO
  exact v_cU (idx := 84) (C := RX10) (x := yX7_skill) hC ⟨tt_at 488 (by decide +kernel) rfl, tt_at 491 (by decide +kernel) rfl, tiX7_skill, tt_at 512 (by decide +kernel) rfl, tiX10_skill, tnX10_skill, tcX10_skill, ⟨_, _, _, tcX7_skill⟩, tmX7_skill⟩ hO rfl (c_X10_skill hS h) (by omega) (by decide) hd rfl rfl hw h2 k

def p_X5_pay (o : Nat) (x1 : Int32) (σ : Mem) : Option (Int32 × Mem) := some ((0 : Int32), σ)
set_option maxHeartbeats 4000000 in
set_option maxRecDepth 100000 in
theorem c_X5_pay {G : Gl} {o : Nat} {x1 : Int32} {σ : Mem} {res : Int32 × Mem} (ho : isSailor o) (h : p_X5_pay o x1 σ = some res) : MetX G yX5_pay cX5_pay 2 (some .int) 1 [.ref (ga G o), .int x1] σ (some (.int res.1)) res.2 := by
  refine met_V (by decide +kernel) (Nat.le_of_ble_eq_true rfl) (fun X hC => ?_)
  have hC : Ok G 1 2 X cX5_pay RX5 (some .int) := hC
  unfold p_X5_pay at h
  show V G 1 2 X ((some (.int res.1)), res.2) σ [(0, .ref (ga G o)), (1, .int x1)] [] 0
  refine v_blk hC (is := [(.iconst 0, (0 : Int32))]) (pc' := 1) (ls' := [(0, .ref (ga G o)), (1, .int x1)]) (st' := [.int (0 : Int32)]) (by decide +kernel) rfl ?_
  exact v_iret hC h (by decide +kernel)

def p_X6_pay (o : Nat) (x1 : Int32) (σ : Mem) : Option (Int32 × Mem) := (bnd (p_X0_pay o x1 σ) fun v1 s2 => some ((v1 * (2 : Int32)), s2))
set_option maxHeartbeats 4000000 in
set_option maxRecDepth 100000 in
theorem c_X6_pay {G : Gl} {o : Nat} {x1 : Int32} {σ : Mem} {res : Int32 × Mem} (ho : isSailor o) (h : p_X6_pay o x1 σ = some res) : MetX G yX6_pay cX6_pay 2 (some .int) 3 [.ref (ga G o), .int x1] σ (some (.int res.1)) res.2 := by
  refine met_V (by decide +kernel) (Nat.le_of_ble_eq_true rfl) (fun X hC => ?_)
  have hC : Ok G 3 2 X cX6_pay RX6 (some .int) := hC
  unfold p_X6_pay at h
  show V G 3 2 X ((some (.int res.1)), res.2) σ [(0, .ref (ga G o)), (1, .int x1)] [] 0
  refine v_blk hC (is := [(.aload_n 0, 0), (.iload_n 1, 0)]) (pc' := 2) (ls' := [(0, .ref (ga G o)), (1, .int x1)]) (st' := [.int x1, .ref (ga G o)]) (by decide +kernel) rfl ?_
  obtain ⟨v1, s2, e3, h⟩ := bndI h
  obtain ⟨C1, T1, hcl⟩ := cl_S ((o - 41) % 8)
  refine v_cSU (idx := 14) (n := 1) hC ⟨tt_at 536 (by decide +kernel) rfl, tt_at 1493 (by decide +kernel) rfl, tt_at 139 (by decide +kernel) rfl, tiX0_pay, tnX0_pay, tcX0_pay, ⟨by decide +kernel, tmX0_pay.2.2⟩⟩ (isO_S ho) hcl (c_X0_pay ho e3) (by decide) (by decide) (by decide +kernel) (rest := []) rfl rfl (Nat.le_of_ble_eq_true rfl) rfl ?_
  refine v_blk hC (is := [(.iconst 2, (2 : Int32)), (.imul, 0)]) (pc' := 7) (ls' := [(0, .ref (ga G o)), (1, .int x1)]) (st' := [.int (v1 * (2 : Int32))]) (by decide +kernel) rfl ?_
  exact v_iret hC h (by decide +kernel)

def p_X9_pay (o : Nat) (x1 : Int32) (σ : Mem) : Option (Int32 × Mem) := (bnd (p_X7_pay o x1 σ) fun v1 s2 => some ((v1 + (1 : Int32)), s2))
set_option maxHeartbeats 4000000 in
set_option maxRecDepth 100000 in
theorem c_X9_pay {G : Gl} {o : Nat} {x1 : Int32} {σ : Mem} {res : Int32 × Mem} (ho : isSailor o) (h : p_X9_pay o x1 σ = some res) : MetX G yX9_pay cX9_pay 2 (some .int) 2 [.ref (ga G o), .int x1] σ (some (.int res.1)) res.2 := by
  refine met_V (by decide +kernel) (Nat.le_of_ble_eq_true rfl) (fun X hC => ?_)
  have hC : Ok G 2 2 X cX9_pay RX9 (some .int) := hC
  unfold p_X9_pay at h
  show V G 2 2 X ((some (.int res.1)), res.2) σ [(0, .ref (ga G o)), (1, .int x1)] [] 0
  refine v_blk hC (is := [(.aload_n 0, 0), (.iload_n 1, 0)]) (pc' := 2) (ls' := [(0, .ref (ga G o)), (1, .int x1)]) (st' := [.int x1, .ref (ga G o)]) (by decide +kernel) rfl ?_
  obtain ⟨v1, s2, e3, h⟩ := bndI h
  obtain ⟨C1, T1, hcl⟩ := cl_S ((o - 41) % 8)
  refine v_cSU (idx := 7) (n := 1) hC ⟨tt_at 540 (by decide +kernel) rfl, tt_at 521 (by decide +kernel) rfl, tt_at 153 (by decide +kernel) rfl, tiX7_pay, tnX7_pay, tcX7_pay, ⟨by decide +kernel, tmX7_pay.2.2⟩⟩ (isO_S ho) hcl (c_X7_pay ho e3) (by decide) (by decide) (by decide +kernel) (rest := []) rfl rfl (Nat.le_of_ble_eq_true rfl) rfl ?_
  refine v_blk hC (is := [(.iconst 1, (1 : Int32)), (.iadd, 0)]) (pc' := 7) (ls' := [(0, .ref (ga G o)), (1, .int x1)]) (st' := [.int (v1 + (1 : Int32))]) (by decide +kernel) rfl ?_
  exact v_iret hC h (by decide +kernel)

def p_K_pay (o : Nat) (x1 : Int32) (σ : Mem) : Option (Int32 × Mem) := if o < 41 ∨ 64 < o then none else if (o - 41) % 8 = 0 then p_X7_pay o x1 σ else if (o - 41) % 8 = 1 then p_X0_pay o x1 σ else if (o - 41) % 8 = 2 then p_X1_pay o x1 σ else if (o - 41) % 8 = 3 then p_X5_pay o x1 σ else if (o - 41) % 8 = 4 then p_X6_pay o x1 σ else if (o - 41) % 8 = 5 then p_X1_pay o x1 σ else if (o - 41) % 8 = 6 then p_X9_pay o x1 σ else p_X5_pay o x1 σ
theorem kX3_pay {G : Gl} {lv nL : Nat} {X : Cx} {ro : Option Value × Mem} {σ σ1 : Mem} {ls : List (Nat × Value)} {st rest st2 : List Value} {pc : Nat} {cc : ByteArray} {ret : Option FieldType} (hC : Ok G lv nL X cc RX3 ret) {o : Nat} {x1 : Int32} {v : Int32} (h : p_K_pay o x1 σ = some (v, σ1)) (hlv : 3 + 1 ≤ lv) (hd : decode cc pc = .ok (.invokevirtual 115, 3)) (hst : st = .int x1 :: .ref (ga G o) :: rest) (hw : (rest.map fun v => v.category).sum ≤ 8) (h2 : .int v :: rest = st2) (k : V G lv nL X ro σ1 ls st2 (pc + 3)) : V G lv nL X ro σ ls st pc := by
  subst hst
  unfold p_K_pay at h
  have hS : isSailor o := by
    by_cases hq : o < 41 ∨ 64 < o
    · rw [if_pos hq] at h
      cases h
    · exact ⟨by omega, by omega⟩
  rw [if_neg (by have := hS.1; have := hS.2; omega)] at h
  have hO := isO_S (G := G) hS
  have hm : (o - 41) % 8 < 8 := Nat.mod_lt _ (by decide)
  by_cases hk : (o - 41) % 8 = 0
  · rw [if_pos hk] at h
    rw [hk] at hO
    exact v_cU (idx := 115) (C := RX7) (x := yX7_pay) hC ⟨tt_at 680 (by decide +kernel) rfl, tt_at 521 (by decide +kernel) rfl, tiX7_pay, tt_at 520 (by decide +kernel) rfl, tiX7_pay, tnX7_pay, tcX7_pay, ⟨_, _, _, tcX7_pay⟩, tmX7_pay⟩ hO rfl (c_X7_pay hS h) (by omega) (by decide) hd rfl rfl hw h2 k
  rw [if_neg hk] at h
  by_cases hk : (o - 41) % 8 = 1
  · rw [if_pos hk] at h
    rw [hk] at hO
    exact v_cU (idx := 115) (C := RX0) (x := yX7_pay) hC ⟨tt_at 680 (by decide +kernel) rfl, tt_at 521 (by decide +kernel) rfl, tiX7_pay, tt_at 522 (by decide +kernel) rfl, tiX0_pay, tnX0_pay, tcX0_pay, ⟨_, _, _, tcX7_pay⟩, tmX7_pay⟩ hO rfl (c_X0_pay hS h) (by omega) (by decide) hd rfl rfl hw h2 k
  rw [if_neg hk] at h
  by_cases hk : (o - 41) % 8 = 2
  · rw [if_pos hk] at h
    rw [hk] at hO
    exact v_cU (idx := 115) (C := RX1) (x := yX7_pay) hC ⟨tt_at 680 (by decide +kernel) rfl, tt_at 521 (by decide +kernel) rfl, tiX7_pay, tt_at 526 (by decide +kernel) rfl, tiX1_pay, tnX1_pay, tcX1_pay, ⟨_, _, _, tcX7_pay⟩, tmX7_pay⟩ hO rfl (c_X1_pay hS h) (by omega) (by decide) hd rfl rfl hw h2 k
  rw [if_neg hk] at h
  by_cases hk : (o - 41) % 8 = 3
  · rw [if_pos hk] at h
    rw [hk] at hO
    exact v_cU (idx := 115) (C := RX5) (x := yX7_pay) hC ⟨tt_at 680 (by decide +kernel) rfl, tt_at 521 (by decide +kernel) rfl, tiX7_pay, tt_at 530 (by decide +kernel) rfl, tiX5_pay, tnX5_pay, tcX5_pay, ⟨_, _, _, tcX7_pay⟩, tmX7_pay⟩ hO rfl (c_X5_pay hS h) (by omega) (by decide) hd rfl rfl hw h2 k
  rw [if_neg hk] at h
  by_cases hk : (o - 41) % 8 = 4
  · rw [if_pos hk] at h
    rw [hk] at hO
    exact v_cU (idx := 115) (C := RX6) (x := yX7_pay) hC ⟨tt_at 680 (by decide +kernel) rfl, tt_at 521 (by decide +kernel) rfl, tiX7_pay, tt_at 533 (by decide +kernel) rfl, tiX6_pay, tnX6_pay, tcX6_pay, ⟨_, _, _, tcX7_pay⟩, tmX7_pay⟩ hO rfl (c_X6_pay hS h) (by omega) (by decide) hd rfl rfl hw h2 k
  rw [if_neg hk] at h
  by_cases hk : (o - 41) % 8 = 5
  · rw [if_pos hk] at h
    rw [hk] at hO
    exact v_cU (idx := 115) (C := RX2) (x := yX7_pay) hC ⟨tt_at 680 (by decide +kernel) rfl, tt_at 521 (by decide +kernel) rfl, tiX7_pay, tt_at 529 (by decide +kernel) rfl, tiX1_pay, tnX1_pay, tcX1_pay, ⟨_, _, _, tcX7_pay⟩, tmX7_pay⟩ hO rfl (c_X1_pay hS h) (by omega) (by decide) hd rfl rfl hw h2 k
  rw [if_neg hk] at h
  by_cases hk : (o - 41) % 8 = 6
  · rw [if_pos hk] at h
    rw [hk] at hO
    exact v_cU (idx := 115) (C := RX9) (x := yX7_pay) hC ⟨tt_at 680 (by decide +kernel) rfl, tt_at 521 (by decide +kernel) rfl, tiX7_pay, tt_at 537 (by decide +kernel) rfl, tiX9_pay, tnX9_pay, tcX9_pay, ⟨_, _, _, tcX7_pay⟩, tmX7_pay⟩ hO rfl (c_X9_pay hS h) (by omega) (by decide) hd rfl rfl hw h2 k
  rw [if_neg hk] at h
  have hk : (o - 41) % 8 = 7 := by omega
  rw [hk] at hO
  exact v_cU (idx := 115) (C := RX10) (x := yX7_pay) hC ⟨tt_at 680 (by decide +kernel) rfl, tt_at 521 (by decide +kernel) rfl, tiX7_pay, tt_at 541 (by decide +kernel) rfl, tiX5_pay, tnX5_pay, tcX5_pay, ⟨_, _, _, tcX7_pay⟩, tmX7_pay⟩ hO rfl (c_X5_pay hS h) (by omega) (by decide) hd rfl rfl hw h2 k
theorem kX11_pay {G : Gl} {lv nL : Nat} {X : Cx} {ro : Option Value × Mem} {σ σ1 : Mem} {ls : List (Nat × Value)} {st rest st2 : List Value} {pc : Nat} {cc : ByteArray} {ret : Option FieldType} (hC : Ok G lv nL X cc RX11 ret) {o : Nat} {x1 : Int32} {v : Int32} (h : p_K_pay o x1 σ = some (v, σ1)) (hlv : 3 + 1 ≤ lv) (hd : decode cc pc = .ok (.invokevirtual 98, 3)) (hst : st = .int x1 :: .ref (ga G o) :: rest) (hw : (rest.map fun v => v.category).sum ≤ 8) (h2 : .int v :: rest = st2) (k : V G lv nL X ro σ1 ls st2 (pc + 3)) : V G lv nL X ro σ ls st pc := by
  subst hst
  unfold p_K_pay at h
  have hS : isSailor o := by
    by_cases hq : o < 41 ∨ 64 < o
    · rw [if_pos hq] at h
      cases h
    · exact ⟨by omega, by omega⟩
  rw [if_neg (by have := hS.1; have := hS.2; omega)] at h
  have hO := isO_S (G := G) hS
  have hm : (o - 41) % 8 < 8 := Nat.mod_lt _ (by decide)
  by_cases hk : (o - 41) % 8 = 0
  · rw [if_pos hk] at h
    rw [hk] at hO
    exact v_cU (idx := 98) (C := RX7) (x := yX7_pay) hC ⟨tt_at 518 (by decide +kernel) rfl, tt_at 521 (by decide +kernel) rfl, tiX7_pay, tt_at 520 (by decide +kernel) rfl, tiX7_pay, tnX7_pay, tcX7_pay, ⟨_, _, _, tcX7_pay⟩, tmX7_pay⟩ hO rfl (c_X7_pay hS h) (by omega) (by decide) hd rfl rfl hw h2 k
  rw [if_neg hk] at h
  by_cases hk : (o - 41) % 8 = 1
  · rw [if_pos hk] at h
    rw [hk] at hO
    exact v_cU (idx := 98) (C := RX0) (x := yX7_pay) hC ⟨tt_at 518 (by decide +kernel) rfl, tt_at 521 (by decide +kernel) rfl, tiX7_pay, tt_at 522 (by decide +kernel) rfl, tiX0_pay, tnX0_pay, tcX0_pay, ⟨_, _, _, tcX7_pay⟩, tmX7_pay⟩ hO rfl (c_X0_pay hS h) (by omega) (by decide) hd rfl rfl hw h2 k
  rw [if_neg hk] at h
  by_cases hk : (o - 41) % 8 = 2
  · rw [if_pos hk] at h
    rw [hk] at hO
    exact v_cU (idx := 98) (C := RX1) (x := yX7_pay) hC ⟨tt_at 518 (by decide +kernel) rfl, tt_at 521 (by decide +kernel) rfl, tiX7_pay, tt_at 526 (by decide +kernel) rfl, tiX1_pay, tnX1_pay, tcX1_pay, ⟨_, _, _, tcX7_pay⟩, tmX7_pay⟩ hO rfl (c_X1_pay hS h) (by omega) (by decide) hd rfl rfl hw h2 k
  rw [if_neg hk] at h
  by_cases hk : (o - 41) % 8 = 3
  · rw [if_pos hk] at h
    rw [hk] at hO
    exact v_cU (idx := 98) (C := RX5) (x := yX7_pay) hC ⟨tt_at 518 (by decide +kernel) rfl, tt_at 521 (by decide +kernel) rfl, tiX7_pay, tt_at 530 (by decide +kernel) rfl, tiX5_pay, tnX5_pay, tcX5_pay, ⟨_, _, _, tcX7_pay⟩, tmX7_pay⟩ hO rfl (c_X5_pay hS h) (by omega) (by decide) hd rfl rfl hw h2 k
  rw [if_neg hk] at h
  by_cases hk : (o - 41) % 8 = 4
  · rw [if_pos hk] at h
    rw [hk] at hO
    exact v_cU (idx := 98) (C := RX6) (x := yX7_pay) hC ⟨tt_at 518 (by decide +kernel) rfl, tt_at 521 (by decide +kernel) rfl, tiX7_pay, tt_at 533 (by decide +kernel) rfl, tiX6_pay, tnX6_pay, tcX6_pay, ⟨_, _, _, tcX7_pay⟩, tmX7_pay⟩ hO rfl (c_X6_pay hS h) (by omega) (by decide) hd rfl rfl hw h2 k
  rw [if_neg hk] at h
  by_cases hk : (o - 41) % 8 = 5
  · rw [if_pos hk] at h
    rw [hk] at hO
    exact v_cU (idx := 98) (C := RX2) (x := yX7_pay) hC ⟨tt_at 518 (by decide +kernel) rfl, tt_at 521 (by decide +kernel) rfl, tiX7_pay, tt_at 529 (by decide +kernel) rfl, tiX1_pay, tnX1_pay, tcX1_pay, ⟨_, _, _, tcX7_pay⟩, tmX7_pay⟩ hO rfl (c_X1_pay hS h) (by omega) (by decide) hd rfl rfl hw h2 k
  rw [if_neg hk] at h
  by_cases hk : (o - 41) % 8 = 6
  · rw [if_pos hk] at h
    rw [hk] at hO
    exact v_cU (idx := 98) (C := RX9) (x := yX7_pay) hC ⟨tt_at 518 (by decide +kernel) rfl, tt_at 521 (by decide +kernel) rfl, tiX7_pay, tt_at 537 (by decide +kernel) rfl, tiX9_pay, tnX9_pay, tcX9_pay, ⟨_, _, _, tcX7_pay⟩, tmX7_pay⟩ hO rfl (c_X9_pay hS h) (by omega) (by decide) hd rfl rfl hw h2 k
  rw [if_neg hk] at h
  have hk : (o - 41) % 8 = 7 := by omega
  rw [hk] at hO
  exact v_cU (idx := 98) (C := RX10) (x := yX7_pay) hC ⟨tt_at 518 (by decide +kernel) rfl, tt_at 521 (by decide +kernel) rfl, tiX7_pay, tt_at 541 (by decide +kernel) rfl, tiX5_pay, tnX5_pay, tcX5_pay, ⟨_, _, _, tcX7_pay⟩, tmX7_pay⟩ hO rfl (c_X5_pay hS h) (by omega) (by decide) hd rfl rfl hw h2 k

def p_X11_within (x0 : Int32) (x1 : Int32) (x2 : Int32) (σ : Mem) : Option (Int32 × Mem) := (if x0 < x1 then some ((0 : Int32), σ) else (if x2 < x0 then some ((0 : Int32), σ) else some ((1 : Int32), σ)))
set_option maxHeartbeats 4000000 in
set_option maxRecDepth 100000 in
theorem c_X11_within {G : Gl} {x0 : Int32} {x1 : Int32} {x2 : Int32} {σ : Mem} {res : Int32 × Mem}  (h : p_X11_within x0 x1 x2 σ = some res) : MetX G yX11_within cX11_within 3 (some .boolean) 1 [.int x0, .int x1, .int x2] σ (some (.int res.1)) res.2 := by
  refine met_V (by decide +kernel) (Nat.le_of_ble_eq_true rfl) (fun X hC => ?_)
  have hC : Ok G 1 3 X cX11_within RX11 (some .boolean) := hC
  unfold p_X11_within at h
  show V G 1 3 X ((some (.int res.1)), res.2) σ [(0, .int x0), (1, .int x1), (2, .int x2)] [] 0
  refine v_blk hC (is := [(.iload_n 0, 0), (.iload_n 1, 0)]) (pc' := 2) (ls' := [(0, .int x0), (1, .int x1), (2, .int x2)]) (st' := [.int x1, .int x0]) (by decide +kernel) rfl ?_
  refine v_icmp_lt hC (off := 12) (tgt := 14) (by decide +kernel) (by decide) h (fun hq h => ?_) (fun hq h => ?_)
  · refine v_blk hC (is := [(.iconst 0, (0 : Int32))]) (pc' := 15) (ls' := [(0, .int x0), (1, .int x1), (2, .int x2)]) (st' := [.int (0 : Int32)]) (by decide +kernel) rfl ?_
    exact v_zret hC rfl h (by decide +kernel)
  · refine v_blk hC (is := [(.iload_n 0, 0), (.iload_n 2, 0)]) (pc' := 7) (ls' := [(0, .int x0), (1, .int x1), (2, .int x2)]) (st' := [.int x2, .int x0]) (by decide +kernel) rfl ?_
    refine v_icmp_gt hC (off := 7) (tgt := 14) (by decide +kernel) (by decide) h (fun hq h => ?_) (fun hq h => ?_)
    · refine v_blk hC (is := [(.iconst 0, (0 : Int32))]) (pc' := 15) (ls' := [(0, .int x0), (1, .int x1), (2, .int x2)]) (st' := [.int (0 : Int32)]) (by decide +kernel) rfl ?_
      exact v_zret hC rfl h (by decide +kernel)
    · refine v_blk hC (is := [(.iconst 1, (1 : Int32))]) (pc' := 11) (ls' := [(0, .int x0), (1, .int x1), (2, .int x2)]) (st' := [.int (1 : Int32)]) (by decide +kernel) rfl ?_
      refine v_goto hC (off := 4) (tgt := 15) (by decide +kernel) (by decide) ?_
      exact v_zret hC rfl h (by decide +kernel)

def p_X11_isKind (x0 : Int32) (σ : Mem) : Option (Int32 × Mem) := (bnd (p_X11_within x0 (0 : Int32) (7 : Int32) σ) fun v1 s2 => rz v1 s2)
set_option maxHeartbeats 4000000 in
set_option maxRecDepth 100000 in
theorem c_X11_isKind {G : Gl} {x0 : Int32} {σ : Mem} {res : Int32 × Mem}  (h : p_X11_isKind x0 σ = some res) : MetX G yX11_isKind cX11_isKind 1 (some .boolean) 2 [.int x0] σ (some (.int res.1)) res.2 := by
  refine met_V (by decide +kernel) (Nat.le_of_ble_eq_true rfl) (fun X hC => ?_)
  have hC : Ok G 2 1 X cX11_isKind RX11 (some .boolean) := hC
  unfold p_X11_isKind at h
  show V G 2 1 X ((some (.int res.1)), res.2) σ [(0, .int x0)] [] 0
  refine v_blk hC (is := [(.iload_n 0, 0), (.iconst 0, (0 : Int32)), (.bipush 7, (7 : Int32))]) (pc' := 4) (ls' := [(0, .int x0)]) (st' := [.int (7 : Int32), .int (0 : Int32), .int x0]) (by decide +kernel) rfl ?_
  obtain ⟨v1, s2, e3, h⟩ := bndI h
  refine v_cS (idx := 168) hC ⟨tt_at 300 (by decide +kernel) rfl, tsX11_within, tnX11_within, tcX11_within, tmX11_within⟩ (c_X11_within e3) (by decide) (by decide) (by decide +kernel) (rest := []) rfl rfl (Nat.le_of_ble_eq_true rfl) rfl ?_
  exact v_zretC hC h (by decide +kernel)

def p_X11_isBoat (x0 : Int32) (σ : Mem) : Option (Int32 × Mem) := (bnd (p_X11_within x0 (0 : Int32) (2 : Int32) σ) fun v1 s2 => rz v1 s2)
set_option maxHeartbeats 4000000 in
set_option maxRecDepth 100000 in
theorem c_X11_isBoat {G : Gl} {x0 : Int32} {σ : Mem} {res : Int32 × Mem}  (h : p_X11_isBoat x0 σ = some res) : MetX G yX11_isBoat cX11_isBoat 1 (some .boolean) 2 [.int x0] σ (some (.int res.1)) res.2 := by
  refine met_V (by decide +kernel) (Nat.le_of_ble_eq_true rfl) (fun X hC => ?_)
  have hC : Ok G 2 1 X cX11_isBoat RX11 (some .boolean) := hC
  unfold p_X11_isBoat at h
  show V G 2 1 X ((some (.int res.1)), res.2) σ [(0, .int x0)] [] 0
  refine v_blk hC (is := [(.iload_n 0, 0), (.iconst 0, (0 : Int32)), (.iconst 2, (2 : Int32))]) (pc' := 3) (ls' := [(0, .int x0)]) (st' := [.int (2 : Int32), .int (0 : Int32), .int x0]) (by decide +kernel) rfl ?_
  obtain ⟨v1, s2, e3, h⟩ := bndI h
  refine v_cS (idx := 168) hC ⟨tt_at 300 (by decide +kernel) rfl, tsX11_within, tnX11_within, tcX11_within, tmX11_within⟩ (c_X11_within e3) (by decide) (by decide) (by decide +kernel) (rest := []) rfl rfl (Nat.le_of_ble_eq_true rfl) rfl ?_
  exact v_zretC hC h (by decide +kernel)

def p_X5_risk (o : Nat) (x1 : Int32) (x2 : Int32) (σ : Mem) : Option (Int32 × Mem) := some ((0 : Int32), σ)
set_option maxHeartbeats 4000000 in
set_option maxRecDepth 100000 in
theorem c_X5_risk {G : Gl} {o : Nat} {x1 : Int32} {x2 : Int32} {σ : Mem} {res : Int32 × Mem} (ho : isSailor o) (h : p_X5_risk o x1 x2 σ = some res) : MetX G yX5_risk cX5_risk 3 (some .int) 1 [.ref (ga G o), .int x1, .int x2] σ (some (.int res.1)) res.2 := by
  refine met_V (by decide +kernel) (Nat.le_of_ble_eq_true rfl) (fun X hC => ?_)
  have hC : Ok G 1 3 X cX5_risk RX5 (some .int) := hC
  unfold p_X5_risk at h
  show V G 1 3 X ((some (.int res.1)), res.2) σ [(0, .ref (ga G o)), (1, .int x1), (2, .int x2)] [] 0
  refine v_blk hC (is := [(.iconst 0, (0 : Int32))]) (pc' := 1) (ls' := [(0, .ref (ga G o)), (1, .int x1), (2, .int x2)]) (st' := [.int (0 : Int32)]) (by decide +kernel) rfl ?_
  exact v_iret hC h (by decide +kernel)

def p_X6_risk (o : Nat) (x1 : Int32) (x2 : Int32) (σ : Mem) : Option (Int32 × Mem) := some ((1 : Int32), σ)
set_option maxHeartbeats 4000000 in
set_option maxRecDepth 100000 in
theorem c_X6_risk {G : Gl} {o : Nat} {x1 : Int32} {x2 : Int32} {σ : Mem} {res : Int32 × Mem} (ho : isSailor o) (h : p_X6_risk o x1 x2 σ = some res) : MetX G yX6_risk cX6_risk 3 (some .int) 1 [.ref (ga G o), .int x1, .int x2] σ (some (.int res.1)) res.2 := by
  refine met_V (by decide +kernel) (Nat.le_of_ble_eq_true rfl) (fun X hC => ?_)
  have hC : Ok G 1 3 X cX6_risk RX6 (some .int) := hC
  unfold p_X6_risk at h
  show V G 1 3 X ((some (.int res.1)), res.2) σ [(0, .ref (ga G o)), (1, .int x1), (2, .int x2)] [] 0
  refine v_blk hC (is := [(.iconst 1, (1 : Int32))]) (pc' := 1) (ls' := [(0, .ref (ga G o)), (1, .int x1), (2, .int x2)]) (st' := [.int (1 : Int32)]) (by decide +kernel) rfl ?_
  exact v_iret hC h (by decide +kernel)

def p_X9_risk (o : Nat) (x1 : Int32) (x2 : Int32) (σ : Mem) : Option (Int32 × Mem) := some (((x1 + x2) - (x1 + x2) / (10 : Int32) * (10 : Int32)), σ)
set_option maxHeartbeats 4000000 in
set_option maxRecDepth 100000 in
theorem c_X9_risk {G : Gl} {o : Nat} {x1 : Int32} {x2 : Int32} {σ : Mem} {res : Int32 × Mem} (ho : isSailor o) (h : p_X9_risk o x1 x2 σ = some res) : MetX G yX9_risk cX9_risk 3 (some .int) 1 [.ref (ga G o), .int x1, .int x2] σ (some (.int res.1)) res.2 := by
  refine met_V (by decide +kernel) (Nat.le_of_ble_eq_true rfl) (fun X hC => ?_)
  have hC : Ok G 1 3 X cX9_risk RX9 (some .int) := hC
  unfold p_X9_risk at h
  show V G 1 3 X ((some (.int res.1)), res.2) σ [(0, .ref (ga G o)), (1, .int x1), (2, .int x2)] [] 0
  refine v_blk hC (is := [(.iload_n 1, 0), (.iload_n 2, 0), (.iadd, 0), (.bipush 10, (10 : Int32))]) (pc' := 5) (ls' := [(0, .ref (ga G o)), (1, .int x1), (2, .int x2)]) (st' := [.int (10 : Int32), .int (x1 + x2)]) (by decide +kernel) rfl ?_
  refine v_irem hC (by decide +kernel) (by decide) ?_
  exact v_iret hC h (by decide +kernel)

def p_K_risk (o : Nat) (x1 : Int32) (x2 : Int32) (σ : Mem) : Option (Int32 × Mem) := if o < 41 ∨ 64 < o then none else if (o - 41) % 8 = 0 then p_X7_risk o x1 x2 σ else if (o - 41) % 8 = 1 then p_X0_risk o x1 x2 σ else if (o - 41) % 8 = 2 then p_X1_risk o x1 x2 σ else if (o - 41) % 8 = 3 then p_X5_risk o x1 x2 σ else if (o - 41) % 8 = 4 then p_X6_risk o x1 x2 σ else if (o - 41) % 8 = 5 then p_X2_risk o x1 x2 σ else if (o - 41) % 8 = 6 then p_X9_risk o x1 x2 σ else p_X5_risk o x1 x2 σ
theorem kX3_risk {G : Gl} {lv nL : Nat} {X : Cx} {ro : Option Value × Mem} {σ σ1 : Mem} {ls : List (Nat × Value)} {st rest st2 : List Value} {pc : Nat} {cc : ByteArray} {ret : Option FieldType} (hC : Ok G lv nL X cc RX3 ret) {o : Nat} {x1 : Int32} {x2 : Int32} {v : Int32} (h : p_K_risk o x1 x2 σ = some (v, σ1)) (hlv : 3 + 1 ≤ lv) (hd : decode cc pc = .ok (.invokevirtual 176, 3)) (hst : st = .int x2 :: .int x1 :: .ref (ga G o) :: rest) (hw : (rest.map fun v => v.category).sum ≤ 8) (h2 : .int v :: rest = st2) (k : V G lv nL X ro σ1 ls st2 (pc + 3)) : V G lv nL X ro σ ls st pc := by
  subst hst
  unfold p_K_risk at h
  have hS : isSailor o := by
    by_cases hq : o < 41 ∨ 64 < o
    · rw [if_pos hq] at h
      cases h
    · exact ⟨by omega, by omega⟩
  rw [if_neg (by have := hS.1; have := hS.2; omega)] at h
  have hO := isO_S (G := G) hS
  have hm : (o - 41) % 8 < 8 := Nat.mod_lt _ (by decide)
  by_cases hk : (o - 41) % 8 = 0
  · rw [if_pos hk] at h
    rw [hk] at hO
    exact v_cU (idx := 176) (C := RX7) (x := yX7_risk) hC ⟨tt_at 384 (by decide +kernel) rfl, tt_at 387 (by decide +kernel) rfl, tiX7_risk, tt_at 386 (by decide +kernel) rfl, tiX7_risk, tnX7_risk, tcX7_risk, ⟨_, _, _, tcX7_risk⟩, tmX7_risk⟩ hO rfl (c_X7_risk hS h) (by omega) (by decide) hd rfl rfl hw h2 k
  rw [if_neg hk] at h
  by_cases hk : (o - 41) % 8 = 1
  · rw [if_pos hk] at h
    rw [hk] at hO
    exact v_cU (idx := 176) (C := RX0) (x := yX7_risk) hC ⟨tt_at 384 (by decide +kernel) rfl, tt_at 387 (by decide +kernel) rfl, tiX7_risk, tt_at 388 (by decide +kernel) rfl, tiX0_risk, tnX0_risk, tcX0_risk, ⟨_, _, _, tcX7_risk⟩, tmX7_risk⟩ hO rfl (c_X0_risk hS h) (by omega) (by decide) hd rfl rfl hw h2 k
  rw [if_neg hk] at h
  by_cases hk : (o - 41) % 8 = 2
  · rw [if_pos hk] at h
    rw [hk] at hO
    exact v_cU (idx := 176) (C := RX1) (x := yX7_risk) hC ⟨tt_at 384 (by decide +kernel) rfl, tt_at 387 (by decide +kernel) rfl, tiX7_risk, tt_at 391 (by decide +kernel) rfl, tiX1_risk, tnX1_risk, tcX1_risk, ⟨_, _, _, tcX7_risk⟩, tmX7_risk⟩ hO rfl (c_X1_risk hS h) (by omega) (by decide) hd rfl rfl hw h2 k
  rw [if_neg hk] at h
  by_cases hk : (o - 41) % 8 = 3
  · rw [if_pos hk] at h
    rw [hk] at hO
    exact v_cU (idx := 176) (C := RX5) (x := yX7_risk) hC ⟨tt_at 384 (by decide +kernel) rfl, tt_at 387 (by decide +kernel) rfl, tiX7_risk, tt_at 399 (by decide +kernel) rfl, tiX5_risk, tnX5_risk, tcX5_risk, ⟨_, _, _, tcX7_risk⟩, tmX7_risk⟩ hO rfl (c_X5_risk hS h) (by omega) (by decide) hd rfl rfl hw h2 k
  rw [if_neg hk] at h
  by_cases hk : (o - 41) % 8 = 4
  · rw [if_pos hk] at h
    rw [hk] at hO
    exact v_cU (idx := 176) (C := RX6) (x := yX7_risk) hC ⟨tt_at 384 (by decide +kernel) rfl, tt_at 387 (by decide +kernel) rfl, tiX7_risk, tt_at 402 (by decide +kernel) rfl, tiX6_risk, tnX6_risk, tcX6_risk, ⟨_, _, _, tcX7_risk⟩, tmX7_risk⟩ hO rfl (c_X6_risk hS h) (by omega) (by decide) hd rfl rfl hw h2 k
  rw [if_neg hk] at h
  by_cases hk : (o - 41) % 8 = 5
  · rw [if_pos hk] at h
    rw [hk] at hO
    exact v_cU (idx := 176) (C := RX2) (x := yX7_risk) hC ⟨tt_at 384 (by decide +kernel) rfl, tt_at 387 (by decide +kernel) rfl, tiX7_risk, tt_at 395 (by decide +kernel) rfl, tiX2_risk, tnX2_risk, tcX2_risk, ⟨_, _, _, tcX7_risk⟩, tmX7_risk⟩ hO rfl (c_X2_risk hS h) (by omega) (by decide) hd rfl rfl hw h2 k
  rw [if_neg hk] at h
  by_cases hk : (o - 41) % 8 = 6
  · rw [if_pos hk] at h
    rw [hk] at hO
    exact v_cU (idx := 176) (C := RX9) (x := yX7_risk) hC ⟨tt_at 384 (by decide +kernel) rfl, tt_at 387 (by decide +kernel) rfl, tiX7_risk, tt_at 405 (by decide +kernel) rfl, tiX9_risk, tnX9_risk, tcX9_risk, ⟨_, _, _, tcX7_risk⟩, tmX7_risk⟩ hO rfl (c_X9_risk hS h) (by omega) (by decide) hd rfl rfl hw h2 k
  rw [if_neg hk] at h
  have hk : (o - 41) % 8 = 7 := by omega
  rw [hk] at hO
  exact v_cU (idx := 176) (C := RX10) (x := yX7_risk) hC ⟨tt_at 384 (by decide +kernel) rfl, tt_at 387 (by decide +kernel) rfl, tiX7_risk, tt_at 408 (by decide +kernel) rfl, tiX5_risk, tnX5_risk, tcX5_risk, ⟨_, _, _, tcX7_risk⟩, tmX7_risk⟩ hO rfl (c_X5_risk hS h) (by omega) (by decide) hd rfl rfl hw h2 k
theorem kX11_risk {G : Gl} {lv nL : Nat} {X : Cx} {ro : Option Value × Mem} {σ σ1 : Mem} {ls : List (Nat × Value)} {st rest st2 : List Value} {pc : Nat} {cc : ByteArray} {ret : Option FieldType} (hC : Ok G lv nL X cc RX11 ret) {o : Nat} {x1 : Int32} {x2 : Int32} {v : Int32} (h : p_K_risk o x1 x2 σ = some (v, σ1)) (hlv : 3 + 1 ≤ lv) (hd : decode cc pc = .ok (.invokevirtual 92, 3)) (hst : st = .int x2 :: .int x1 :: .ref (ga G o) :: rest) (hw : (rest.map fun v => v.category).sum ≤ 8) (h2 : .int v :: rest = st2) (k : V G lv nL X ro σ1 ls st2 (pc + 3)) : V G lv nL X ro σ ls st pc := by
  subst hst
  unfold p_K_risk at h
  have hS : isSailor o := by
    by_cases hq : o < 41 ∨ 64 < o
    · rw [if_pos hq] at h
      cases h
    · exact ⟨by omega, by omega⟩
  rw [if_neg (by have := hS.1; have := hS.2; omega)] at h
  have hO := isO_S (G := G) hS
  have hm : (o - 41) % 8 < 8 := Nat.mod_lt _ (by decide)
  by_cases hk : (o - 41) % 8 = 0
  · rw [if_pos hk] at h
    rw [hk] at hO
    exact v_cU (idx := 92) (C := RX7) (x := yX7_risk) hC ⟨tt_at 516 (by decide +kernel) rfl, tt_at 387 (by decide +kernel) rfl, tiX7_risk, tt_at 386 (by decide +kernel) rfl, tiX7_risk, tnX7_risk, tcX7_risk, ⟨_, _, _, tcX7_risk⟩, tmX7_risk⟩ hO rfl (c_X7_risk hS h) (by omega) (by decide) hd rfl rfl hw h2 k
  rw [if_neg hk] at h
  by_cases hk : (o - 41) % 8 = 1
  · rw [if_pos hk] at h
    rw [hk] at hO
    exact v_cU (idx := 92) (C := RX0) (x := yX7_risk) hC ⟨tt_at 516 (by decide +kernel) rfl, tt_at 387 (by decide +kernel) rfl, tiX7_risk, tt_at 388 (by decide +kernel) rfl, tiX0_risk, tnX0_risk, tcX0_risk, ⟨_, _, _, tcX7_risk⟩, tmX7_risk⟩ hO rfl (c_X0_risk hS h) (by omega) (by decide) hd rfl rfl hw h2 k
  rw [if_neg hk] at h
  by_cases hk : (o - 41) % 8 = 2
  · rw [if_pos hk] at h
    rw [hk] at hO
    exact v_cU (idx := 92) (C := RX1) (x := yX7_risk) hC ⟨tt_at 516 (by decide +kernel) rfl, tt_at 387 (by decide +kernel) rfl, tiX7_risk, tt_at 391 (by decide +kernel) rfl, tiX1_risk, tnX1_risk, tcX1_risk, ⟨_, _, _, tcX7_risk⟩, tmX7_risk⟩ hO rfl (c_X1_risk hS h) (by omega) (by decide) hd rfl rfl hw h2 k
  rw [if_neg hk] at h
  by_cases hk : (o - 41) % 8 = 3
  · rw [if_pos hk] at h
    rw [hk] at hO
    exact v_cU (idx := 92) (C := RX5) (x := yX7_risk) hC ⟨tt_at 516 (by decide +kernel) rfl, tt_at 387 (by decide +kernel) rfl, tiX7_risk, tt_at 399 (by decide +kernel) rfl, tiX5_risk, tnX5_risk, tcX5_risk, ⟨_, _, _, tcX7_risk⟩, tmX7_risk⟩ hO rfl (c_X5_risk hS h) (by omega) (by decide) hd rfl rfl hw h2 k
  rw [if_neg hk] at h
  by_cases hk : (o - 41) % 8 = 4
  · rw [if_pos hk] at h
    rw [hk] at hO
    exact v_cU (idx := 92) (C := RX6) (x := yX7_risk) hC ⟨tt_at 516 (by decide +kernel) rfl, tt_at 387 (by decide +kernel) rfl, tiX7_risk, tt_at 402 (by decide +kernel) rfl, tiX6_risk, tnX6_risk, tcX6_risk, ⟨_, _, _, tcX7_risk⟩, tmX7_risk⟩ hO rfl (c_X6_risk hS h) (by omega) (by decide) hd rfl rfl hw h2 k
  rw [if_neg hk] at h
  by_cases hk : (o - 41) % 8 = 5
  · rw [if_pos hk] at h
    rw [hk] at hO
    exact v_cU (idx := 92) (C := RX2) (x := yX7_risk) hC ⟨tt_at 516 (by decide +kernel) rfl, tt_at 387 (by decide +kernel) rfl, tiX7_risk, tt_at 395 (by decide +kernel) rfl, tiX2_risk, tnX2_risk, tcX2_risk, ⟨_, _, _, tcX7_risk⟩, tmX7_risk⟩ hO rfl (c_X2_risk hS h) (by omega) (by decide) hd rfl rfl hw h2 k
  rw [if_neg hk] at h
  by_cases hk : (o - 41) % 8 = 6
  · rw [if_pos hk] at h
    rw [hk] at hO
    exact v_cU (idx := 92) (C := RX9) (x := yX7_risk) hC ⟨tt_at 516 (by decide +kernel) rfl, tt_at 387 (by decide +kernel) rfl, tiX7_risk, tt_at 405 (by decide +kernel) rfl, tiX9_risk, tnX9_risk, tcX9_risk, ⟨_, _, _, tcX7_risk⟩, tmX7_risk⟩ hO rfl (c_X9_risk hS h) (by omega) (by decide) hd rfl rfl hw h2 k
  rw [if_neg hk] at h
  have hk : (o - 41) % 8 = 7 := by omega
  rw [hk] at hO
  exact v_cU (idx := 92) (C := RX10) (x := yX7_risk) hC ⟨tt_at 516 (by decide +kernel) rfl, tt_at 387 (by decide +kernel) rfl, tiX7_risk, tt_at 408 (by decide +kernel) rfl, tiX5_risk, tnX5_risk, tcX5_risk, ⟨_, _, _, tcX7_risk⟩, tmX7_risk⟩ hO rfl (c_X5_risk hS h) (by omega) (by decide) hd rfl rfl hw h2 k

def p_X5_reach (o : Nat) (x1 : Int32) (σ : Mem) : Option (Int32 × Mem) := some ((0 : Int32), σ)
set_option maxHeartbeats 4000000 in
set_option maxRecDepth 100000 in
theorem c_X5_reach {G : Gl} {o : Nat} {x1 : Int32} {σ : Mem} {res : Int32 × Mem} (ho : isSailor o) (h : p_X5_reach o x1 σ = some res) : MetX G yX5_reach cX5_reach 2 (some .int) 1 [.ref (ga G o), .int x1] σ (some (.int res.1)) res.2 := by
  refine met_V (by decide +kernel) (Nat.le_of_ble_eq_true rfl) (fun X hC => ?_)
  have hC : Ok G 1 2 X cX5_reach RX5 (some .int) := hC
  unfold p_X5_reach at h
  show V G 1 2 X ((some (.int res.1)), res.2) σ [(0, .ref (ga G o)), (1, .int x1)] [] 0
  refine v_blk hC (is := [(.iconst 0, (0 : Int32))]) (pc' := 1) (ls' := [(0, .ref (ga G o)), (1, .int x1)]) (st' := [.int (0 : Int32)]) (by decide +kernel) rfl ?_
  exact v_iret hC h (by decide +kernel)

def p_X6_reach (o : Nat) (x1 : Int32) (σ : Mem) : Option (Int32 × Mem) := (bnd (p_X0_reach o x1 σ) fun v1 s2 => some ((v1 - (1 : Int32)), s2))
set_option maxHeartbeats 4000000 in
set_option maxRecDepth 100000 in
theorem c_X6_reach {G : Gl} {o : Nat} {x1 : Int32} {σ : Mem} {res : Int32 × Mem} (ho : isSailor o) (h : p_X6_reach o x1 σ = some res) : MetX G yX6_reach cX6_reach 2 (some .int) 3 [.ref (ga G o), .int x1] σ (some (.int res.1)) res.2 := by
  refine met_V (by decide +kernel) (Nat.le_of_ble_eq_true rfl) (fun X hC => ?_)
  have hC : Ok G 3 2 X cX6_reach RX6 (some .int) := hC
  unfold p_X6_reach at h
  show V G 3 2 X ((some (.int res.1)), res.2) σ [(0, .ref (ga G o)), (1, .int x1)] [] 0
  refine v_blk hC (is := [(.aload_n 0, 0), (.iload_n 1, 0)]) (pc' := 2) (ls' := [(0, .ref (ga G o)), (1, .int x1)]) (st' := [.int x1, .ref (ga G o)]) (by decide +kernel) rfl ?_
  obtain ⟨v1, s2, e3, h⟩ := bndI h
  obtain ⟨C1, T1, hcl⟩ := cl_S ((o - 41) % 8)
  refine v_cSU (idx := 11) (n := 1) hC ⟨tt_at 435 (by decide +kernel) rfl, tt_at 1490 (by decide +kernel) rfl, tt_at 139 (by decide +kernel) rfl, tiX0_reach, tnX0_reach, tcX0_reach, ⟨by decide +kernel, tmX0_reach.2.2⟩⟩ (isO_S ho) hcl (c_X0_reach ho e3) (by decide) (by decide) (by decide +kernel) (rest := []) rfl rfl (Nat.le_of_ble_eq_true rfl) rfl ?_
  refine v_blk hC (is := [(.iconst 1, (1 : Int32)), (.isub, 0)]) (pc' := 7) (ls' := [(0, .ref (ga G o)), (1, .int x1)]) (st' := [.int (v1 - (1 : Int32))]) (by decide +kernel) rfl ?_
  exact v_iret hC h (by decide +kernel)

def p_X10_reach (o : Nat) (x1 : Int32) (σ : Mem) : Option (Int32 × Mem) := some ((9 : Int32), σ)
set_option maxHeartbeats 4000000 in
set_option maxRecDepth 100000 in
theorem c_X10_reach {G : Gl} {o : Nat} {x1 : Int32} {σ : Mem} {res : Int32 × Mem} (ho : isSailor o) (h : p_X10_reach o x1 σ = some res) : MetX G yX10_reach cX10_reach 2 (some .int) 1 [.ref (ga G o), .int x1] σ (some (.int res.1)) res.2 := by
  refine met_V (by decide +kernel) (Nat.le_of_ble_eq_true rfl) (fun X hC => ?_)
  have hC : Ok G 1 2 X cX10_reach RX10 (some .int) := hC
  unfold p_X10_reach at h
  show V G 1 2 X ((some (.int res.1)), res.2) σ [(0, .ref (ga G o)), (1, .int x1)] [] 0
  refine v_blk hC (is := [(.bipush 9, (9 : Int32))]) (pc' := 2) (ls' := [(0, .ref (ga G o)), (1, .int x1)]) (st' := [.int (9 : Int32)]) (by decide +kernel) rfl ?_
  exact v_iret hC h (by decide +kernel)

def p_K_reach (o : Nat) (x1 : Int32) (σ : Mem) : Option (Int32 × Mem) := if o < 41 ∨ 64 < o then none else if (o - 41) % 8 = 0 then p_X7_reach o x1 σ else if (o - 41) % 8 = 1 then p_X0_reach o x1 σ else if (o - 41) % 8 = 2 then p_X1_reach o x1 σ else if (o - 41) % 8 = 3 then p_X5_reach o x1 σ else if (o - 41) % 8 = 4 then p_X6_reach o x1 σ else if (o - 41) % 8 = 5 then p_X2_reach o x1 σ else if (o - 41) % 8 = 6 then p_X7_reach o x1 σ else p_X10_reach o x1 σ
theorem kX3_reach {G : Gl} {lv nL : Nat} {X : Cx} {ro : Option Value × Mem} {σ σ1 : Mem} {ls : List (Nat × Value)} {st rest st2 : List Value} {pc : Nat} {cc : ByteArray} {ret : Option FieldType} (hC : Ok G lv nL X cc RX3 ret) {o : Nat} {x1 : Int32} {v : Int32} (h : p_K_reach o x1 σ = some (v, σ1)) (hlv : 3 + 1 ≤ lv) (hd : decode cc pc = .ok (.invokevirtual 179, 3)) (hst : st = .int x1 :: .ref (ga G o) :: rest) (hw : (rest.map fun v => v.category).sum ≤ 8) (h2 : .int v :: rest = st2) (k : V G lv nL X ro σ1 ls st2 (pc + 3)) : V G lv nL X ro σ ls st pc := by
  subst hst
  unfold p_K_reach at h
  have hS : isSailor o := by
    by_cases hq : o < 41 ∨ 64 < o
    · rw [if_pos hq] at h
      cases h
    · exact ⟨by omega, by omega⟩
  rw [if_neg (by have := hS.1; have := hS.2; omega)] at h
  have hO := isO_S (G := G) hS
  have hm : (o - 41) % 8 < 8 := Nat.mod_lt _ (by decide)
  by_cases hk : (o - 41) % 8 = 0
  · rw [if_pos hk] at h
    rw [hk] at hO
    exact v_cU (idx := 179) (C := RX7) (x := yX7_reach) hC ⟨tt_at 414 (by decide +kernel) rfl, tt_at 417 (by decide +kernel) rfl, tiX7_reach, tt_at 416 (by decide +kernel) rfl, tiX7_reach, tnX7_reach, tcX7_reach, ⟨_, _, _, tcX7_reach⟩, tmX7_reach⟩ hO rfl (c_X7_reach hS h) (by omega) (by decide) hd rfl rfl hw h2 k
  rw [if_neg hk] at h
  by_cases hk : (o - 41) % 8 = 1
  · rw [if_pos hk] at h
    rw [hk] at hO
    exact v_cU (idx := 179) (C := RX0) (x := yX7_reach) hC ⟨tt_at 414 (by decide +kernel) rfl, tt_at 417 (by decide +kernel) rfl, tiX7_reach, tt_at 418 (by decide +kernel) rfl, tiX0_reach, tnX0_reach, tcX0_reach, ⟨_, _, _, tcX7_reach⟩, tmX7_reach⟩ hO rfl (c_X0_reach hS h) (by omega) (by decide) hd rfl rfl hw h2 k
  rw [if_neg hk] at h
  by_cases hk : (o - 41) % 8 = 2
  · rw [if_pos hk] at h
    rw [hk] at hO
    exact v_cU (idx := 179) (C := RX1) (x := yX7_reach) hC ⟨tt_at 414 (by decide +kernel) rfl, tt_at 417 (by decide +kernel) rfl, tiX7_reach, tt_at 422 (by decide +kernel) rfl, tiX1_reach, tnX1_reach, tcX1_reach, ⟨_, _, _, tcX7_reach⟩, tmX7_reach⟩ hO rfl (c_X1_reach hS h) (by omega) (by decide) hd rfl rfl hw h2 k
  rw [if_neg hk] at h
  by_cases hk : (o - 41) % 8 = 3
  · rw [if_pos hk] at h
    rw [hk] at hO
    exact v_cU (idx := 179) (C := RX5) (x := yX7_reach) hC ⟨tt_at 414 (by decide +kernel) rfl, tt_at 417 (by decide +kernel) rfl, tiX7_reach, tt_at 429 (by decide +kernel) rfl, tiX5_reach, tnX5_reach, tcX5_reach, ⟨_, _, _, tcX7_reach⟩, tmX7_reach⟩ hO rfl (c_X5_reach hS h) (by omega) (by decide) hd rfl rfl hw h2 k
  rw [if_neg hk] at h
  by_cases hk : (o - 41) % 8 = 4
  · rw [if_pos hk] at h
    rw [hk] at hO
    exact v_cU (idx := 179) (C := RX6) (x := yX7_reach) hC ⟨tt_at 414 (by decide +kernel) rfl, tt_at 417 (by decide +kernel) rfl, tiX7_reach, tt_at 432 (by decide +kernel) rfl, tiX6_reach, tnX6_reach, tcX6_reach, ⟨_, _, _, tcX7_reach⟩, tmX7_reach⟩ hO rfl (c_X6_reach hS h) (by omega) (by decide) hd rfl rfl hw h2 k
  rw [if_neg hk] at h
  by_cases hk : (o - 41) % 8 = 5
  · rw [if_pos hk] at h
    rw [hk] at hO
    exact v_cU (idx := 179) (C := RX2) (x := yX7_reach) hC ⟨tt_at 414 (by decide +kernel) rfl, tt_at 417 (by decide +kernel) rfl, tiX7_reach, tt_at 425 (by decide +kernel) rfl, tiX2_reach, tnX2_reach, tcX2_reach, ⟨_, _, _, tcX7_reach⟩, tmX7_reach⟩ hO rfl (c_X2_reach hS h) (by omega) (by decide) hd rfl rfl hw h2 k
  rw [if_neg hk] at h
  by_cases hk : (o - 41) % 8 = 6
  · rw [if_pos hk] at h
    rw [hk] at hO
    exact v_cU (idx := 179) (C := RX9) (x := yX7_reach) hC ⟨tt_at 414 (by decide +kernel) rfl, tt_at 417 (by decide +kernel) rfl, tiX7_reach, tt_at 436 (by decide +kernel) rfl, tiX7_reach, tnX7_reach, tcX7_reach, ⟨_, _, _, tcX7_reach⟩, tmX7_reach⟩ hO rfl (c_X7_reach hS h) (by omega) (by decide) hd rfl rfl hw h2 k
  rw [if_neg hk] at h
  have hk : (o - 41) % 8 = 7 := by omega
  rw [hk] at hO
  exact v_cU (idx := 179) (C := RX10) (x := yX7_reach) hC ⟨tt_at 414 (by decide +kernel) rfl, tt_at 417 (by decide +kernel) rfl, tiX7_reach, tt_at 437 (by decide +kernel) rfl, tiX10_reach, tnX10_reach, tcX10_reach, ⟨_, _, _, tcX7_reach⟩, tmX7_reach⟩ hO rfl (c_X10_reach hS h) (by omega) (by decide) hd rfl rfl hw h2 k
theorem kX11_reach {G : Gl} {lv nL : Nat} {X : Cx} {ro : Option Value × Mem} {σ σ1 : Mem} {ls : List (Nat × Value)} {st rest st2 : List Value} {pc : Nat} {cc : ByteArray} {ret : Option FieldType} (hC : Ok G lv nL X cc RX11 ret) {o : Nat} {x1 : Int32} {v : Int32} (h : p_K_reach o x1 σ = some (v, σ1)) (hlv : 3 + 1 ≤ lv) (hd : decode cc pc = .ok (.invokevirtual 95, 3)) (hst : st = .int x1 :: .ref (ga G o) :: rest) (hw : (rest.map fun v => v.category).sum ≤ 8) (h2 : .int v :: rest = st2) (k : V G lv nL X ro σ1 ls st2 (pc + 3)) : V G lv nL X ro σ ls st pc := by
  subst hst
  unfold p_K_reach at h
  have hS : isSailor o := by
    by_cases hq : o < 41 ∨ 64 < o
    · rw [if_pos hq] at h
      cases h
    · exact ⟨by omega, by omega⟩
  rw [if_neg (by have := hS.1; have := hS.2; omega)] at h
  have hO := isO_S (G := G) hS
  have hm : (o - 41) % 8 < 8 := Nat.mod_lt _ (by decide)
  by_cases hk : (o - 41) % 8 = 0
  · rw [if_pos hk] at h
    rw [hk] at hO
    exact v_cU (idx := 95) (C := RX7) (x := yX7_reach) hC ⟨tt_at 517 (by decide +kernel) rfl, tt_at 417 (by decide +kernel) rfl, tiX7_reach, tt_at 416 (by decide +kernel) rfl, tiX7_reach, tnX7_reach, tcX7_reach, ⟨_, _, _, tcX7_reach⟩, tmX7_reach⟩ hO rfl (c_X7_reach hS h) (by omega) (by decide) hd rfl rfl hw h2 k
  rw [if_neg hk] at h
  by_cases hk : (o - 41) % 8 = 1
  · rw [if_pos hk] at h
    rw [hk] at hO
    exact v_cU (idx := 95) (C := RX0) (x := yX7_reach) hC ⟨tt_at 517 (by decide +kernel) rfl, tt_at 417 (by decide +kernel) rfl, tiX7_reach, tt_at 418 (by decide +kernel) rfl, tiX0_reach, tnX0_reach, tcX0_reach, ⟨_, _, _, tcX7_reach⟩, tmX7_reach⟩ hO rfl (c_X0_reach hS h) (by omega) (by decide) hd rfl rfl hw h2 k
  rw [if_neg hk] at h
  by_cases hk : (o - 41) % 8 = 2
  · rw [if_pos hk] at h
    rw [hk] at hO
    exact v_cU (idx := 95) (C := RX1) (x := yX7_reach) hC ⟨tt_at 517 (by decide +kernel) rfl, tt_at 417 (by decide +kernel) rfl, tiX7_reach, tt_at 422 (by decide +kernel) rfl, tiX1_reach, tnX1_reach, tcX1_reach, ⟨_, _, _, tcX7_reach⟩, tmX7_reach⟩ hO rfl (c_X1_reach hS h) (by omega) (by decide) hd rfl rfl hw h2 k
  rw [if_neg hk] at h
  by_cases hk : (o - 41) % 8 = 3
  · rw [if_pos hk] at h
    rw [hk] at hO
    exact v_cU (idx := 95) (C := RX5) (x := yX7_reach) hC ⟨tt_at 517 (by decide +kernel) rfl, tt_at 417 (by decide +kernel) rfl, tiX7_reach, tt_at 429 (by decide +kernel) rfl, tiX5_reach, tnX5_reach, tcX5_reach, ⟨_, _, _, tcX7_reach⟩, tmX7_reach⟩ hO rfl (c_X5_reach hS h) (by omega) (by decide) hd rfl rfl hw h2 k
  rw [if_neg hk] at h
  by_cases hk : (o - 41) % 8 = 4
  · rw [if_pos hk] at h
    rw [hk] at hO
    exact v_cU (idx := 95) (C := RX6) (x := yX7_reach) hC ⟨tt_at 517 (by decide +kernel) rfl, tt_at 417 (by decide +kernel) rfl, tiX7_reach, tt_at 432 (by decide +kernel) rfl, tiX6_reach, tnX6_reach, tcX6_reach, ⟨_, _, _, tcX7_reach⟩, tmX7_reach⟩ hO rfl (c_X6_reach hS h) (by omega) (by decide) hd rfl rfl hw h2 k
  rw [if_neg hk] at h
  by_cases hk : (o - 41) % 8 = 5
  · rw [if_pos hk] at h
    rw [hk] at hO
    exact v_cU (idx := 95) (C := RX2) (x := yX7_reach) hC ⟨tt_at 517 (by decide +kernel) rfl, tt_at 417 (by decide +kernel) rfl, tiX7_reach, tt_at 425 (by decide +kernel) rfl, tiX2_reach, tnX2_reach, tcX2_reach, ⟨_, _, _, tcX7_reach⟩, tmX7_reach⟩ hO rfl (c_X2_reach hS h) (by omega) (by decide) hd rfl rfl hw h2 k
  rw [if_neg hk] at h
  by_cases hk : (o - 41) % 8 = 6
  · rw [if_pos hk] at h
    rw [hk] at hO
    exact v_cU (idx := 95) (C := RX9) (x := yX7_reach) hC ⟨tt_at 517 (by decide +kernel) rfl, tt_at 417 (by decide +kernel) rfl, tiX7_reach, tt_at 436 (by decide +kernel) rfl, tiX7_reach, tnX7_reach, tcX7_reach, ⟨_, _, _, tcX7_reach⟩, tmX7_reach⟩ hO rfl (c_X7_reach hS h) (by omega) (by decide) hd rfl rfl hw h2 k
  rw [if_neg hk] at h
  have hk : (o - 41) % 8 = 7 := by omega
  rw [hk] at hO
  exact v_cU (idx := 95) (C := RX10) (x := yX7_reach) hC ⟨tt_at 517 (by decide +kernel) rfl, tt_at 417 (by decide +kernel) rfl, tiX7_reach, tt_at 437 (by decide +kernel) rfl, tiX10_reach, tnX10_reach, tcX10_reach, ⟨_, _, _, tcX7_reach⟩, tmX7_reach⟩ hO rfl (c_X10_reach hS h) (by omega) (by decide) hd rfl rfl hw h2 k

def p_J7_fill_53178_B5 (k5 : Int32 → Int32 → Mem → Option (Unit × Mem)) (x0 : Nat) (x1 : Int32) (x2 : Int32) (x3 : Int32) (σ : Mem) : Option (Unit × Mem) := (if x3 ≤ x2 then some ((), σ) else (if x2 < 0 ∨ alen x0 ≤ (x2).toNatClampNeg then none else wr σ x0 (x2).toNatClampNeg x1 fun s1 => k5 (x2 + (1 : Int32)) x3 s1))
def p_J7_fill_53178_L5  (x0 : Nat) (x1 : Int32) : Nat → Int32 → Int32 → Mem → Option (Unit × Mem)
  | 0 => fun _ _ _ => none
  | f + 1 => p_J7_fill_53178_B5 (p_J7_fill_53178_L5 x0 x1 f) x0 x1
def p_J7_fill_53178 (x0 : Nat) (x1 : Int32) (σ : Mem) : Option (Unit × Mem) := (p_J7_fill_53178_L5 x0 x1 1000) (0 : Int32) (nI (alen x0)) σ
set_option maxHeartbeats 4000000 in
set_option maxRecDepth 100000 in
theorem c_J7_fill_53178 {G : Gl} {x0 : Nat} {x1 : Int32} {σ : Mem} {res : Unit × Mem} (hx0 : isA G x0) (h : p_J7_fill_53178 x0 x1 σ = some res) : MetX G yJ7_fill_53178 cJ7_fill_53178 4 none 1 [.ref (ga G x0), .int x1] σ none res.2 := by
  refine met_V (by decide +kernel) (Nat.le_of_ble_eq_true rfl) (fun X hC => ?_)
  have hC : Ok G 1 4 X cJ7_fill_53178 RJ7 none := hC
  have hB5 : ∀ (k5 : Int32 → Int32 → Mem → Option (Unit × Mem)), (∀ (x2 : Int32), ∀ (x3 : Int32), ∀ σ : Mem, k5 x2 x3 σ = some res → V G 1 4 X (none, res.2) σ [(0, .ref (ga G x0)), (1, .int x1), (2, .int x2), (3, .int x3)] [] 5) → ∀ (x2 : Int32), ∀ (x3 : Int32), ∀ σ : Mem, p_J7_fill_53178_B5 k5 x0 x1 x2 x3 σ = some res → V G 1 4 X (none, res.2) σ [(0, .ref (ga G x0)), (1, .int x1), (2, .int x2), (3, .int x3)] [] 5 := by
    intro k5 hk5 x2 x3 σ h
    unfold p_J7_fill_53178_B5 at h
    refine v_blk hC (is := [(.iload_n 2, 0), (.iload_n 3, 0)]) (pc' := 7) (ls' := [(0, .ref (ga G x0)), (1, .int x1), (2, .int x2), (3, .int x3)]) (st' := [.int x3, .int x2]) (by decide +kernel) rfl ?_
    refine v_icmp_ge hC (off := 13) (tgt := 20) (by decide +kernel) (by decide) h (fun hq h => ?_) (fun hq h => ?_)
    · exact v_vret hC h (by decide +kernel)
    · refine v_blk hC (is := [(.aload_n 0, 0), (.iload_n 2, 0), (.iload_n 1, 0)]) (pc' := 13) (ls' := [(0, .ref (ga G x0)), (1, .int x1), (2, .int x2), (3, .int x3)]) (st' := [.int x1, .int x2, .ref (ga G x0)]) (by decide +kernel) rfl ?_
      refine v_iast hC hx0 rfl (by decide +kernel) h (fun s1 h => ?_)
      refine v_blk hC (is := [(.iinc 2 1, (1 : Int32))]) (pc' := 17) (ls' := [(2, .int (x2 + (1 : Int32))), (0, .ref (ga G x0)), (1, .int x1), (3, .int x3)]) (st' := []) (by decide +kernel) rfl ?_
      refine v_goto hC (off := (-12)) (tgt := 5) (by decide +kernel) (by decide) ?_
      refine v_sub [1, 2, 0, 3] (ls' := [(0, .ref (ga G x0)), (1, .int x1), (2, .int (x2 + (1 : Int32))), (3, .int x3)]) rfl ?_
      exact hk5 _ _ _ h
  have hL5 : ∀ f : Nat, ∀ (x2 : Int32), ∀ (x3 : Int32), ∀ σ : Mem, p_J7_fill_53178_L5 x0 x1 f x2 x3 σ = some res → V G 1 4 X (none, res.2) σ [(0, .ref (ga G x0)), (1, .int x1), (2, .int x2), (3, .int x3)] [] 5 := by
    intro  f
    induction f with
    | zero => intro x2 x3 σ h; exact none_some h
    | succ f ih => intro x2 x3 σ h; exact hB5 (p_J7_fill_53178_L5 x0 x1 f)  ih  x2 x3 σ h
  unfold p_J7_fill_53178 at h
  show V G 1 4 X (none, res.2) σ [(0, .ref (ga G x0)), (1, .int x1)] [] 0
  refine v_blk hC (is := [(.iconst 0, (0 : Int32)), (.istore_n 2, 0), (.aload_n 0, 0)]) (pc' := 3) (ls' := [(2, .int (0 : Int32)), (0, .ref (ga G x0)), (1, .int x1)]) (st' := [.ref (ga G x0)]) (by decide +kernel) rfl ?_
  refine v_alen hC hx0 (by decide +kernel) ?_
  refine v_blk hC (is := [(.istore_n 3, 0)]) (pc' := 5) (ls' := [(3, .int (nI (alen x0))), (2, .int (0 : Int32)), (0, .ref (ga G x0)), (1, .int x1)]) (st' := []) (by decide +kernel) rfl ?_
  refine v_sub [2, 3, 1, 0] (ls' := [(0, .ref (ga G x0)), (1, .int x1), (2, .int (0 : Int32)), (3, .int (nI (alen x0)))]) rfl ?_
  exact (hL5 1000) _ _ _ h

def p_X5_price (o : Nat) (x1 : Int32) (σ : Mem) : Option (Int32 × Mem) := some ((9 : Int32), σ)
set_option maxHeartbeats 4000000 in
set_option maxRecDepth 100000 in
theorem c_X5_price {G : Gl} {o : Nat} {x1 : Int32} {σ : Mem} {res : Int32 × Mem} (ho : isSailor o) (h : p_X5_price o x1 σ = some res) : MetX G yX5_price cX5_price 2 (some .int) 1 [.ref (ga G o), .int x1] σ (some (.int res.1)) res.2 := by
  refine met_V (by decide +kernel) (Nat.le_of_ble_eq_true rfl) (fun X hC => ?_)
  have hC : Ok G 1 2 X cX5_price RX5 (some .int) := hC
  unfold p_X5_price at h
  show V G 1 2 X ((some (.int res.1)), res.2) σ [(0, .ref (ga G o)), (1, .int x1)] [] 0
  refine v_blk hC (is := [(.bipush 9, (9 : Int32))]) (pc' := 2) (ls' := [(0, .ref (ga G o)), (1, .int x1)]) (st' := [.int (9 : Int32)]) (by decide +kernel) rfl ?_
  exact v_iret hC h (by decide +kernel)

def p_X6_price (o : Nat) (x1 : Int32) (σ : Mem) : Option (Int32 × Mem) := (bnd (p_X0_price o x1 σ) fun v1 s2 => some ((v1 * (2 : Int32)), s2))
set_option maxHeartbeats 4000000 in
set_option maxRecDepth 100000 in
theorem c_X6_price {G : Gl} {o : Nat} {x1 : Int32} {σ : Mem} {res : Int32 × Mem} (ho : isSailor o) (h : p_X6_price o x1 σ = some res) : MetX G yX6_price cX6_price 2 (some .int) 3 [.ref (ga G o), .int x1] σ (some (.int res.1)) res.2 := by
  refine met_V (by decide +kernel) (Nat.le_of_ble_eq_true rfl) (fun X hC => ?_)
  have hC : Ok G 3 2 X cX6_price RX6 (some .int) := hC
  unfold p_X6_price at h
  show V G 3 2 X ((some (.int res.1)), res.2) σ [(0, .ref (ga G o)), (1, .int x1)] [] 0
  refine v_blk hC (is := [(.aload_n 0, 0), (.iload_n 1, 0)]) (pc' := 2) (ls' := [(0, .ref (ga G o)), (1, .int x1)]) (st' := [.int x1, .ref (ga G o)]) (by decide +kernel) rfl ?_
  obtain ⟨v1, s2, e3, h⟩ := bndI h
  obtain ⟨C1, T1, hcl⟩ := cl_S ((o - 41) % 8)
  refine v_cSU (idx := 17) (n := 1) hC ⟨tt_at 894 (by decide +kernel) rfl, tt_at 1495 (by decide +kernel) rfl, tt_at 139 (by decide +kernel) rfl, tiX0_price, tnX0_price, tcX0_price, ⟨by decide +kernel, tmX0_price.2.2⟩⟩ (isO_S ho) hcl (c_X0_price ho e3) (by decide) (by decide) (by decide +kernel) (rest := []) rfl rfl (Nat.le_of_ble_eq_true rfl) rfl ?_
  refine v_blk hC (is := [(.iconst 2, (2 : Int32)), (.imul, 0)]) (pc' := 7) (ls' := [(0, .ref (ga G o)), (1, .int x1)]) (st' := [.int (v1 * (2 : Int32))]) (by decide +kernel) rfl ?_
  exact v_iret hC h (by decide +kernel)

def p_X9_price (o : Nat) (x1 : Int32) (σ : Mem) : Option (Int32 × Mem) := (bnd (p_X7_price o x1 σ) fun v1 s2 => some ((v1 + (4 : Int32)), s2))
set_option maxHeartbeats 4000000 in
set_option maxRecDepth 100000 in
theorem c_X9_price {G : Gl} {o : Nat} {x1 : Int32} {σ : Mem} {res : Int32 × Mem} (ho : isSailor o) (h : p_X9_price o x1 σ = some res) : MetX G yX9_price cX9_price 2 (some .int) 2 [.ref (ga G o), .int x1] σ (some (.int res.1)) res.2 := by
  refine met_V (by decide +kernel) (Nat.le_of_ble_eq_true rfl) (fun X hC => ?_)
  have hC : Ok G 2 2 X cX9_price RX9 (some .int) := hC
  unfold p_X9_price at h
  show V G 2 2 X ((some (.int res.1)), res.2) σ [(0, .ref (ga G o)), (1, .int x1)] [] 0
  refine v_blk hC (is := [(.aload_n 0, 0), (.iload_n 1, 0)]) (pc' := 2) (ls' := [(0, .ref (ga G o)), (1, .int x1)]) (st' := [.int x1, .ref (ga G o)]) (by decide +kernel) rfl ?_
  obtain ⟨v1, s2, e3, h⟩ := bndI h
  obtain ⟨C1, T1, hcl⟩ := cl_S ((o - 41) % 8)
  refine v_cSU (idx := 11) (n := 1) hC ⟨tt_at 898 (by decide +kernel) rfl, tt_at 876 (by decide +kernel) rfl, tt_at 153 (by decide +kernel) rfl, tiX7_price, tnX7_price, tcX7_price, ⟨by decide +kernel, tmX7_price.2.2⟩⟩ (isO_S ho) hcl (c_X7_price ho e3) (by decide) (by decide) (by decide +kernel) (rest := []) rfl rfl (Nat.le_of_ble_eq_true rfl) rfl ?_
  refine v_blk hC (is := [(.iconst 4, (4 : Int32)), (.iadd, 0)]) (pc' := 7) (ls' := [(0, .ref (ga G o)), (1, .int x1)]) (st' := [.int (v1 + (4 : Int32))]) (by decide +kernel) rfl ?_
  exact v_iret hC h (by decide +kernel)

def p_X10_price (o : Nat) (x1 : Int32) (σ : Mem) : Option (Int32 × Mem) := (bnd (p_X5_price o x1 σ) fun v1 s2 => some ((v1 / (2 : Int32)), s2))
set_option maxHeartbeats 4000000 in
set_option maxRecDepth 100000 in
theorem c_X10_price {G : Gl} {o : Nat} {x1 : Int32} {σ : Mem} {res : Int32 × Mem} (ho : isSailor o) (h : p_X10_price o x1 σ = some res) : MetX G yX10_price cX10_price 2 (some .int) 2 [.ref (ga G o), .int x1] σ (some (.int res.1)) res.2 := by
  refine met_V (by decide +kernel) (Nat.le_of_ble_eq_true rfl) (fun X hC => ?_)
  have hC : Ok G 2 2 X cX10_price RX10 (some .int) := hC
  unfold p_X10_price at h
  show V G 2 2 X ((some (.int res.1)), res.2) σ [(0, .ref (ga G o)), (1, .int x1)] [] 0
  refine v_blk hC (is := [(.aload_n 0, 0), (.iload_n 1, 0)]) (pc' := 2) (ls' := [(0, .ref (ga G o)), (1, .int x1)]) (st' := [.int x1, .ref (ga G o)]) (by decide +kernel) rfl ?_
  obtain ⟨v1, s2, e3, h⟩ := bndI h
  obtain ⟨C1, T1, hcl⟩ := cl_S ((o - 41) % 8)
  refine v_cSU (idx := 7) (n := 1) hC ⟨tt_at 902 (by decide +kernel) rfl, tt_at 1496 (by decide +kernel) rfl, tt_at 160 (by decide +kernel) rfl, tiX5_price, tnX5_price, tcX5_price, ⟨by decide +kernel, tmX5_price.2.2⟩⟩ (isO_S ho) hcl (c_X5_price ho e3) (by decide) (by decide) (by decide +kernel) (rest := []) rfl rfl (Nat.le_of_ble_eq_true rfl) rfl ?_
  refine v_blk hC (is := [(.iconst 2, (2 : Int32))]) (pc' := 6) (ls' := [(0, .ref (ga G o)), (1, .int x1)]) (st' := [.int (2 : Int32), .int v1]) (by decide +kernel) rfl ?_
  refine v_idiv hC (by decide +kernel) (by decide) ?_
  exact v_iret hC h (by decide +kernel)

def p_X11_isShelf (x0 : Int32) (σ : Mem) : Option (Int32 × Mem) := (bnd (p_X11_within x0 (0 : Int32) (7 : Int32) σ) fun v1 s2 => rz v1 s2)
set_option maxHeartbeats 4000000 in
set_option maxRecDepth 100000 in
theorem c_X11_isShelf {G : Gl} {x0 : Int32} {σ : Mem} {res : Int32 × Mem}  (h : p_X11_isShelf x0 σ = some res) : MetX G yX11_isShelf cX11_isShelf 1 (some .boolean) 2 [.int x0] σ (some (.int res.1)) res.2 := by
  refine met_V (by decide +kernel) (Nat.le_of_ble_eq_true rfl) (fun X hC => ?_)
  have hC : Ok G 2 1 X cX11_isShelf RX11 (some .boolean) := hC
  unfold p_X11_isShelf at h
  show V G 2 1 X ((some (.int res.1)), res.2) σ [(0, .int x0)] [] 0
  refine v_blk hC (is := [(.iload_n 0, 0), (.iconst 0, (0 : Int32)), (.bipush 7, (7 : Int32))]) (pc' := 4) (ls' := [(0, .int x0)]) (st' := [.int (7 : Int32), .int (0 : Int32), .int x0]) (by decide +kernel) rfl ?_
  obtain ⟨v1, s2, e3, h⟩ := bndI h
  refine v_cS (idx := 168) hC ⟨tt_at 300 (by decide +kernel) rfl, tsX11_within, tnX11_within, tcX11_within, tmX11_within⟩ (c_X11_within e3) (by decide) (by decide) (by decide +kernel) (rest := []) rfl rfl (Nat.le_of_ble_eq_true rfl) rfl ?_
  exact v_zretC hC h (by decide +kernel)

def p_X11_isPart (x0 : Int32) (σ : Mem) : Option (Int32 × Mem) := (bnd (p_X11_within x0 (0 : Int32) (1 : Int32) σ) fun v1 s2 => rz v1 s2)
set_option maxHeartbeats 4000000 in
set_option maxRecDepth 100000 in
theorem c_X11_isPart {G : Gl} {x0 : Int32} {σ : Mem} {res : Int32 × Mem}  (h : p_X11_isPart x0 σ = some res) : MetX G yX11_isPart cX11_isPart 1 (some .boolean) 2 [.int x0] σ (some (.int res.1)) res.2 := by
  refine met_V (by decide +kernel) (Nat.le_of_ble_eq_true rfl) (fun X hC => ?_)
  have hC : Ok G 2 1 X cX11_isPart RX11 (some .boolean) := hC
  unfold p_X11_isPart at h
  show V G 2 1 X ((some (.int res.1)), res.2) σ [(0, .int x0)] [] 0
  refine v_blk hC (is := [(.iload_n 0, 0), (.iconst 0, (0 : Int32)), (.iconst 1, (1 : Int32))]) (pc' := 3) (ls' := [(0, .int x0)]) (st' := [.int (1 : Int32), .int (0 : Int32), .int x0]) (by decide +kernel) rfl ?_
  obtain ⟨v1, s2, e3, h⟩ := bndI h
  refine v_cS (idx := 168) hC ⟨tt_at 300 (by decide +kernel) rfl, tsX11_within, tnX11_within, tcX11_within, tmX11_within⟩ (c_X11_within e3) (by decide) (by decide) (by decide +kernel) (rest := []) rfl rfl (Nat.le_of_ble_eq_true rfl) rfl ?_
  exact v_zretC hC h (by decide +kernel)

def p_X11_gain (x0 : Int32) (x1 : Int32) (σ : Mem) : Option (Int32 × Mem) := (if x0 = 0 then (if x1 = 0 then some ((-5 : Int32), σ) else some ((0 : Int32), σ)) else (if x1 = 0 then some ((-2 : Int32), σ) else some ((-1 : Int32), σ)))
set_option maxHeartbeats 4000000 in
set_option maxRecDepth 100000 in
theorem c_X11_gain {G : Gl} {x0 : Int32} {x1 : Int32} {σ : Mem} {res : Int32 × Mem}  (h : p_X11_gain x0 x1 σ = some res) : MetX G yX11_gain cX11_gain 2 (some .int) 1 [.int x0, .int x1] σ (some (.int res.1)) res.2 := by
  refine met_V (by decide +kernel) (Nat.le_of_ble_eq_true rfl) (fun X hC => ?_)
  have hC : Ok G 1 2 X cX11_gain RX11 (some .int) := hC
  unfold p_X11_gain at h
  show V G 1 2 X ((some (.int res.1)), res.2) σ [(0, .int x0), (1, .int x1)] [] 0
  refine v_blk hC (is := [(.iload_n 0, 0)]) (pc' := 1) (ls' := [(0, .int x0), (1, .int x1)]) (st' := [.int x0]) (by decide +kernel) rfl ?_
  refine v_if_eq hC (off := 14) (tgt := 15) (by decide +kernel) (by decide) h (fun hq h => ?_) (fun hq h => ?_)
  · refine v_blk hC (is := [(.iload_n 1, 0)]) (pc' := 16) (ls' := [(0, .int x0), (1, .int x1)]) (st' := [.int x1]) (by decide +kernel) rfl ?_
    refine v_if_eq hC (off := 7) (tgt := 23) (by decide +kernel) (by decide) h (fun hq h => ?_) (fun hq h => ?_)
    · refine v_blk hC (is := [(.bipush (-5), (-5 : Int32))]) (pc' := 25) (ls' := [(0, .int x0), (1, .int x1)]) (st' := [.int (-5 : Int32)]) (by decide +kernel) rfl ?_
      exact v_iret hC h (by decide +kernel)
    · refine v_blk hC (is := [(.iconst 0, (0 : Int32))]) (pc' := 20) (ls' := [(0, .int x0), (1, .int x1)]) (st' := [.int (0 : Int32)]) (by decide +kernel) rfl ?_
      refine v_goto hC (off := 5) (tgt := 25) (by decide +kernel) (by decide) ?_
      exact v_iret hC h (by decide +kernel)
  · refine v_blk hC (is := [(.iload_n 1, 0)]) (pc' := 5) (ls' := [(0, .int x0), (1, .int x1)]) (st' := [.int x1]) (by decide +kernel) rfl ?_
    refine v_if_eq hC (off := 7) (tgt := 12) (by decide +kernel) (by decide) h (fun hq h => ?_) (fun hq h => ?_)
    · refine v_blk hC (is := [(.bipush (-2), (-2 : Int32))]) (pc' := 14) (ls' := [(0, .int x0), (1, .int x1)]) (st' := [.int (-2 : Int32)]) (by decide +kernel) rfl ?_
      exact v_iret hC h (by decide +kernel)
    · refine v_blk hC (is := [(.iconst (-1), (-1 : Int32))]) (pc' := 9) (ls' := [(0, .int x0), (1, .int x1)]) (st' := [.int (-1 : Int32)]) (by decide +kernel) rfl ?_
      refine v_goto hC (off := 5) (tgt := 14) (by decide +kernel) (by decide) ?_
      exact v_iret hC h (by decide +kernel)

def p_X11_inLeastTerms_B72  (x0 : Int64) (x2 : Int64) (x4 : Int32) (x5 : Int64) (t0 : Int64) (σ : Mem) : Option (Int64 × Mem) := (if x5 = 0 then none else some ((t0 / x5), σ))
def p_X11_inLeastTerms_B44  (x0 : Int64) (x2 : Int64) (x4 : Int32) (x5 : Int64) (σ : Mem) : Option (Int64 × Mem) := (if (lg_cmp x5 (0 : Int64)) = 0 then (if x4 = 0 then some ((0 : Int64), σ) else some ((1 : Int64), σ)) else (if x4 = 0 then (p_X11_inLeastTerms_B72 x0 x2 x4) x5 x0 σ else (p_X11_inLeastTerms_B72 x0 x2 x4) x5 x2 σ))
def p_X11_inLeastTerms_B9 (k9 : Int64 → Int64 → Int32 → Mem → Option (Int64 × Mem)) (k44 : Int64 → Mem → Option (Int64 × Mem)) (x0 : Int64) (x2 : Int64) (x4 : Int32) (x5 : Int64) (x7 : Int64) (x9 : Int32) (σ : Mem) : Option (Int64 × Mem) := (if (100 : Int32) ≤ x9 then k44 x5 σ else (if (lg_cmp x7 (0 : Int64)) = 0 then k44 x5 σ else (if x7 = 0 then none else k9 x7 (x5 - x5 / x7 * x7) (x9 + (1 : Int32)) σ)))
def p_X11_inLeastTerms_L9 (k44 : Int64 → Mem → Option (Int64 × Mem)) (x0 : Int64) (x2 : Int64) (x4 : Int32) : Nat → Int64 → Int64 → Int32 → Mem → Option (Int64 × Mem)
  | 0 => fun _ _ _ _ => none
  | f + 1 => p_X11_inLeastTerms_B9 (p_X11_inLeastTerms_L9 k44 x0 x2 x4 f) k44 x0 x2 x4
def p_X11_inLeastTerms (x0 : Int64) (x2 : Int64) (x4 : Int32) (σ : Mem) : Option (Int64 × Mem) := (p_X11_inLeastTerms_L9 (p_X11_inLeastTerms_B44 x0 x2 x4) x0 x2 x4 1000) x0 x2 (0 : Int32) σ
set_option maxHeartbeats 4000000 in
set_option maxRecDepth 100000 in
theorem c_X11_inLeastTerms {G : Gl} {x0 : Int64} {x2 : Int64} {x4 : Int32} {σ : Mem} {res : Int64 × Mem}  (h : p_X11_inLeastTerms x0 x2 x4 σ = some res) : MetX G yX11_inLeastTerms cX11_inLeastTerms 12 (some .long) 1 [.long x0, .long x2, .int x4] σ (some (.long res.1)) res.2 := by
  refine met_V (by decide +kernel) (Nat.le_of_ble_eq_true rfl) (fun X hC => ?_)
  have hC : Ok G 1 12 X cX11_inLeastTerms RX11 (some .long) := hC
  have hB72 : ∀ (x5 : Int64), ∀ (t0 : Int64), ∀ σ : Mem, p_X11_inLeastTerms_B72 x0 x2 x4 x5 t0 σ = some res → V G 1 12 X ((some (.long res.1)), res.2) σ [(5, .long x5)] [.long t0] 72 := by
    intro x5 t0 σ h
    unfold p_X11_inLeastTerms_B72 at h
    refine v_blk hC (is := [(.lload 5, 0)]) (pc' := 74) (ls' := [(5, .long x5)]) (st' := [.long x5, .long t0]) (by decide +kernel) rfl ?_
    refine v_ldiv hC (by decide +kernel) h (fun h => ?_)
    exact v_lret hC h (by decide +kernel)
  have hB44 : ∀ (x5 : Int64), ∀ σ : Mem, p_X11_inLeastTerms_B44 x0 x2 x4 x5 σ = some res → V G 1 12 X ((some (.long res.1)), res.2) σ [(0, .long x0), (2, .long x2), (4, .int x4), (5, .long x5)] [] 44 := by
    intro x5 σ h
    unfold p_X11_inLeastTerms_B44 at h
    refine v_blk hC (is := [(.lload 5, 0), (.lconst 0, 0), (.lcmp, 0)]) (pc' := 48) (ls' := [(0, .long x0), (2, .long x2), (4, .int x4), (5, .long x5)]) (st' := [.int (lg_cmp x5 (0 : Int64))]) (by decide +kernel) rfl ?_
    refine v_if_ne hC (off := 14) (tgt := 62) (by decide +kernel) (by decide) h (fun hq h => ?_) (fun hq h => ?_)
    · refine v_blk hC (is := [(.iload 4, 0)]) (pc' := 64) (ls' := [(0, .long x0), (2, .long x2), (4, .int x4), (5, .long x5)]) (st' := [.int x4]) (by decide +kernel) rfl ?_
      refine v_if_ne hC (off := 7) (tgt := 71) (by decide +kernel) (by decide) h (fun hq h => ?_) (fun hq h => ?_)
      · refine v_blk hC (is := [(.lload_n 2, 0)]) (pc' := 72) (ls' := [(0, .long x0), (2, .long x2), (4, .int x4), (5, .long x5)]) (st' := [.long x2]) (by decide +kernel) rfl ?_
        refine v_sub [3] (ls' := [(5, .long x5)]) rfl ?_
        exact (hB72 ) _ _ _ h
      · refine v_blk hC (is := [(.lload_n 0, 0)]) (pc' := 68) (ls' := [(0, .long x0), (2, .long x2), (4, .int x4), (5, .long x5)]) (st' := [.long x0]) (by decide +kernel) rfl ?_
        refine v_goto hC (off := 4) (tgt := 72) (by decide +kernel) (by decide) ?_
        refine v_sub [3] (ls' := [(5, .long x5)]) rfl ?_
        exact (hB72 ) _ _ _ h
    · refine v_blk hC (is := [(.iload 4, 0)]) (pc' := 53) (ls' := [(0, .long x0), (2, .long x2), (4, .int x4), (5, .long x5)]) (st' := [.int x4]) (by decide +kernel) rfl ?_
      refine v_if_ne hC (off := 7) (tgt := 60) (by decide +kernel) (by decide) h (fun hq h => ?_) (fun hq h => ?_)
      · refine v_blk hC (is := [(.lconst 1, 0)]) (pc' := 61) (ls' := [(0, .long x0), (2, .long x2), (4, .int x4), (5, .long x5)]) (st' := [.long (1 : Int64)]) (by decide +kernel) rfl ?_
        exact v_lret hC h (by decide +kernel)
      · refine v_blk hC (is := [(.lconst 0, 0)]) (pc' := 57) (ls' := [(0, .long x0), (2, .long x2), (4, .int x4), (5, .long x5)]) (st' := [.long (0 : Int64)]) (by decide +kernel) rfl ?_
        refine v_goto hC (off := 4) (tgt := 61) (by decide +kernel) (by decide) ?_
        exact v_lret hC h (by decide +kernel)
  have hB9 : ∀ (k9 : Int64 → Int64 → Int32 → Mem → Option (Int64 × Mem)), ∀ (k44 : Int64 → Mem → Option (Int64 × Mem)), (∀ (x5 : Int64), ∀ (x7 : Int64), ∀ (x9 : Int32), ∀ σ : Mem, k9 x5 x7 x9 σ = some res → V G 1 12 X ((some (.long res.1)), res.2) σ [(0, .long x0), (2, .long x2), (4, .int x4), (5, .long x5), (7, .long x7), (9, .int x9)] [] 9) → (∀ (x5 : Int64), ∀ σ : Mem, k44 x5 σ = some res → V G 1 12 X ((some (.long res.1)), res.2) σ [(0, .long x0), (2, .long x2), (4, .int x4), (5, .long x5)] [] 44) → ∀ (x5 : Int64), ∀ (x7 : Int64), ∀ (x9 : Int32), ∀ σ : Mem, p_X11_inLeastTerms_B9 k9 k44 x0 x2 x4 x5 x7 x9 σ = some res → V G 1 12 X ((some (.long res.1)), res.2) σ [(0, .long x0), (2, .long x2), (4, .int x4), (5, .long x5), (7, .long x7), (9, .int x9)] [] 9 := by
    intro k9 k44 hk9 hk44 x5 x7 x9 σ h
    unfold p_X11_inLeastTerms_B9 at h
    refine v_blk hC (is := [(.iload 9, 0), (.bipush 100, (100 : Int32))]) (pc' := 13) (ls' := [(0, .long x0), (2, .long x2), (4, .int x4), (5, .long x5), (7, .long x7), (9, .int x9)]) (st' := [.int (100 : Int32), .int x9]) (by decide +kernel) rfl ?_
    refine v_icmp_ge hC (off := 31) (tgt := 44) (by decide +kernel) (by decide) h (fun hq h => ?_) (fun hq h => ?_)
    · refine v_sub [0, 1, 2, 3] (ls' := [(0, .long x0), (2, .long x2), (4, .int x4), (5, .long x5)]) rfl ?_
      exact hk44 _ _ h
    · refine v_blk hC (is := [(.lload 7, 0), (.lconst 0, 0), (.lcmp, 0)]) (pc' := 20) (ls' := [(0, .long x0), (2, .long x2), (4, .int x4), (5, .long x5), (7, .long x7), (9, .int x9)]) (st' := [.int (lg_cmp x7 (0 : Int64))]) (by decide +kernel) rfl ?_
      refine v_if_eq hC (off := 24) (tgt := 44) (by decide +kernel) (by decide) h (fun hq h => ?_) (fun hq h => ?_)
      · refine v_sub [0, 1, 2, 3] (ls' := [(0, .long x0), (2, .long x2), (4, .int x4), (5, .long x5)]) rfl ?_
        exact hk44 _ _ h
      · refine v_blk hC (is := [(.lload 5, 0), (.lload 7, 0)]) (pc' := 27) (ls' := [(0, .long x0), (2, .long x2), (4, .int x4), (5, .long x5), (7, .long x7), (9, .int x9)]) (st' := [.long x7, .long x5]) (by decide +kernel) rfl ?_
        refine v_lrem hC (by decide +kernel) h (fun h => ?_)
        refine v_blk hC (is := [(.lstore 10, 0), (.lload 7, 0), (.lstore 5, 0), (.lload 10, 0), (.lstore 7, 0), (.iinc 9 1, (1 : Int32))]) (pc' := 41) (ls' := [(9, .int (x9 + (1 : Int32))), (7, .long (x5 - x5 / x7 * x7)), (5, .long x7), (10, .long (x5 - x5 / x7 * x7)), (0, .long x0), (2, .long x2), (4, .int x4)]) (st' := []) (by decide +kernel) rfl ?_
        refine v_goto hC (off := (-32)) (tgt := 9) (by decide +kernel) (by decide) ?_
        refine v_sub [4, 5, 6, 2, 1, 0] (ls' := [(0, .long x0), (2, .long x2), (4, .int x4), (5, .long x7), (7, .long (x5 - x5 / x7 * x7)), (9, .int (x9 + (1 : Int32)))]) rfl ?_
        exact hk9 _ _ _ _ h
  have hL9 : ∀ (k44 : Int64 → Mem → Option (Int64 × Mem)), (∀ (x5 : Int64), ∀ σ : Mem, k44 x5 σ = some res → V G 1 12 X ((some (.long res.1)), res.2) σ [(0, .long x0), (2, .long x2), (4, .int x4), (5, .long x5)] [] 44) → ∀ f : Nat, ∀ (x5 : Int64), ∀ (x7 : Int64), ∀ (x9 : Int32), ∀ σ : Mem, p_X11_inLeastTerms_L9 k44 x0 x2 x4 f x5 x7 x9 σ = some res → V G 1 12 X ((some (.long res.1)), res.2) σ [(0, .long x0), (2, .long x2), (4, .int x4), (5, .long x5), (7, .long x7), (9, .int x9)] [] 9 := by
    intro k44 hk44 f
    induction f with
    | zero => intro x5 x7 x9 σ h; exact none_some h
    | succ f ih => intro x5 x7 x9 σ h; exact hB9 (p_X11_inLeastTerms_L9 k44 x0 x2 x4 f) k44 ih hk44 x5 x7 x9 σ h
  unfold p_X11_inLeastTerms at h
  show V G 1 12 X ((some (.long res.1)), res.2) σ [(0, .long x0), (2, .long x2), (4, .int x4)] [] 0
  refine v_blk hC (is := [(.lload_n 0, 0), (.lstore 5, 0), (.lload_n 2, 0), (.lstore 7, 0), (.iconst 0, (0 : Int32)), (.istore 9, 0)]) (pc' := 9) (ls' := [(9, .int (0 : Int32)), (7, .long x2), (5, .long x0), (0, .long x0), (2, .long x2), (4, .int x4)]) (st' := []) (by decide +kernel) rfl ?_
  refine v_sub [3, 4, 5, 2, 1, 0] (ls' := [(0, .long x0), (2, .long x2), (4, .int x4), (5, .long x0), (7, .long x2), (9, .int (0 : Int32))]) rfl ?_
  exact (hL9 _ (hB44 ) 1000) _ _ _ _ h

def p_K_price (o : Nat) (x1 : Int32) (σ : Mem) : Option (Int32 × Mem) := if o < 41 ∨ 64 < o then none else if (o - 41) % 8 = 0 then p_X7_price o x1 σ else if (o - 41) % 8 = 1 then p_X0_price o x1 σ else if (o - 41) % 8 = 2 then p_X1_price o x1 σ else if (o - 41) % 8 = 3 then p_X5_price o x1 σ else if (o - 41) % 8 = 4 then p_X6_price o x1 σ else if (o - 41) % 8 = 5 then p_X2_price o x1 σ else if (o - 41) % 8 = 6 then p_X9_price o x1 σ else p_X10_price o x1 σ
theorem kX11_price {G : Gl} {lv nL : Nat} {X : Cx} {ro : Option Value × Mem} {σ σ1 : Mem} {ls : List (Nat × Value)} {st rest st2 : List Value} {pc : Nat} {cc : ByteArray} {ret : Option FieldType} (hC : Ok G lv nL X cc RX11 ret) {o : Nat} {x1 : Int32} {v : Int32} (h : p_K_price o x1 σ = some (v, σ1)) (hlv : 3 + 1 ≤ lv) (hd : decode cc pc = .ok (.invokevirtual 301, 3)) (hst : st = .int x1 :: .ref (ga G o) :: rest) (hw : (rest.map fun v => v.category).sum ≤ 8) (h2 : .int v :: rest = st2) (k : V G lv nL X ro σ1 ls st2 (pc + 3)) : V G lv nL X ro σ ls st pc := by
  subst hst
  unfold p_K_price at h
  have hS : isSailor o := by
    by_cases hq : o < 41 ∨ 64 < o
    · rw [if_pos hq] at h
      cases h
    · exact ⟨by omega, by omega⟩
  rw [if_neg (by have := hS.1; have := hS.2; omega)] at h
  have hO := isO_S (G := G) hS
  have hm : (o - 41) % 8 < 8 := Nat.mod_lt _ (by decide)
  by_cases hk : (o - 41) % 8 = 0
  · rw [if_pos hk] at h
    rw [hk] at hO
    exact v_cU (idx := 301) (C := RX7) (x := yX7_price) hC ⟨tt_at 873 (by decide +kernel) rfl, tt_at 876 (by decide +kernel) rfl, tiX7_price, tt_at 875 (by decide +kernel) rfl, tiX7_price, tnX7_price, tcX7_price, ⟨_, _, _, tcX7_price⟩, tmX7_price⟩ hO rfl (c_X7_price hS h) (by omega) (by decide) hd rfl rfl hw h2 k
  rw [if_neg hk] at h
  by_cases hk : (o - 41) % 8 = 1
  · rw [if_pos hk] at h
    rw [hk] at hO
    exact v_cU (idx := 301) (C := RX0) (x := yX7_price) hC ⟨tt_at 873 (by decide +kernel) rfl, tt_at 876 (by decide +kernel) rfl, tiX7_price, tt_at 877 (by decide +kernel) rfl, tiX0_price, tnX0_price, tcX0_price, ⟨_, _, _, tcX7_price⟩, tmX7_price⟩ hO rfl (c_X0_price hS h) (by omega) (by decide) hd rfl rfl hw h2 k
  rw [if_neg hk] at h
  by_cases hk : (o - 41) % 8 = 2
  · rw [if_pos hk] at h
    rw [hk] at hO
    exact v_cU (idx := 301) (C := RX1) (x := yX7_price) hC ⟨tt_at 873 (by decide +kernel) rfl, tt_at 876 (by decide +kernel) rfl, tiX7_price, tt_at 881 (by decide +kernel) rfl, tiX1_price, tnX1_price, tcX1_price, ⟨_, _, _, tcX7_price⟩, tmX7_price⟩ hO rfl (c_X1_price hS h) (by omega) (by decide) hd rfl rfl hw h2 k
  rw [if_neg hk] at h
  by_cases hk : (o - 41) % 8 = 3
  · rw [if_pos hk] at h
    rw [hk] at hO
    exact v_cU (idx := 301) (C := RX5) (x := yX7_price) hC ⟨tt_at 873 (by decide +kernel) rfl, tt_at 876 (by decide +kernel) rfl, tiX7_price, tt_at 888 (by decide +kernel) rfl, tiX5_price, tnX5_price, tcX5_price, ⟨_, _, _, tcX7_price⟩, tmX7_price⟩ hO rfl (c_X5_price hS h) (by omega) (by decide) hd rfl rfl hw h2 k
  rw [if_neg hk] at h
  by_cases hk : (o - 41) % 8 = 4
  · rw [if_pos hk] at h
    rw [hk] at hO
    exact v_cU (idx := 301) (C := RX6) (x := yX7_price) hC ⟨tt_at 873 (by decide +kernel) rfl, tt_at 876 (by decide +kernel) rfl, tiX7_price, tt_at 891 (by decide +kernel) rfl, tiX6_price, tnX6_price, tcX6_price, ⟨_, _, _, tcX7_price⟩, tmX7_price⟩ hO rfl (c_X6_price hS h) (by omega) (by decide) hd rfl rfl hw h2 k
  rw [if_neg hk] at h
  by_cases hk : (o - 41) % 8 = 5
  · rw [if_pos hk] at h
    rw [hk] at hO
    exact v_cU (idx := 301) (C := RX2) (x := yX7_price) hC ⟨tt_at 873 (by decide +kernel) rfl, tt_at 876 (by decide +kernel) rfl, tiX7_price, tt_at 884 (by decide +kernel) rfl, tiX2_price, tnX2_price, tcX2_price, ⟨_, _, _, tcX7_price⟩, tmX7_price⟩ hO rfl (c_X2_price hS h) (by omega) (by decide) hd rfl rfl hw h2 k
  rw [if_neg hk] at h
  by_cases hk : (o - 41) % 8 = 6
  · rw [if_pos hk] at h
    rw [hk] at hO
    exact v_cU (idx := 301) (C := RX9) (x := yX7_price) hC ⟨tt_at 873 (by decide +kernel) rfl, tt_at 876 (by decide +kernel) rfl, tiX7_price, tt_at 895 (by decide +kernel) rfl, tiX9_price, tnX9_price, tcX9_price, ⟨_, _, _, tcX7_price⟩, tmX7_price⟩ hO rfl (c_X9_price hS h) (by omega) (by decide) hd rfl rfl hw h2 k
  rw [if_neg hk] at h
  have hk : (o - 41) % 8 = 7 := by omega
  rw [hk] at hO
  exact v_cU (idx := 301) (C := RX10) (x := yX7_price) hC ⟨tt_at 873 (by decide +kernel) rfl, tt_at 876 (by decide +kernel) rfl, tiX7_price, tt_at 899 (by decide +kernel) rfl, tiX10_price, tnX10_price, tcX10_price, ⟨_, _, _, tcX7_price⟩, tmX7_price⟩ hO rfl (c_X10_price hS h) (by omega) (by decide) hd rfl rfl hw h2 k
