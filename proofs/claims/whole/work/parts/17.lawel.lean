/-! the law's helper -/
def eO (ly : ClassId) (f : Nat → Int64) : va_E := .inl (ly, 1, .inr (.inl f))
def OkY (G : Gl) (ly : ClassId) (U : State) : Prop := va_K (gD G) vwCl (wty G ++ [(ly, .long)]) U
theorem okY_warm {G : Gl} {ly : ClassId} {s U : State} (hW : s.WarmedH U.vm) (h : OkY G ly s) : OkY G ly U := va_K.moved hW.alike h
theorem okY_same {G : Gl} {ly : ClassId} {u U : State} (e : u.vm = U.vm) (h : OkY G ly u) : OkY G ly U := va_K.moved (by rw [e]; exact Vm.Alike.refl _) h
theorem lD {G : Gl} {U : State} (h : OkW G U) {oa : Nat} (hoa : ¬ gA G oa) (e : va_E) (σ : Mem) : va_D (fun q => gA G q ∨ q = oa) ((oa, e) :: wl G σ) := by
  have hD := okW_D h σ
  refine ⟨fun i j p q hi hj hpq => ?_, fun i p hi => ?_⟩
  · cases i with
    | zero =>
      cases j with
      | zero => rfl
      | succ j =>
        have h1 : (oa, e) = p := Option.some.inj hi
        exact absurd (hD.2 j q hj) (by rw [← hpq, ← h1]; exact hoa)
    | succ i =>
      cases j with
      | zero =>
        have h1 : (oa, e) = q := Option.some.inj hj
        exact absurd (hD.2 i p hi) (by rw [hpq, ← h1]; exact hoa)
      | succ j => exact congrArg Nat.succ (hD.1 i j p q hi hj hpq)
  · cases i with
    | zero =>
      have h1 : (oa, e) = p := Option.some.inj hi
      exact Or.inr (by rw [← h1])
    | succ i => exact Or.inl (hD.2 i p hi)
theorem lP {G : Gl} {σ : Mem} {H : Heap} {oa : Nat} {e : va_E} (hR : Rep G σ H) (hV : va_at (gD G) vwCl (oa, e) H) : va_P (gD G) vwCl ((oa, e) :: wl G σ) H := fun k q hk => by
  cases k with
  | zero => cases hk; exact hV
  | succ k => exact hR k q hk
theorem lP_R {G : Gl} {σ : Mem} {H : Heap} {oa : Nat} {e : va_E} (h : va_P (gD G) vwCl ((oa, e) :: wl G σ) H) : Rep G σ H := fun k q hk => h (k + 1) q hk
theorem lP_V {G : Gl} {σ : Mem} {H : Heap} {oa : Nat} {e : va_E} (h : va_P (gD G) vwCl ((oa, e) :: wl G σ) H) : va_at (gD G) vwCl (oa, e) H := h 0 _ rfl
/-- a call's traces on the world and on the law's own array -/
theorem l_keep {A1 A0 : Nat → Prop} {H0 H : Heap} {st₀ t T' : State} {locs Lx : List Loc} {free : Nat → Prop} (h0 : st₀.heap = H) (e1 : T'.heap = t.heap) (hF : va_F A1 st₀ t) (hS : va_S A0 H0 H locs) (hA : ∀ q, A1 q → A0 q) (hfr : ∀ q, free q → A0 q) (hL : ∀ z ∈ Lx, free z.base) : va_S A0 H0 T'.heap (locs ++ Lx) ∧ ∀ q : Nat, q < H.size → ¬ A1 q → T'.heap[q]? = H[q]? := by
  obtain ⟨hz, hk⟩ := hF
  rw [h0] at hz hk
  refine ⟨⟨Nat.le_trans hS.1 (by rw [e1]; exact hz), fun q a1 a2 => by rw [e1, hk q (Nat.lt_of_lt_of_le a1 hS.1) (fun z => a2 (hA q z))]; exact hS.2.1 q a1 a2, fun z hz => ?_⟩, fun q a1 a2 => by rw [e1]; exact hk q a1 a2⟩
  rcases List.mem_append.mp hz with hz | hz
  · exact hS.2.2 z hz
  · exact hfr _ (hL z hz)
def PreL (G : Gl) (ly : ClassId) (oa : Nat) (f : Nat → Int64) (σ : Mem) (As : List Value) : Array Value → State → Prop := va_Pc As (fun U => OkW G U ∧ OkY G ly U ∧ Rep G σ U.heap ∧ va_at (gD G) vwCl (oa, eO ly f) U.heap ∧ (∀ q, U.heap.size ≤ q → gA G q) ∧ OkE (gA G) U ∧ ¬ gA G oa)
theorem preL_blind {G : Gl} {ly : ClassId} {oa : Nat} {f : Nat → Int64} {σ : Mem} {As : List Value} : FrameBlind (PreL G ly oa f σ As) := fun a U g mk q => ⟨q.1, okW_same rfl q.2.1, okY_same rfl q.2.2.1, q.2.2.2.1, q.2.2.2.2.1, q.2.2.2.2.2.1, okE_same (u := U) rfl rfl q.2.2.2.2.2.2.1, q.2.2.2.2.2.2.2⟩
def QL (G : Gl) (ly : ClassId) (oa : Nat) (res : (Int32 × Int64) × Mem) : Array Value → State → Outcome → State → Prop := fun _ st oc t => oc = .returned (some (.int res.1.1)) ∧ Rep G res.2 t.heap ∧ (∃ f' : Nat → Int64, va_at (gD G) vwCl (oa, eO ly f') t.heap ∧ (res.1.1 = 0 → f' 0 = res.1.2)) ∧ va_F (fun q => gA G q ∨ q = oa) st t
set_option maxHeartbeats 4000000 in
set_option maxRecDepth 100000 in
theorem c_L_element {G : Gl} {ly : ClassId} {oa : Nat} {f : Nat → Int64} {l : Launch} (hlt : l.stackTraces = false) {x1 x2 : Int32} {σ : Mem} {res : (Int32 × Int64) × Mem} (h : p_X11_element x1 x2 σ = some res) : vx_Met l yL_element (.codeWith yL_element cL_element 5 (some .int) [(0, 9, 12, 13), (0, 9, 16, 15)] :: TT) (rmU 7 1 6) (PreL G ly oa f σ [.ref (ga G 0), .int x1, .int x2, .ref oa]) (QL G ly oa res) (fun _ _ _ => False) 1 6 (fun q => gA G q ∨ q = oa) := by
  refine vx_ofWH (hh := [(0, 9, 12, 13), (0, 9, 16, 15)]) (cc := cL_element) (maxL := 5) (ret := some .int) (by decide +kernel) rfl ?_
  intro p e s m args below meth c s₁ B hml hv
  obtain ⟨rfl, hO, hY, hR, hV, hA, hE, hoa⟩ := hv
  have hts0 := atoms_spec B.pre
  have hts : ∀ w ∈ TT, w.before ([.ref (ga G 0), .int x1, .int x2, .ref oa] : List Value).toArray s = true := fun w hw => hts0 w (List.mem_cons_of_mem _ hw)
  have htab : c.exceptionTable.toList = tableOf [(0, 9, 12, 13), (0, 9, 16, 15)] := vx_table (x := yL_element) B (hts0 _ List.mem_cons_self)
  have hown : s.vm.findClass RL = some m.cls := findClass_of_methodNamed B.named
  have hx := B.exec
  have hb := B.bytes
  have hll := lv_entry ([.ref (ga G 0), .int x1, .int x2, .ref oa]) (n := 5) (Nat.le_of_ble_eq_true rfl)
  rw [lg_entry_eq]
  have fin : ∀ (H : Heap) (locs : List Loc) (la : Array Slot) (k n pc : Nat) (f' : Nat → Int64) (r : Int32), k ≤ 1 → n ≤ 6 → decode cL_element pc = .ok (.ireturn, 1) → Rep G res.2 H → va_at (gD G) vwCl (oa, eO ly f') H → (res.1.1 = 0 → f' 0 = res.1.2) → va_S (fun q => gA G q ∨ q = oa) s.heap H locs → r = res.1.1 → W p l e (rmU 7 1 6) s m ([.ref (ga G 0), .int x1, .int x2, .ref oa] : List Value).toArray below meth c H locs k n (vx_MQ below (QL G ly oa res) (fun _ _ _ => False) ([.ref (ga G 0), .int x1, .int x2, .ref oa] : List Value).toArray s 1 6 (fun q => gA G q ∨ q = oa)) (F0 m pc la [.int r]) := by
    intro H locs la k n pc f' r hk hn hd hR1 hV1 hf hS1 hr
    refine vx_ret (W.widen (k := 1) (n := 6) hk hn (W.iret hx hb B.returns (fun t ht hW => ⟨by rw [hr], by rw [ht]; exact hR1, ⟨f', by rw [ht]; exact hV1, hf⟩, hS1.F ht⟩) hS1.2.2 hd B.notSynchronized))
  refine w_blk hx hb hll (is := [(.aload_n 3, 0), (.iconst 0, (0 : Int32)), (.aload_n 0, 0), (.iload_n 1, 0), (.iload_n 2, 0)]) (pc' := 5) (ls' := [(0, .ref (ga G 0)), (1, .int x1), (2, .int x2), (3, .ref oa)]) (st' := [.int x2, .int x1, .ref (ga G 0), .int (0 : Int32), .ref oa]) (by decide +kernel) rfl (fun la hl => ?_)
  intro T hT X
  have hrun := vx_runV (index := 7) (H := s.heap) (locs := []) (cells := 0) (slots := 0) (As := [.int x1, .int x2]) (rest := [.int (0 : Int32), .ref oa]) (g := F0 m 5 la [.int x2, .int x1, .ref (ga G 0), .int (0 : Int32), .ref oa]) (R := rmU 7 1 6) (e := e) (below := below) (p := p) (meth := meth) ⟨hx, hb, hml, hown, hts⟩ (c_X11_element (G := G) hlt h) ⟨callB_of 2 hts (tt_call tcX11_element) rfl rfl rfl (hts _ tnX11_element) (hts _ (tt_at 1034 (by decide +kernel) rfl)) tmX11_element ⟨by decide, by decide⟩, hts _ tiX11_element, hts _ tvX11_element⟩ ⟨preE_blind, va_recv hO.1 hR rfl (isO_up isO_X11 σ), fun U hU hW => ⟨rfl, okW_warm hW hO, by rw [hU]; exact hR, fun q hq => hA q (by rw [hU] at hq; exact hq), okE_next (locs := []) hW (by rw [hU]; exact va_S.rf) hE⟩⟩ rfl rfl hl.1 rfl (Nat.le_of_ble_eq_true rfl) (show decode cL_element 5 = .ok (.invokevirtual 7, 3) from by decide +kernel) ⟨Nat.le_refl _, Nat.le_refl _⟩
  rcases hrun T hT X with ⟨v, st₀, t, T', Lx, h0, X', hL, e1, e2, ⟨hc0, hv, hR1, hF⟩, hst⟩ | ⟨q, st₀, t, T', Lx, E, ce, h0, X', hL, e1, e2, ⟨hec, hR1, hF⟩, hce, hcv, hcl, hst⟩
  · cases hv
    obtain ⟨kS, kk⟩ := l_keep (A0 := fun q => gA G q ∨ q = oa) h0 e1 hF va_S.rf (fun q hq => Or.inl hq) (fun q hq => Or.inl hq) hL
    have hV1 : va_at (gD G) vwCl (oa, eO ly f) T'.heap := hV.kept (kk oa hV.lt hoa)
    have hR2 : Rep G res.2 T'.heap := by rw [e1]; exact hR1
    have K : W p l e (rmU 7 1 6) s m ([.ref (ga G 0), .int x1, .int x2, .ref oa] : List Value).toArray below meth c T'.heap ([] ++ Lx) (0 + 1) (0 + 6) (vx_MQ below (QL G ly oa res) (fun _ _ _ => False) ([.ref (ga G 0), .int x1, .int x2, .ref oa] : List Value).toArray s 1 6 (fun q => gA G q ∨ q = oa)) (F0 m 8 la [.long res.1.2, .int (0 : Int32), .ref oa]) := by
      refine va_last (D := gD G) (cl := vwCl) (tys := wty G ++ [(ly, FieldType.long)]) (ws := (oa, eO ly f) :: wl G res.2) (n := 1) (f := f) hx hb (show va_K (gD G) vwCl (wty G ++ [(ly, FieldType.long)]) s from hY) (lP hR2 hV1) (lD hO hoa _ _) kS 0 3 rfl rfl (by unfold vp_in; decide) (by decide +kernel) (fun H1 locs1 hP1 hD1 hS1 => ?_)
      refine lv_goto hx hb (off := 11) (tgt := 20) (by decide +kernel) (by decide) ?_
      refine w_blk hx hb hl (is := [(.iconst 0, (0 : Int32))]) (pc' := 21) (ls' := [(0, .ref (ga G 0)), (1, .int x1), (2, .int x2), (3, .ref oa)]) (st' := [.int (0 : Int32)]) (by decide +kernel) rfl (fun la hl => ?_)
      exact fin H1 locs1 la 1 6 21 (vp_updL f 0 res.1.2) 0 (by decide) (by decide) (by decide +kernel) (lP_R hP1) (lP_V hP1) (fun _ => by simp [vp_updL]) hS1 hc0.symm
    obtain ⟨t2, a1, b1⟩ := K T' rfl X'
    exact ⟨t2, hst t2 a1, b1⟩
  · obtain ⟨kS, kk⟩ := l_keep (A0 := fun q => gA G q ∨ q = oa) h0 e1 hF va_S.rf (fun q hq => Or.inl hq) (fun q hq => Or.inl hq) hL
    have hV1 : va_at (gD G) vwCl (oa, eO ly f) T'.heap := hV.kept (kk oa hV.lt hoa)
    have hR2 : Rep G res.2 T'.heap := by rw [e1]; exact hR1
    have K : vx_W p l e (rmU 7 1 6) s m ([.ref (ga G 0), .int x1, .int x2, .ref oa] : List Value).toArray below meth c T'.heap ([] ++ Lx) (0 + 1) (0 + 6) (vx_MQ below (QL G ly oa res) (fun _ _ _ => False) ([.ref (ga G 0), .int x1, .int x2, .ref oa] : List Value).toArray s 1 6 (fun q => gA G q ∨ q = oa)) (F0 m 5 la [.int (0 : Int32), .ref oa]) q := by
      rcases hec with ⟨rfl, hec⟩ | ⟨rfl, hec⟩
      · refine vx_catch hown [] ⟨0, 9, 12, 13⟩ [⟨0, 9, 16, 15⟩] htab (fun z hz => by cases hz) (by decide) (by decide) (hts _ (tt_at 1032 (by decide +kernel) rfl)) (va_Nw.use rfl (hE.2.2.1 _ (by decide +kernel))) (by rw [e1]; exact hce) hcv hcl ?_
        refine w_blk hx hb hl (is := [(.astore 4, 0), (.iconst 1, (1 : Int32))]) (pc' := 15) (ls' := (4, .ref q) :: [(0, .ref (ga G 0)), (1, .int x1), (2, .int x2), (3, .ref oa)]) (st' := [.int (1 : Int32)]) (by decide +kernel) rfl (fun la hl => ?_)
        exact fin _ _ la _ _ 15 f 1 (by decide) (by decide) (by decide +kernel) hR2 hV1 (fun h0 => absurd (hec.symm.trans h0) (by decide)) kS hec.symm
      · refine vx_catch hown [⟨0, 9, 12, 13⟩] ⟨0, 9, 16, 15⟩ [] htab (fun z hz => ?_) (by decide) (by decide) (hts _ (tt_at 1033 (by decide +kernel) rfl)) (va_Nw.use rfl (hE.2.2.1 _ (by decide +kernel))) (by rw [e1]; exact hce) hcv hcl ?_
        · simp only [List.mem_cons, List.not_mem_nil, or_false] at hz
          rcases hz with rfl
          exact Or.inr ⟨by decide, "java/lang/IllegalArgumentException", hts _ (tt_at 1032 (by decide +kernel) rfl), hE.2.2.2.2.1 ("java/lang/IllegalStateException", "java/lang/IllegalArgumentException") (by decide +kernel)⟩
        · refine w_blk hx hb hl (is := [(.astore 4, 0), (.iconst 2, (2 : Int32))]) (pc' := 19) (ls' := (4, .ref q) :: [(0, .ref (ga G 0)), (1, .int x1), (2, .int x2), (3, .ref oa)]) (st' := [.int (2 : Int32)]) (by decide +kernel) rfl (fun la hl => ?_)
          exact fin _ _ la _ _ 19 f 2 (by decide) (by decide) (by decide +kernel) hR2 hV1 (fun h0 => absurd (hec.symm.trans h0) (by decide)) kS hec.symm
    obtain ⟨t2, a1, b1⟩ := K T' rfl X'
    exact ⟨t2, hst.trans a1, b1⟩
