/-! bodies that throw and catch -/
def PreE (G : Gl) (σ : Mem) (As : List Value) : Array Value → State → Prop := va_Pc As (fun U => OkW G U ∧ Rep G σ U.heap ∧ (∀ q, U.heap.size ≤ q → gA G q) ∧ OkE (gA G) U)
theorem preE_blind {G : Gl} {σ : Mem} {As : List Value} : FrameBlind (PreE G σ As) := fun a U g mk q => ⟨q.1, okW_same rfl q.2.1, q.2.2.1, q.2.2.2.1, okE_same (u := U) rfl rfl q.2.2.2.2⟩
theorem rep_ext {G : Gl} {σ : Mem} {H H1 : Heap} (h : Rep G σ H) (hq : ∀ q : Nat, q < H.size → H1[q]? = H[q]?) : Rep G σ H1 := va_P.kept h (fun k q hk => hq _ (h k q hk).lt)
section THR
variable {G : Gl} {lv nL : Nat} {p : Program} {l : Launch} {e : Env} {s : State} {m : MethodId} {args : Array Value} {below : List Frame} {meth : Method} {c : Code} {Qc : Array Value → State → Outcome → State → Prop} {XC : String → State → State → Prop} {ro : Option Value × Mem} {σ : Mem} {ls : List (Nat × Value)} {st : List Value} {pc k n : Nat} {cc : ByteArray} {own : String} {ret : Option FieldType}
theorem v_thrW (hC : Ok G lv nL (p, l, e, s, m, args, below, meth, c, some (rmU lv 1 6, 0, 0, vx_MQ below Qc XC args s 1 6 (gA G))) cc own ret) (hl : l.stackTraces = false) (hE : OkE (gA G) s) (htab : ∀ x ∈ c.exceptionTable.toList, False) {cls text : String} {ik is ic : Nat} (he : cls ∈ EL) (hfit : Bundle.fit cls = true) (hk : Cond.classLink own ik cls ∈ TT) (hini : Cond.initialized cls ∈ TT) (hstr : (own, is, text) ∈ SL)
    (h1 : ∀ w ∈ (vx_atS own ic cls ["java/lang/RuntimeException", "java/lang/Exception"]).filter goodWord, w ∈ TT) (h2 : ∀ w ∈ (vx_atS own ic cls ["java/lang/RuntimeException", "java/lang/Exception"]).filter (fun w => !goodWord w), w ∈ Cond.castable cls cls :: DL.map Cond.declares) (h3 : ∀ w ∈ Cond.classLink own ik cls :: Cond.initialized cls :: vx_atS own ic cls ["java/lang/RuntimeException", "java/lang/Exception"], vx_ot w = true)
    (d0 : decode cc pc = .ok (.new ik, 3)) (d3 : decode cc (pc + 3) = .ok (.dup, 1)) (d4 : decode cc (pc + 4) = .ok (.ldc_w is, 3)) (d7 : decode cc (pc + 7) = .ok (.invokespecial ic, 3)) (d10 : decode cc (pc + 10) = .ok (.athrow, 1)) (hlv : 6 ≤ lv)
    (hx : ∀ t : State, Rep G σ t.heap → va_F (gA G) s t → XC cls s t) : V G lv nL (p, l, e, s, m, args, below, meth, c, some (rmU lv 1 6, 0, 0, vx_MQ below Qc XC args s 1 6 (gA G))) ro σ ls [] pc := by
  obtain ⟨hX, hb, hml, hown, hts, hOk, hlk, hA, hr, hrm⟩ := hC
  obtain ⟨sa, hs⟩ := hE.2.2.2.1 _ hstr
  intro H locs la hR hS hll
  exact vx_throwSW (own := own) (ik := ik) (ic := ic) (cls := cls) (text := text) (names := ["java/lang/RuntimeException", "java/lang/Exception"]) (sa := sa) (rest := []) hX hb hl hown hfit (by decide +kernel) (hts _ hk) (hts _ hini) hs (x_hat hts hE he h1 h2) h3 hE.1 hE.2.1 hS (hll.1.trans hml.symm) d0 d3 d4 d7 d10 (fun x hx => (htab x hx).elim) (by show 2 + 3 < lv; omega) (by show 0 + (13 * (2 + 1) + 43) ≤ 48 * lv; omega) (Nat.le_refl _) (Nat.le_refl _) hlk (fun t _ hz hq => hx t (rep_ext hR hq) ⟨Nat.le_trans hS.1 hz, fun q a1 a2 => by rw [hq q (Nat.lt_of_lt_of_le a1 hS.1)]; exact hS.2.1 q a1 a2⟩) hS.2.2 (Nat.le_refl _) (Nat.le_refl _)
theorem v_lretE (hC : Ok G lv nL (p, l, e, s, m, args, below, meth, c, some (rmU lv 1 6, k, n, vx_MQ below Qc XC args s 1 6 (gA G))) cc own ret) (hr : meth.sig.returnType = some .long) (hk : k ≤ 1) (hn : n ≤ 6) {x : Int64} (hQ : ∀ t : State, Rep G σ t.heap → va_F (gA G) s t → Qc args s (.returned (some (.long x))) t) (hd : decode cc pc = .ok (.lreturn, 1)) : V G lv nL (p, l, e, s, m, args, below, meth, c, some (rmU lv 1 6, k, n, vx_MQ below Qc XC args s 1 6 (gA G))) ro σ ls [.long x] pc := by
  obtain ⟨hX, hb, hml, hown, hts, hOk, hlk, hA, -, hrm⟩ := hC
  intro H locs la hR hS hll
  exact vx_ret (W.widen (k := 1) (n := 6) hk hn (W.lret hX hb hr (fun t ht hW => hQ t (by rw [ht]; exact hR) (hS.F ht)) hS.2.2 hd hlk))
theorem v_iretE (hC : Ok G lv nL (p, l, e, s, m, args, below, meth, c, some (rmU lv 1 6, k, n, vx_MQ below Qc XC args s 1 6 (gA G))) cc own ret) (hr : meth.sig.returnType = some .int) (hk : k ≤ 1) (hn : n ≤ 6) {x : Int32} (hQ : ∀ t : State, Rep G σ t.heap → va_F (gA G) s t → Qc args s (.returned (some (.int x))) t) (hd : decode cc pc = .ok (.ireturn, 1)) : V G lv nL (p, l, e, s, m, args, below, meth, c, some (rmU lv 1 6, k, n, vx_MQ below Qc XC args s 1 6 (gA G))) ro σ ls [.int x] pc := by
  obtain ⟨hX, hb, hml, hown, hts, hOk, hlk, hA, -, hrm⟩ := hC
  intro H locs la hR hS hll
  exact vx_ret (W.widen (k := 1) (n := 6) hk hn (W.iret hX hb hr (fun t ht hW => hQ t (by rw [ht]; exact hR) (hS.F ht)) hS.2.2 hd hlk))
/-- a call of a kind's fail -/
theorem v_fail (hC : Ok G lv nL (p, l, e, s, m, args, below, meth, c, some (rmU lv 1 6, 0, 0, vx_MQ below Qc XC args s 1 6 (gA G))) cc own ret) (hE : OkE (gA G) s) {C : String} {y : MethodName} {yc : ByteArray} {o ci idx N : Nat} {fs : (Nat → Int32) → List Value} {T : u_T} {E0 : Option String} (hL : CU own idx C yX7_fail y yc 1 none 0) (hO : isO G o ci fs) (hc : vwCl[ci]? = some (C, T, N)) (hM : MetF (gA G) l y yc 6 (ga G o) E0) (hlv : 7 ≤ lv) (hd : decode cc pc = .ok (.invokevirtual idx, 3))
    (kn : E0 = none → V G lv nL (p, l, e, s, m, args, below, meth, c, some (rmU lv 1 6, 1, 6, vx_MQ below Qc XC args s 1 6 (gA G))) ro σ ls [] (pc + 3))
    (kx : ∀ E : String, E0 = some E → ∀ (H : Heap) (locs : List Loc) (la : Array Slot) (q : Nat) (ce : Cell), Rep G σ H → va_S (gA G) s.heap H locs → lv_has la nL ls → H[q]? = some ce → ce.vm = .none → s.vm.findClass E = some ce.cls → vx_W p l e (rmU lv 1 6) s m args below meth c H locs 1 6 (vx_MQ below Qc XC args s 1 6 (gA G)) (F0 m pc la []) q) : V G lv nL (p, l, e, s, m, args, below, meth, c, some (rmU lv 1 6, 0, 0, vx_MQ below Qc XC args s 1 6 (gA G))) ro σ ls [.ref (ga G o)] pc := by
  obtain ⟨hX, hb, hml', hown, hts, hOk, hlk, hA, hr, hrm⟩ := hC
  obtain ⟨h1, h2, h3, h4, h5, h6, h7, ⟨b0, m0, r0, h8⟩, h9⟩ := hL
  have hG : GoodIn TT (va_wsO own idx C yX7_fail.cls yX7_fail y (.code y yc 1 none :: TT)) := fun w hw => by
    rcases List.mem_append.mp hw with hw | hw
    · have hm : w ∈ TT := by
        simp only [List.mem_cons, List.not_mem_nil, or_false] at hw
        rcases hw with rfl | rfl | rfl | rfl | rfl | rfl
        · exact h1
        · exact h2
        · exact h3
        · exact h4
        · exact h5
        · exact h6
      exact ⟨hm, tt_good _ hm⟩
    · exact tt_call h7 w hw
  intro H locs la hR hS hll T hT X
  have hrun := vx_runU (H := H) (locs := locs) (cells := 0) (slots := 0) (As := []) (rest := []) (g := F0 m pc la [.ref (ga G o)]) (R := rmU lv 1 6) (e := e) (below := below) (p := p) (meth := meth) ⟨hX, hb, hml', hown, hts⟩ hM (va_cwO 0 hts hG rfl rfl rfl h8 h9 ⟨by show 6 + 1 ≤ lv; omega, by show 8 + (1 + 11) + 48 * 6 ≤ 48 * lv; omega⟩) ⟨okE_blind, va_recv hOk.1 hR hc (isO_up hO σ), fun U hU hW => ⟨rfl, okE_next (locs := locs) hW (by rw [hU]; exact hS) hE⟩⟩ rfl rfl hll.1 rfl (Nat.zero_le _) hd ⟨Nat.le_refl _, Nat.le_refl _⟩
  have keep : ∀ (st₀ t T' : State) (L : List Loc), st₀.heap = H → (∀ z ∈ L, False) → T'.heap = t.heap → ext st₀ t → Rep G σ T'.heap ∧ va_S (gA G) s.heap T'.heap (locs ++ L) := by
    intro st₀ t T' L h0 hL e1 hx
    rw [ext, h0] at hx
    refine ⟨rep_ext hR (fun q hq => by rw [e1]; exact hx.2 q hq), Nat.le_trans hS.1 (by rw [e1]; exact hx.1), fun q a1 a2 => by rw [e1, hx.2 q (Nat.lt_of_lt_of_le a1 hS.1)]; exact hS.2.1 q a1 a2, fun z hz => ?_⟩
    rcases List.mem_append.mp hz with hz | hz
    · exact hS.2.2 z hz
    · exact (hL z hz).elim
  rcases hrun T hT X with ⟨v, st₀, t, T', L, h0, X', hL, e1, e2, ⟨hv, he, hx⟩, hst⟩ | ⟨q, st₀, t, T', L, E, ce, h0, X', hL, e1, e2, ⟨he, hx⟩, hce, hcv, hcl, hst⟩
  · cases hv
    obtain ⟨kR, kS⟩ := keep st₀ t T' L h0 hL e1 hx
    obtain ⟨t2, a1, b1⟩ := kn he T'.heap (locs ++ L) la kR kS hll T' rfl X'
    exact ⟨t2, hst t2 a1, b1⟩
  · obtain ⟨kR, kS⟩ := keep st₀ t T' L h0 hL e1 hx
    obtain ⟨t2, a1, b1⟩ := kx E he T'.heap (locs ++ L) la q ce kR kS hll (by rw [e1]; exact hce) hcv hcl T' rfl X'
    exact ⟨t2, hst.trans a1, b1⟩
end THR
def p_X11_element (x1 x2 : Int32) (σ : Mem) : Option ((Int32 × Int64) × Mem) := (bnd (p_X11_isShelf x1 σ) fun v1 s2 => (if v1 = 0 then some (((1 : Int32), (0 : Int64)), s2) else (bnd (p_X11_refusal x1 (2 : Int32) s2) fun v4 s5 => (if v4 = 0 then (if x1 < 0 ∨ 8 ≤ (x1).toNatClampNeg then none else (lt (s5 (6 + (x1).toNatClampNeg) 5) fun v8 => (bnd (p_X11_within x2 (0 : Int32) (v8 - (1 : Int32)) s5) fun v9 s10 => (if v9 = 0 then some (((2 : Int32), (0 : Int64)), s10) else (if x1 < 0 ∨ 8 ≤ (x1).toNatClampNeg then none else (if x2 < 0 ∨ 100 ≤ (x2).toNatClampNeg then none else lt (s10 (8 + (6 + (x1).toNatClampNeg)) (x2).toNatClampNeg) fun v13 => some (((0 : Int32), (Int32.toInt64 v13)), s10))))))) else some (((2 : Int32), (0 : Int64)), s5)))))
set_option maxHeartbeats 4000000 in
set_option maxRecDepth 100000 in
theorem c_X11_element {G : Gl} {l : Launch} (hlt : l.stackTraces = false) {x1 x2 : Int32} {σ : Mem} {res : (Int32 × Int64) × Mem} (h : p_X11_element x1 x2 σ = some res) : vx_Met l yX11_element (.code yX11_element cX11_element 3 (some .long) :: TT) (rmU 6 1 6) (PreE G σ [.ref (ga G 0), .int x1, .int x2]) (fun _ st oc t => res.1.1 = 0 ∧ oc = .returned (some (.long res.1.2)) ∧ Rep G res.2 t.heap ∧ va_F (gA G) st t) (fun E st t => ((E = "java/lang/IllegalArgumentException" ∧ res.1.1 = 1) ∨ (E = "java/lang/IllegalStateException" ∧ res.1.1 = 2)) ∧ Rep G res.2 t.heap ∧ va_F (gA G) st t) 1 6 (gA G) := by
  refine vx_ofW (cc := cX11_element) (maxL := 3) (ret := (some .long)) (by decide +kernel) rfl ?_
  intro p e s m args below meth c s₁ B hml ht hv
  obtain ⟨rfl, hO, hR, hA, hE⟩ := hv
  have hts0 := atoms_spec B.pre
  have hts : ∀ w ∈ TT, w.before ([.ref (ga G 0), .int x1, .int x2] : List Value).toArray s = true := fun w hw => hts0 w (List.mem_cons_of_mem _ hw)
  have hC : Ok G 6 3 (p, l, e, s, m, ([.ref (ga G 0), .int x1, .int x2] : List Value).toArray, below, meth, c, some (rmU 6 1 6, 0, 0, vx_MQ below (fun _ st oc t => res.1.1 = 0 ∧ oc = .returned (some (.long res.1.2)) ∧ Rep G res.2 t.heap ∧ va_F (gA G) st t) (fun E st t => ((E = "java/lang/IllegalArgumentException" ∧ res.1.1 = 1) ∨ (E = "java/lang/IllegalStateException" ∧ res.1.1 = 2)) ∧ Rep G res.2 t.heap ∧ va_F (gA G) st t) ([.ref (ga G 0), .int x1, .int x2] : List Value).toArray s 1 6 (gA G))) cX11_element RX11 (some .float) := ⟨B.exec, B.bytes, hml, findClass_of_methodNamed B.named, hts, hO, B.notSynchronized, hA, Or.inr rfl, Nat.le_refl _, Nat.le_refl _, Nat.zero_le _, Nat.zero_le _⟩
  have hll := lv_entry ([.ref (ga G 0), .int x1, .int x2]) (n := 3) (Nat.le_of_ble_eq_true rfl)
  rw [lg_entry_eq]
  suffices hV : V G 6 3 (p, l, e, s, m, ([.ref (ga G 0), .int x1, .int x2] : List Value).toArray, below, meth, c, some (rmU 6 1 6, 0, 0, vx_MQ below (fun _ st oc t => res.1.1 = 0 ∧ oc = .returned (some (.long res.1.2)) ∧ Rep G res.2 t.heap ∧ va_F (gA G) st t) (fun E st t => ((E = "java/lang/IllegalArgumentException" ∧ res.1.1 = 1) ∨ (E = "java/lang/IllegalStateException" ∧ res.1.1 = 2)) ∧ Rep G res.2 t.heap ∧ va_F (gA G) st t) ([.ref (ga G 0), .int x1, .int x2] : List Value).toArray s 1 6 (gA G))) (none, σ) σ [(0, .ref (ga G 0)), (1, .int x1), (2, .int x2)] [] 0 from hV s.heap [] _ hR va_S.rf hll
  unfold p_X11_element at h
  refine v_blk hC (is := [(.iload_n 1, 0)]) (pc' := 1) (ls' := [(0, .ref (ga G 0)), (1, .int x1), (2, .int x2)]) (st' := [.int x1]) (by decide +kernel) rfl ?_
  obtain ⟨v1, s2, e3, h⟩ := bndI h
  refine v_cS (idx := 258) hC ⟨tt_at 297 (by decide +kernel) rfl, tsX11_isShelf, tnX11_isShelf, tcX11_isShelf, tmX11_isShelf⟩ (c_X11_isShelf e3) (by decide) (by decide) (by decide +kernel) (rest := []) rfl rfl (Nat.le_of_ble_eq_true rfl) rfl ?_
  refine v_if_ne hC (off := 14) (tgt := 18) (by decide +kernel) (by decide) h (fun hq h => ?_) (fun hq h => ?_)
  · refine v_blk hC (is := [(.aload_n 0, 0), (.iload_n 1, 0), (.iconst 2, (2 : Int32))]) (pc' := 21) (ls' := [(0, .ref (ga G 0)), (1, .int x1), (2, .int x2)]) (st' := [.int (2 : Int32), .int x1, .ref (ga G 0)]) (by decide +kernel) rfl ?_
    obtain ⟨v4, s5, e6, h⟩ := bndI h
    refine v_cV (idx := 36) hC ⟨tt_at 293 (by decide +kernel) rfl, tiX11_refusal, tvX11_refusal, tnX11_refusal, tcX11_refusal, tmX11_refusal⟩ isO_X11 rfl (c_X11_refusal e6) (by decide) (by decide) (by decide +kernel) (rest := []) rfl rfl (Nat.le_of_ble_eq_true rfl) rfl ?_
    refine v_if_eq hC (off := 14) (tgt := 38) (by decide +kernel) (by decide) h (fun hq h => ?_) (fun hq h => ?_)
    · refine v_blk hC (is := [(.iload_n 2, 0), (.iconst 0, (0 : Int32)), (.aload_n 0, 0)]) (pc' := 41) (ls' := [(0, .ref (ga G 0)), (1, .int x1), (2, .int x2)]) (st' := [.ref (ga G 0), .int (0 : Int32), .int x2]) (by decide +kernel) rfl ?_
      refine gX11_4 hC lfX11_31 (by decide +kernel) ?_
      refine v_blk hC (is := [(.iload_n 1, 0)]) (pc' := 45) (ls' := [(0, .ref (ga G 0)), (1, .int x1), (2, .int x2)]) (st' := [.int x1, .ref (ga G 5), .int (0 : Int32), .int x2]) (by decide +kernel) rfl ?_
      refine v_aald hC (t0 := 2) (by decide) enr_shelves rfl (by decide +kernel) h (fun hi7 h => ?_)
      refine gX8_5 hC (shelf_at hi7) lfX11_52 (by decide +kernel) h (fun v8 h => ?_)
      refine v_blk hC (is := [(.iconst 1, (1 : Int32)), (.isub, 0)]) (pc' := 51) (ls' := [(0, .ref (ga G 0)), (1, .int x1), (2, .int x2)]) (st' := [.int (v8 - (1 : Int32)), .int (0 : Int32), .int x2]) (by decide +kernel) rfl ?_
      obtain ⟨v9, s10, e11, h⟩ := bndI h
      refine v_cS (idx := 168) hC ⟨tt_at 300 (by decide +kernel) rfl, tsX11_within, tnX11_within, tcX11_within, tmX11_within⟩ (c_X11_within e11) (by decide) (by decide) (by decide +kernel) (rest := []) rfl rfl (Nat.le_of_ble_eq_true rfl) rfl ?_
      refine v_if_ne hC (off := 14) (tgt := 68) (by decide +kernel) (by decide) h (fun hq h => ?_) (fun hq h => ?_)
      · refine v_blk hC (is := [(.aload_n 0, 0)]) (pc' := 69) (ls' := [(0, .ref (ga G 0)), (1, .int x1), (2, .int x2)]) (st' := [.ref (ga G 0)]) (by decide +kernel) rfl ?_
        refine gX11_4 hC lfX11_31 (by decide +kernel) ?_
        refine v_blk hC (is := [(.iload_n 1, 0)]) (pc' := 73) (ls' := [(0, .ref (ga G 0)), (1, .int x1), (2, .int x2)]) (st' := [.int x1, .ref (ga G 5)]) (by decide +kernel) rfl ?_
        refine v_aald hC (t0 := 2) (by decide) enr_shelves rfl (by decide +kernel) h (fun hi12 h => ?_)
        refine gX8_0 hC (shelf_at hi12) lfX11_239 (by decide +kernel) ?_
        refine v_blk hC (is := [(.iload_n 2, 0)]) (pc' := 78) (ls' := [(0, .ref (ga G 0)), (1, .int x1), (2, .int x2)]) (st' := [.int x2, .ref (ga G (8 + (6 + (x1).toNatClampNeg)))]) (by decide +kernel) rfl ?_
        refine v_iald hC (isA_cells (shelf_at hi12)) (al_cells (shelf_at hi12)) (by decide +kernel) h (fun v13 h => ?_)
        refine v_blk hC (is := [(.i2l, 0)]) (pc' := 80) (ls' := [(0, .ref (ga G 0)), (1, .int x1), (2, .int x2)]) (st' := [.long (Int32.toInt64 v13)]) (by decide +kernel) rfl ?_
        (cases h; exact v_lretE hC B.returns (by decide) (by decide) (fun t h1 h2 => ⟨rfl, rfl, h1, h2⟩) (by decide +kernel))
      · (cases h; exact v_thrW hC hlt hE ht (cls := "java/lang/IllegalStateException") (text := "no such place") (ik := 281) (is := 286) (ic := 285) (by decide +kernel) (by decide +kernel) (tt_at 909 (by decide +kernel) rfl) (tt_at 88 (by decide +kernel) rfl) (by decide +kernel) xgX11_285 xbX11_285 xoX11_285 (by decide +kernel) (by decide +kernel) (by decide +kernel) (by decide +kernel) (by decide +kernel) (by decide) (fun t h1 h2 => ⟨Or.inr ⟨rfl, rfl⟩, h1, h2⟩))
    · (cases h; exact v_thrW hC hlt hE ht (cls := "java/lang/IllegalStateException") (text := "no row") (ik := 281) (is := 283) (ic := 285) (by decide +kernel) (by decide +kernel) (tt_at 909 (by decide +kernel) rfl) (tt_at 88 (by decide +kernel) rfl) (by decide +kernel) xgX11_285 xbX11_285 xoX11_285 (by decide +kernel) (by decide +kernel) (by decide +kernel) (by decide +kernel) (by decide +kernel) (by decide) (fun t h1 h2 => ⟨Or.inr ⟨rfl, rfl⟩, h1, h2⟩))
  · (cases h; exact v_thrW hC hlt hE ht (cls := "java/lang/IllegalArgumentException") (text := "no such shelf") (ik := 274) (is := 276) (ic := 278) (by decide +kernel) (by decide +kernel) (tt_at 910 (by decide +kernel) rfl) (tt_at 87 (by decide +kernel) rfl) (by decide +kernel) xgX11_278 xbX11_278 xoX11_278 (by decide +kernel) (by decide +kernel) (by decide +kernel) (by decide +kernel) (by decide +kernel) (by decide) (fun t h1 h2 => ⟨Or.inl ⟨rfl, rfl⟩, h1, h2⟩))
def tk (k : Nat) : Nat := if k = 1 then 2 else if k = 3 then 0 else if k = 4 then 3 else if k = 7 then 0 else 1
def p_toss_T (o : Nat) (x3 : Int32) (σ : Mem) : Option (Int32 × Mem) := if tk ((o - 41) % 8) = 0 then some (-15, σ) else if tk ((o - 41) % 8) = 3 then bnd (p_K_price o x3 σ) (fun v s1 => some (200 + v, s1)) else if tk ((o - 41) % 8) = 2 then some (100 + x3, σ) else some (x3, σ)
section TOSS
variable {G : Gl} {p : Program} {l : Launch} {e : Env} {s : State} {m : MethodId} {args : Array Value} {below : List Frame} {meth : Method} {c : Code} {ro : Option Value × Mem} {σ : Mem} {res : Int32 × Mem} {o : Nat} {x3 : Int32}
theorem toss_n (hC : Ok G 7 6 (p, l, e, s, m, args, below, meth, c, some (rmU 7 1 6, 1, 6, vx_MQ below (fun _ st oc t => oc = .returned (some (.int res.1)) ∧ Rep G res.2 t.heap ∧ va_F (gA G) st t) (fun _ _ _ => False) args s 1 6 (gA G))) cX11_toss RX11 (some .float)) (hr : meth.sig.returnType = some .int) (h : some ((-15 : Int32), σ) = some res) : V G 7 6 (p, l, e, s, m, args, below, meth, c, some (rmU 7 1 6, 1, 6, vx_MQ below (fun _ st oc t => oc = .returned (some (.int res.1)) ∧ Rep G res.2 t.heap ∧ va_F (gA G) st t) (fun _ _ _ => False) args s 1 6 (gA G))) ro σ [(4, .ref (ga G o)), (3, .int x3)] [] 54 := by
  cases h
  refine v_goto hC (off := 27) (tgt := 81) (by decide +kernel) (by decide) ?_
  refine v_blk hC (is := [(.bipush (-15), (-15 : Int32))]) (pc' := 83) (ls' := [(4, .ref (ga G o)), (3, .int x3)]) (st' := [.int (-15 : Int32)]) (by decide +kernel) rfl ?_
  exact v_iretE hC hr (by decide) (by decide) (fun t h1 h2 => ⟨rfl, h1, h2⟩) (by decide +kernel)
theorem toss_3 (hC : Ok G 7 6 (p, l, e, s, m, args, below, meth, c, some (rmU 7 1 6, 1, 6, vx_MQ below (fun _ st oc t => oc = .returned (some (.int res.1)) ∧ Rep G res.2 t.heap ∧ va_F (gA G) st t) (fun _ _ _ => False) args s 1 6 (gA G))) cX11_toss RX11 (some .float)) (hE : OkE (gA G) s) (hr : meth.sig.returnType = some .int) (htab : c.exceptionTable.toList = tableOf [(49, 54, 57, 307), (49, 54, 70, 281), (49, 54, 77, 274)]) (ho : isSailor o) (h : bnd (p_K_price o x3 σ) (fun v s1 => some (200 + v, s1)) = some res) {H : Heap} {locs : List Loc} {la : Array Slot} {q : Nat} {ce : Cell} (hR : Rep G σ H) (hS : va_S (gA G) s.heap H locs) (hl : lv_has la 6 [(4, .ref (ga G o)), (3, .int x3)]) (hce : H[q]? = some ce) (hcv : ce.vm = .none) (hcl : s.vm.findClass "java/lang/UnsupportedOperationException" = some ce.cls) : vx_W p l e (rmU 7 1 6) s m args below meth c H locs 1 6 (vx_MQ below (fun _ st oc t => oc = .returned (some (.int res.1)) ∧ Rep G res.2 t.heap ∧ va_F (gA G) st t) (fun _ _ _ => False) args s 1 6 (gA G)) (F0 m 51 la []) q := by
  have hV : V G 7 6 (p, l, e, s, m, args, below, meth, c, some (rmU 7 1 6, 1, 6, vx_MQ below (fun _ st oc t => oc = .returned (some (.int res.1)) ∧ Rep G res.2 t.heap ∧ va_F (gA G) st t) (fun _ _ _ => False) args s 1 6 (gA G))) (none, σ) σ [(4, .ref (ga G o)), (3, .int x3)] [.ref q] 57 := by
    obtain ⟨v1, s1, e1, h⟩ := bndI h
    cases h
    refine v_blk hC (is := [(.astore 5, 0), (.sipush 200, (200 : Int32)), (.aload 4, 0), (.iload_n 3, 0)]) (pc' := 65) (ls' := [(5, .ref q), (4, .ref (ga G o)), (3, .int x3)]) (st' := [.int x3, .ref (ga G o), .int (200 : Int32)]) (by decide +kernel) rfl ?_
    refine kX11_price hC e1 (by decide) (by decide +kernel) (rest := [.int (200 : Int32)]) rfl (Nat.le_of_ble_eq_true rfl) rfl ?_
    refine v_blk hC (is := [(.iadd, 0)]) (pc' := 69) (ls' := [(5, .ref q), (4, .ref (ga G o)), (3, .int x3)]) (st' := [.int ((200 : Int32) + v1)]) (by decide +kernel) rfl ?_
    exact v_iretE hC hr (by decide) (by decide) (fun t h1 h2 => ⟨rfl, h1, h2⟩) (by decide +kernel)
  obtain ⟨-, -, -, hown, hts, -⟩ := hC
  exact vx_catch hown [] ⟨49, 54, 57, 307⟩ [⟨49, 54, 70, 281⟩, ⟨49, 54, 77, 274⟩] htab (fun z hz => by cases hz) (by decide) (by decide) (hts _ (tt_at 908 (by decide +kernel) rfl)) (va_Nw.use rfl (hE.2.2.1 _ (by decide +kernel))) hce hcv hcl (hV H locs la hR hS hl)
theorem toss_2 (hC : Ok G 7 6 (p, l, e, s, m, args, below, meth, c, some (rmU 7 1 6, 1, 6, vx_MQ below (fun _ st oc t => oc = .returned (some (.int res.1)) ∧ Rep G res.2 t.heap ∧ va_F (gA G) st t) (fun _ _ _ => False) args s 1 6 (gA G))) cX11_toss RX11 (some .float)) (hE : OkE (gA G) s) (hr : meth.sig.returnType = some .int) (htab : c.exceptionTable.toList = tableOf [(49, 54, 57, 307), (49, 54, 70, 281), (49, 54, 77, 274)]) (ho : isSailor o) (h : some ((100 : Int32) + x3, σ) = some res) {H : Heap} {locs : List Loc} {la : Array Slot} {q : Nat} {ce : Cell} (hR : Rep G σ H) (hS : va_S (gA G) s.heap H locs) (hl : lv_has la 6 [(4, .ref (ga G o)), (3, .int x3)]) (hce : H[q]? = some ce) (hcv : ce.vm = .none) (hcl : s.vm.findClass "java/lang/IllegalStateException" = some ce.cls) : vx_W p l e (rmU 7 1 6) s m args below meth c H locs 1 6 (vx_MQ below (fun _ st oc t => oc = .returned (some (.int res.1)) ∧ Rep G res.2 t.heap ∧ va_F (gA G) st t) (fun _ _ _ => False) args s 1 6 (gA G)) (F0 m 51 la []) q := by
  have hV : V G 7 6 (p, l, e, s, m, args, below, meth, c, some (rmU 7 1 6, 1, 6, vx_MQ below (fun _ st oc t => oc = .returned (some (.int res.1)) ∧ Rep G res.2 t.heap ∧ va_F (gA G) st t) (fun _ _ _ => False) args s 1 6 (gA G))) (none, σ) σ [(4, .ref (ga G o)), (3, .int x3)] [.ref q] 70 := by
    cases h
    refine v_blk hC (is := [(.astore 5, 0), (.bipush 100, (100 : Int32)), (.iload_n 3, 0), (.iadd, 0)]) (pc' := 76) (ls' := [(5, .ref q), (4, .ref (ga G o)), (3, .int x3)]) (st' := [.int ((100 : Int32) + x3)]) (by decide +kernel) rfl ?_
    exact v_iretE hC hr (by decide) (by decide) (fun t h1 h2 => ⟨rfl, h1, h2⟩) (by decide +kernel)
  obtain ⟨-, -, -, hown, hts, -⟩ := hC
  exact vx_catch hown [⟨49, 54, 57, 307⟩] ⟨49, 54, 70, 281⟩ [⟨49, 54, 77, 274⟩] htab (fun z hz => by
    simp only [List.mem_cons, List.not_mem_nil, or_false] at hz
    rcases hz with rfl
    · exact Or.inr ⟨by decide, "java/lang/UnsupportedOperationException", hts _ (tt_at 908 (by decide +kernel) rfl), hE.2.2.2.2.1 ("java/lang/IllegalStateException", "java/lang/UnsupportedOperationException") (by decide +kernel)⟩) (by decide) (by decide) (hts _ (tt_at 909 (by decide +kernel) rfl)) (va_Nw.use rfl (hE.2.2.1 _ (by decide +kernel))) hce hcv hcl (hV H locs la hR hS hl)
theorem toss_1 (hC : Ok G 7 6 (p, l, e, s, m, args, below, meth, c, some (rmU 7 1 6, 1, 6, vx_MQ below (fun _ st oc t => oc = .returned (some (.int res.1)) ∧ Rep G res.2 t.heap ∧ va_F (gA G) st t) (fun _ _ _ => False) args s 1 6 (gA G))) cX11_toss RX11 (some .float)) (hE : OkE (gA G) s) (hr : meth.sig.returnType = some .int) (htab : c.exceptionTable.toList = tableOf [(49, 54, 57, 307), (49, 54, 70, 281), (49, 54, 77, 274)]) (ho : isSailor o) (h : some (x3, σ) = some res) {H : Heap} {locs : List Loc} {la : Array Slot} {q : Nat} {ce : Cell} (hR : Rep G σ H) (hS : va_S (gA G) s.heap H locs) (hl : lv_has la 6 [(4, .ref (ga G o)), (3, .int x3)]) (hce : H[q]? = some ce) (hcv : ce.vm = .none) (hcl : s.vm.findClass "java/lang/IllegalArgumentException" = some ce.cls) : vx_W p l e (rmU 7 1 6) s m args below meth c H locs 1 6 (vx_MQ below (fun _ st oc t => oc = .returned (some (.int res.1)) ∧ Rep G res.2 t.heap ∧ va_F (gA G) st t) (fun _ _ _ => False) args s 1 6 (gA G)) (F0 m 51 la []) q := by
  have hV : V G 7 6 (p, l, e, s, m, args, below, meth, c, some (rmU 7 1 6, 1, 6, vx_MQ below (fun _ st oc t => oc = .returned (some (.int res.1)) ∧ Rep G res.2 t.heap ∧ va_F (gA G) st t) (fun _ _ _ => False) args s 1 6 (gA G))) (none, σ) σ [(4, .ref (ga G o)), (3, .int x3)] [.ref q] 77 := by
    cases h
    refine v_blk hC (is := [(.astore 5, 0), (.iload_n 3, 0)]) (pc' := 80) (ls' := [(5, .ref q), (4, .ref (ga G o)), (3, .int x3)]) (st' := [.int x3]) (by decide +kernel) rfl ?_
    exact v_iretE hC hr (by decide) (by decide) (fun t h1 h2 => ⟨rfl, h1, h2⟩) (by decide +kernel)
  obtain ⟨-, -, -, hown, hts, -⟩ := hC
  exact vx_catch hown [⟨49, 54, 57, 307⟩, ⟨49, 54, 70, 281⟩] ⟨49, 54, 77, 274⟩ [] htab (fun z hz => by
    simp only [List.mem_cons, List.not_mem_nil, or_false] at hz
    rcases hz with rfl | rfl
    · exact Or.inr ⟨by decide, "java/lang/UnsupportedOperationException", hts _ (tt_at 908 (by decide +kernel) rfl), hE.2.2.2.2.1 ("java/lang/IllegalArgumentException", "java/lang/UnsupportedOperationException") (by decide +kernel)⟩
    · exact Or.inr ⟨by decide, "java/lang/IllegalStateException", hts _ (tt_at 909 (by decide +kernel) rfl), hE.2.2.2.2.1 ("java/lang/IllegalArgumentException", "java/lang/IllegalStateException") (by decide +kernel)⟩) (by decide) (by decide) (hts _ (tt_at 910 (by decide +kernel) rfl)) (va_Nw.use rfl (hE.2.2.1 _ (by decide +kernel))) hce hcv hcl (hV H locs la hR hS hl)
theorem v_toss (hC : Ok G 7 6 (p, l, e, s, m, args, below, meth, c, some (rmU 7 1 6, 0, 0, vx_MQ below (fun _ st oc t => oc = .returned (some (.int res.1)) ∧ Rep G res.2 t.heap ∧ va_F (gA G) st t) (fun _ _ _ => False) args s 1 6 (gA G))) cX11_toss RX11 (some .float)) (hlt : l.stackTraces = false) (hE : OkE (gA G) s) (hr : meth.sig.returnType = some .int) (htab : c.exceptionTable.toList = tableOf [(49, 54, 57, 307), (49, 54, 70, 281), (49, 54, 77, 274)]) (ho : isSailor o) (_ : True) (h : p_toss_T o x3 σ = some res) : V G 7 6 (p, l, e, s, m, args, below, meth, c, some (rmU 7 1 6, 0, 0, vx_MQ below (fun _ st oc t => oc = .returned (some (.int res.1)) ∧ Rep G res.2 t.heap ∧ va_F (gA G) st t) (fun _ _ _ => False) args s 1 6 (gA G))) ro σ [(4, .ref (ga G o)), (3, .int x3)] [.ref (ga G o)] 51 := by
  have hC1 : Ok G 7 6 (p, l, e, s, m, args, below, meth, c, some (rmU 7 1 6, 1, 6, vx_MQ below (fun _ st oc t => oc = .returned (some (.int res.1)) ∧ Rep G res.2 t.heap ∧ va_F (gA G) st t) (fun _ _ _ => False) args s 1 6 (gA G))) cX11_toss RX11 (some .float) := by
    obtain ⟨h1, h2, h3, h4, h5, h6, h7, h8, h9, h10, h11, -, -⟩ := hC
    exact ⟨h1, h2, h3, h4, h5, h6, h7, h8, Or.inr rfl, h10, h11, Nat.le_refl _, Nat.le_refl _⟩
  have hO := isO_S (G := G) ho
  have hm : (o - 41) % 8 < 8 := Nat.mod_lt _ (by decide)
  unfold p_toss_T at h
  by_cases hk : (o - 41) % 8 = 0
  · rw [hk] at hO
    have ht : tk ((o - 41) % 8) = 1 := by rw [hk]; rfl
    rw [if_neg (by rw [ht]; decide), if_neg (by rw [ht]; decide), if_neg (by rw [ht]; decide)] at h
    exact v_fail (idx := 304) (C := RX7) (y := yX7_fail) hC hE ⟨tt_at 911 (by decide +kernel) rfl, tt_at 914 (by decide +kernel) rfl, tiX7_fail, tt_at 913 (by decide +kernel) rfl, tiX7_fail, tnX7_fail, tcX7_fail, ⟨_, _, _, tcX7_fail⟩, tmX7_fail⟩ hO rfl (c_X7_fail l hlt (ga G o)) (by decide) (by decide +kernel) (fun hE1 => by cases hE1) (fun E hE1 H locs la q ce hR hS hl hce hcv hcl => by cases hE1; exact toss_1 hC1 hE hr htab ho h hR hS hl hce hcv hcl)
  by_cases hk : (o - 41) % 8 = 1
  · rw [hk] at hO
    have ht : tk ((o - 41) % 8) = 2 := by rw [hk]; rfl
    rw [if_neg (by rw [ht]; decide), if_neg (by rw [ht]; decide), if_pos ht] at h
    exact v_fail (idx := 304) (C := RX0) (y := yX0_fail) hC hE ⟨tt_at 911 (by decide +kernel) rfl, tt_at 914 (by decide +kernel) rfl, tiX7_fail, tt_at 915 (by decide +kernel) rfl, tiX0_fail, tnX0_fail, tcX0_fail, ⟨_, _, _, tcX7_fail⟩, tmX7_fail⟩ hO rfl (c_X0_fail l hlt (ga G o)) (by decide) (by decide +kernel) (fun hE1 => by cases hE1) (fun E hE1 H locs la q ce hR hS hl hce hcv hcl => by cases hE1; exact toss_2 hC1 hE hr htab ho h hR hS hl hce hcv hcl)
  by_cases hk : (o - 41) % 8 = 2
  · rw [hk] at hO
    have ht : tk ((o - 41) % 8) = 1 := by rw [hk]; rfl
    rw [if_neg (by rw [ht]; decide), if_neg (by rw [ht]; decide), if_neg (by rw [ht]; decide)] at h
    exact v_fail (idx := 304) (C := RX1) (y := yX7_fail) hC hE ⟨tt_at 911 (by decide +kernel) rfl, tt_at 914 (by decide +kernel) rfl, tiX7_fail, tt_at 986 (by decide +kernel) rfl, tiX7_fail, tnX7_fail, tcX7_fail, ⟨_, _, _, tcX7_fail⟩, tmX7_fail⟩ hO rfl (c_X7_fail l hlt (ga G o)) (by decide) (by decide +kernel) (fun hE1 => by cases hE1) (fun E hE1 H locs la q ce hR hS hl hce hcv hcl => by cases hE1; exact toss_1 hC1 hE hr htab ho h hR hS hl hce hcv hcl)
  by_cases hk : (o - 41) % 8 = 3
  · rw [hk] at hO
    have ht : tk ((o - 41) % 8) = 0 := by rw [hk]; rfl
    rw [if_pos ht] at h
    exact v_fail (idx := 304) (C := RX5) (y := yX5_fail) hC hE ⟨tt_at 911 (by decide +kernel) rfl, tt_at 914 (by decide +kernel) rfl, tiX7_fail, tt_at 988 (by decide +kernel) rfl, tiX5_fail, tnX5_fail, tcX5_fail, ⟨_, _, _, tcX7_fail⟩, tmX7_fail⟩ hO rfl (c_X5_fail l (ga G o)) (by decide) (by decide +kernel) (fun _ => toss_n hC1 hr h) (fun E hE1 => by cases hE1)
  by_cases hk : (o - 41) % 8 = 4
  · rw [hk] at hO
    have ht : tk ((o - 41) % 8) = 3 := by rw [hk]; rfl
    rw [if_neg (by rw [ht]; decide), if_pos ht] at h
    exact v_fail (idx := 304) (C := RX6) (y := yX6_fail) hC hE ⟨tt_at 911 (by decide +kernel) rfl, tt_at 914 (by decide +kernel) rfl, tiX7_fail, tt_at 991 (by decide +kernel) rfl, tiX6_fail, tnX6_fail, tcX6_fail, ⟨_, _, _, tcX7_fail⟩, tmX7_fail⟩ hO rfl (c_X6_fail l hlt (ga G o)) (by decide) (by decide +kernel) (fun hE1 => by cases hE1) (fun E hE1 H locs la q ce hR hS hl hce hcv hcl => by cases hE1; exact toss_3 hC1 hE hr htab ho h hR hS hl hce hcv hcl)
  by_cases hk : (o - 41) % 8 = 5
  · rw [hk] at hO
    have ht : tk ((o - 41) % 8) = 1 := by rw [hk]; rfl
    rw [if_neg (by rw [ht]; decide), if_neg (by rw [ht]; decide), if_neg (by rw [ht]; decide)] at h
    exact v_fail (idx := 304) (C := RX2) (y := yX7_fail) hC hE ⟨tt_at 911 (by decide +kernel) rfl, tt_at 914 (by decide +kernel) rfl, tiX7_fail, tt_at 987 (by decide +kernel) rfl, tiX7_fail, tnX7_fail, tcX7_fail, ⟨_, _, _, tcX7_fail⟩, tmX7_fail⟩ hO rfl (c_X7_fail l hlt (ga G o)) (by decide) (by decide +kernel) (fun hE1 => by cases hE1) (fun E hE1 H locs la q ce hR hS hl hce hcv hcl => by cases hE1; exact toss_1 hC1 hE hr htab ho h hR hS hl hce hcv hcl)
  by_cases hk : (o - 41) % 8 = 6
  · rw [hk] at hO
    have ht : tk ((o - 41) % 8) = 1 := by rw [hk]; rfl
    rw [if_neg (by rw [ht]; decide), if_neg (by rw [ht]; decide), if_neg (by rw [ht]; decide)] at h
    exact v_fail (idx := 304) (C := RX9) (y := yX7_fail) hC hE ⟨tt_at 911 (by decide +kernel) rfl, tt_at 914 (by decide +kernel) rfl, tiX7_fail, tt_at 1010 (by decide +kernel) rfl, tiX7_fail, tnX7_fail, tcX7_fail, ⟨_, _, _, tcX7_fail⟩, tmX7_fail⟩ hO rfl (c_X7_fail l hlt (ga G o)) (by decide) (by decide +kernel) (fun hE1 => by cases hE1) (fun E hE1 H locs la q ce hR hS hl hce hcv hcl => by cases hE1; exact toss_1 hC1 hE hr htab ho h hR hS hl hce hcv hcl)
  have hk : (o - 41) % 8 = 7 := by omega
  rw [hk] at hO
  have ht : tk ((o - 41) % 8) = 0 := by rw [hk]; rfl
  rw [if_pos ht] at h
  exact v_fail (idx := 304) (C := RX10) (y := yX5_fail) hC hE ⟨tt_at 911 (by decide +kernel) rfl, tt_at 914 (by decide +kernel) rfl, tiX7_fail, tt_at 1011 (by decide +kernel) rfl, tiX5_fail, tnX5_fail, tcX5_fail, ⟨_, _, _, tcX7_fail⟩, tmX7_fail⟩ hO rfl (c_X5_fail l (ga G o)) (by decide) (by decide +kernel) (fun _ => toss_n hC1 hr h) (fun E hE1 => by cases hE1)
end TOSS
def p_X11_toss (x1 : Int32) (σ : Mem) : Option (Int32 × Mem) := (bnd (p_X11_refusal x1 (1 : Int32) σ) fun v1 s2 => (if v1 = 0 then (if x1 < 0 ∨ 8 ≤ (x1).toNatClampNeg then none else (lt (s2 (6 + (x1).toNatClampNeg) 3) fun v5 => (if v5 = 0 then some ((-15 : Int32), s2) else (if x1 < 0 ∨ 8 ≤ (x1).toNatClampNeg then none else (lt (s2 (6 + (x1).toNatClampNeg) 2) fun v7 => (if v7 < 0 ∨ 8 ≤ (v7).toNatClampNeg then none else p_toss_T (33 + 8 * 1 + (v7).toNatClampNeg) v5 s2)))))) else some (v1, s2)))
set_option maxHeartbeats 4000000 in
set_option maxRecDepth 100000 in
theorem c_X11_toss {G : Gl} {l : Launch} (hlt : l.stackTraces = false) {x1 : Int32} {σ : Mem} {res : Int32 × Mem} (h : p_X11_toss x1 σ = some res) : vx_Met l yX11_toss (.codeWith yX11_toss cX11_toss 6 (some .int) [(49, 54, 57, 307), (49, 54, 70, 281), (49, 54, 77, 274)] :: TT) (rmU 7 1 6) (PreE G σ [.ref (ga G 0), .int x1]) (fun _ st oc t => oc = .returned (some (.int res.1)) ∧ Rep G res.2 t.heap ∧ va_F (gA G) st t) (fun _ _ _ => False) 1 6 (gA G) := by
  refine vx_ofWH (cc := cX11_toss) (maxL := 6) (ret := (some .int)) (hh := [(49, 54, 57, 307), (49, 54, 70, 281), (49, 54, 77, 274)]) (by decide +kernel) rfl ?_
  intro p e s m args below meth c s₁ B hml hv
  obtain ⟨rfl, hO, hR, hA, hE⟩ := hv
  have hts0 := atoms_spec B.pre
  have hts : ∀ w ∈ TT, w.before ([.ref (ga G 0), .int x1] : List Value).toArray s = true := fun w hw => hts0 w (List.mem_cons_of_mem _ hw)
  have hC : Ok G 7 6 (p, l, e, s, m, ([.ref (ga G 0), .int x1] : List Value).toArray, below, meth, c, some (rmU 7 1 6, 0, 0, vx_MQ below (fun _ st oc t => oc = .returned (some (.int res.1)) ∧ Rep G res.2 t.heap ∧ va_F (gA G) st t) (fun _ _ _ => False) ([.ref (ga G 0), .int x1] : List Value).toArray s 1 6 (gA G))) cX11_toss RX11 (some .float) := ⟨B.exec, B.bytes, hml, findClass_of_methodNamed B.named, hts, hO, B.notSynchronized, hA, Or.inr rfl, Nat.le_refl _, Nat.le_refl _, Nat.zero_le _, Nat.zero_le _⟩
  have hll := lv_entry ([.ref (ga G 0), .int x1]) (n := 6) (Nat.le_of_ble_eq_true rfl)
  rw [lg_entry_eq]
  have htab : c.exceptionTable.toList = tableOf [(49, 54, 57, 307), (49, 54, 70, 281), (49, 54, 77, 274)] := vx_table (x := yX11_toss) B (hts0 _ List.mem_cons_self)
  suffices hV : V G 7 6 (p, l, e, s, m, ([.ref (ga G 0), .int x1] : List Value).toArray, below, meth, c, some (rmU 7 1 6, 0, 0, vx_MQ below (fun _ st oc t => oc = .returned (some (.int res.1)) ∧ Rep G res.2 t.heap ∧ va_F (gA G) st t) (fun _ _ _ => False) ([.ref (ga G 0), .int x1] : List Value).toArray s 1 6 (gA G))) (none, σ) σ [(0, .ref (ga G 0)), (1, .int x1)] [] 0 from hV s.heap [] _ hR va_S.rf hll
  unfold p_X11_toss at h
  refine v_blk hC (is := [(.aload_n 0, 0), (.iload_n 1, 0), (.iconst 1, (1 : Int32))]) (pc' := 3) (ls' := [(0, .ref (ga G 0)), (1, .int x1)]) (st' := [.int (1 : Int32), .int x1, .ref (ga G 0)]) (by decide +kernel) rfl ?_
  obtain ⟨v1, s2, e3, h⟩ := bndI h
  refine v_cV (idx := 36) hC ⟨tt_at 293 (by decide +kernel) rfl, tiX11_refusal, tvX11_refusal, tnX11_refusal, tcX11_refusal, tmX11_refusal⟩ isO_X11 rfl (c_X11_refusal e3) (by decide) (by decide) (by decide +kernel) (rest := []) rfl rfl (Nat.le_of_ble_eq_true rfl) rfl ?_
  refine v_blk hC (is := [(.istore_n 2, 0), (.iload_n 2, 0)]) (pc' := 8) (ls' := [(2, .int v1), (0, .ref (ga G 0)), (1, .int x1)]) (st' := [.int v1]) (by decide +kernel) rfl ?_
  refine v_if_eq hC (off := 5) (tgt := 13) (by decide +kernel) (by decide) h (fun hq h => ?_) (fun hq h => ?_)
  · refine v_blk hC (is := [(.aload_n 0, 0)]) (pc' := 14) (ls' := [(2, .int v1), (0, .ref (ga G 0)), (1, .int x1)]) (st' := [.ref (ga G 0)]) (by decide +kernel) rfl ?_
    refine gX11_4 hC lfX11_31 (by decide +kernel) ?_
    refine v_blk hC (is := [(.iload_n 1, 0)]) (pc' := 18) (ls' := [(2, .int v1), (0, .ref (ga G 0)), (1, .int x1)]) (st' := [.int x1, .ref (ga G 5)]) (by decide +kernel) rfl ?_
    refine v_aald hC (t0 := 2) (by decide) enr_shelves rfl (by decide +kernel) h (fun hi4 h => ?_)
    refine gX8_3 hC (shelf_at hi4) lfX11_110 (by decide +kernel) h (fun v5 h => ?_)
    refine v_blk hC (is := [(.istore_n 3, 0), (.iload_n 3, 0)]) (pc' := 24) (ls' := [(3, .int v5), (2, .int v1), (0, .ref (ga G 0)), (1, .int x1)]) (st' := [.int v5]) (by decide +kernel) rfl ?_
    refine v_if_ne hC (off := 6) (tgt := 30) (by decide +kernel) (by decide) h (fun hq h => ?_) (fun hq h => ?_)
    · refine v_blk hC (is := [(.aload_n 0, 0)]) (pc' := 31) (ls' := [(3, .int v5), (2, .int v1), (0, .ref (ga G 0)), (1, .int x1)]) (st' := [.ref (ga G 0)]) (by decide +kernel) rfl ?_
      refine gX11_0 hC lfX11_10 (by decide +kernel) ?_
      refine gX3_0 hC cape1 lfX11_297 (by decide +kernel) ?_
      refine v_blk hC (is := [(.aload_n 0, 0)]) (pc' := 38) (ls' := [(3, .int v5), (2, .int v1), (0, .ref (ga G 0)), (1, .int x1)]) (st' := [.ref (ga G 0), .ref (ga G (21 + 1))]) (by decide +kernel) rfl ?_
      refine gX11_4 hC lfX11_31 (by decide +kernel) ?_
      refine v_blk hC (is := [(.iload_n 1, 0)]) (pc' := 42) (ls' := [(3, .int v5), (2, .int v1), (0, .ref (ga G 0)), (1, .int x1)]) (st' := [.int x1, .ref (ga G 5), .ref (ga G (21 + 1))]) (by decide +kernel) rfl ?_
      refine v_aald hC (t0 := 2) (by decide) enr_shelves rfl (by decide +kernel) h (fun hi6 h => ?_)
      refine gX8_2 hC (shelf_at hi6) lfX11_108 (by decide +kernel) h (fun v7 h => ?_)
      refine v_aald hC (t0 := 1) (kinds_lt cape1) (enr_kinds cape1) rfl (by decide +kernel) h (fun hi8 h => ?_)
      refine v_blk hC (is := [(.astore 4, 0), (.aload 4, 0)]) (pc' := 51) (ls' := [(4, .ref (ga G (33 + 8 * 1 + (v7).toNatClampNeg))), (3, .int v5), (2, .int v1), (0, .ref (ga G 0)), (1, .int x1)]) (st' := [.ref (ga G (33 + 8 * 1 + (v7).toNatClampNeg))]) (by decide +kernel) rfl ?_
      exact v_sub [0, 1] (ls' := [(4, .ref (ga G (33 + 8 * 1 + (v7).toNatClampNeg))), (3, .int v5)]) rfl (v_toss hC hlt hE B.returns htab (sailor_at cape1 hi8) (by decide) h)
    · refine v_blk hC (is := [(.bipush (-15), (-15 : Int32))]) (pc' := 29) (ls' := [(3, .int v5), (2, .int v1), (0, .ref (ga G 0)), (1, .int x1)]) (st' := [.int (-15 : Int32)]) (by decide +kernel) rfl ?_
      (cases h; exact v_iretE hC B.returns (by decide) (by decide) (fun t h1 h2 => ⟨rfl, h1, h2⟩) (by decide +kernel))
  · refine v_blk hC (is := [(.iload_n 2, 0)]) (pc' := 12) (ls' := [(2, .int v1), (0, .ref (ga G 0)), (1, .int x1)]) (st' := [.int v1]) (by decide +kernel) rfl ?_
    (cases h; exact v_iretE hC B.returns (by decide) (by decide) (fun t h1 h2 => ⟨rfl, h1, h2⟩) (by decide +kernel))
