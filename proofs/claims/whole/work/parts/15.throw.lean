/-! what throws, and what catches it -/
def EL : List String := ["java/lang/IllegalArgumentException", "java/lang/IllegalStateException", "java/lang/UnsupportedOperationException"]
def SL : List (String × Nat × String) := [("NoManMaySail$Bosun", 22, "a bosun fails"), ("NoManMaySail$Master", 22, "a master fails"), ("NoManMaySail$Sailor", 9, "a sailor fails"), ("NoManMaySail", 276, "no such shelf"), ("NoManMaySail", 283, "no row"), ("NoManMaySail", 286, "no such place")]
def NL : List (String × String) := [("java/lang/IllegalArgumentException", "java/lang/UnsupportedOperationException"), ("java/lang/IllegalStateException", "java/lang/UnsupportedOperationException"), ("java/lang/IllegalArgumentException", "java/lang/IllegalStateException"), ("java/lang/IllegalStateException", "java/lang/IllegalArgumentException")]
def DL : List MethodName := [Bundle.initS "java/lang/RuntimeException", Bundle.initS "java/lang/Exception", Bundle.initS Bundle.tN]
def OkE (A : Nat → Prop) (U : State) : Prop := vx_Zq Bundle.tN "UNASSIGNED_STACK" Bundle.steD A U U.heap ∧ vx_Zq Bundle.tN "SUPPRESSED_SENTINEL" Bundle.listD A U U.heap ∧ (∀ E ∈ EL, va_Nw (.castable E E) U) ∧ (∀ q ∈ SL, ∃ sa, vk_R q.1 q.2.1 q.2.2 sa U) ∧ (∀ q ∈ NL, va_Nc q.1 q.2 U) ∧ ∀ x ∈ DL, va_Nw (.declares x) U
theorem okE_next {A : Nat → Prop} {s U : State} {locs : List Loc} (hW : s.WarmedH U.vm) (hS : va_S A s.heap U.heap locs) (h : OkE A s) : OkE A U :=
  ⟨vx_Zq.moved hW.alike (h.1.kept hS.2.1), vx_Zq.moved hW.alike (h.2.1.kept hS.2.1), fun E hE => va_Nw.warmC hW (h.2.2.1 E hE), fun q hq => by obtain ⟨sa, h1⟩ := h.2.2.2.1 q hq; exact ⟨sa, vk_R.warm hW h1⟩, fun q hq => va_Nc.moved hW.alike (h.2.2.2.2.1 q hq), fun x hx => va_Nw.warmD hW (h.2.2.2.2.2 x hx)⟩
theorem okE_same {A : Nat → Prop} {u U : State} (e : U.vm = u.vm) (eh : U.heap = u.heap) (h : OkE A u) : OkE A U := by
  have ha : u.vm.Alike U.vm := by rw [e]; exact Vm.Alike.refl _
  refine ⟨?_, ?_, fun E hE => va_Nw.same rfl e.symm (h.2.2.1 E hE), fun q hq => by obtain ⟨sa, h1⟩ := h.2.2.2.1 q hq; exact ⟨sa, vk_R.same e h1⟩, fun q hq => va_Nc.moved ha (h.2.2.2.2.1 q hq), fun x hx => va_Nw.same rfl e.symm (h.2.2.2.2.2 x hx)⟩
  · rw [eh]; exact vx_Zq.moved ha h.1
  · rw [eh]; exact vx_Zq.moved ha h.2.1
def ext (s t : State) : Prop := s.heap.size ≤ t.heap.size ∧ ∀ q : Nat, q < s.heap.size → t.heap[q]? = s.heap[q]?
theorem xgX7_11 : ∀ w ∈ (vx_atS RX7 11 "java/lang/IllegalArgumentException" ["java/lang/RuntimeException", "java/lang/Exception"]).filter goodWord, w ∈ TT := fun w hw => List.mem_filter.mpr ⟨(by decide +kernel : ∀ w ∈ (vx_atS RX7 11 "java/lang/IllegalArgumentException" ["java/lang/RuntimeException", "java/lang/Exception"]).filter goodWord, w ∈ lw_tbl) w hw, (List.mem_filter.mp hw).2⟩
theorem xbX7_11 : ∀ w ∈ (vx_atS RX7 11 "java/lang/IllegalArgumentException" ["java/lang/RuntimeException", "java/lang/Exception"]).filter (fun w => !goodWord w), w ∈ Cond.castable "java/lang/IllegalArgumentException" "java/lang/IllegalArgumentException" :: DL.map Cond.declares := by decide +kernel
theorem xoX7_11 : ∀ w ∈ Cond.classLink RX7 7 "java/lang/IllegalArgumentException" :: Cond.initialized "java/lang/IllegalArgumentException" :: vx_atS RX7 11 "java/lang/IllegalArgumentException" ["java/lang/RuntimeException", "java/lang/Exception"], vx_ot w = true := by decide +kernel
theorem xgX0_24 : ∀ w ∈ (vx_atS RX0 24 "java/lang/IllegalStateException" ["java/lang/RuntimeException", "java/lang/Exception"]).filter goodWord, w ∈ TT := fun w hw => List.mem_filter.mpr ⟨(by decide +kernel : ∀ w ∈ (vx_atS RX0 24 "java/lang/IllegalStateException" ["java/lang/RuntimeException", "java/lang/Exception"]).filter goodWord, w ∈ lw_tbl) w hw, (List.mem_filter.mp hw).2⟩
theorem xbX0_24 : ∀ w ∈ (vx_atS RX0 24 "java/lang/IllegalStateException" ["java/lang/RuntimeException", "java/lang/Exception"]).filter (fun w => !goodWord w), w ∈ Cond.castable "java/lang/IllegalStateException" "java/lang/IllegalStateException" :: DL.map Cond.declares := by decide +kernel
theorem xoX0_24 : ∀ w ∈ Cond.classLink RX0 20 "java/lang/IllegalStateException" :: Cond.initialized "java/lang/IllegalStateException" :: vx_atS RX0 24 "java/lang/IllegalStateException" ["java/lang/RuntimeException", "java/lang/Exception"], vx_ot w = true := by decide +kernel
theorem xgX6_24 : ∀ w ∈ (vx_atS RX6 24 "java/lang/UnsupportedOperationException" ["java/lang/RuntimeException", "java/lang/Exception"]).filter goodWord, w ∈ TT := fun w hw => List.mem_filter.mpr ⟨(by decide +kernel : ∀ w ∈ (vx_atS RX6 24 "java/lang/UnsupportedOperationException" ["java/lang/RuntimeException", "java/lang/Exception"]).filter goodWord, w ∈ lw_tbl) w hw, (List.mem_filter.mp hw).2⟩
theorem xbX6_24 : ∀ w ∈ (vx_atS RX6 24 "java/lang/UnsupportedOperationException" ["java/lang/RuntimeException", "java/lang/Exception"]).filter (fun w => !goodWord w), w ∈ Cond.castable "java/lang/UnsupportedOperationException" "java/lang/UnsupportedOperationException" :: DL.map Cond.declares := by decide +kernel
theorem xoX6_24 : ∀ w ∈ Cond.classLink RX6 20 "java/lang/UnsupportedOperationException" :: Cond.initialized "java/lang/UnsupportedOperationException" :: vx_atS RX6 24 "java/lang/UnsupportedOperationException" ["java/lang/RuntimeException", "java/lang/Exception"], vx_ot w = true := by decide +kernel
theorem xgX11_278 : ∀ w ∈ (vx_atS RX11 278 "java/lang/IllegalArgumentException" ["java/lang/RuntimeException", "java/lang/Exception"]).filter goodWord, w ∈ TT := fun w hw => List.mem_filter.mpr ⟨(by decide +kernel : ∀ w ∈ (vx_atS RX11 278 "java/lang/IllegalArgumentException" ["java/lang/RuntimeException", "java/lang/Exception"]).filter goodWord, w ∈ lw_tbl) w hw, (List.mem_filter.mp hw).2⟩
theorem xbX11_278 : ∀ w ∈ (vx_atS RX11 278 "java/lang/IllegalArgumentException" ["java/lang/RuntimeException", "java/lang/Exception"]).filter (fun w => !goodWord w), w ∈ Cond.castable "java/lang/IllegalArgumentException" "java/lang/IllegalArgumentException" :: DL.map Cond.declares := by decide +kernel
theorem xoX11_278 : ∀ w ∈ Cond.classLink RX11 274 "java/lang/IllegalArgumentException" :: Cond.initialized "java/lang/IllegalArgumentException" :: vx_atS RX11 278 "java/lang/IllegalArgumentException" ["java/lang/RuntimeException", "java/lang/Exception"], vx_ot w = true := by decide +kernel
theorem xgX11_285 : ∀ w ∈ (vx_atS RX11 285 "java/lang/IllegalStateException" ["java/lang/RuntimeException", "java/lang/Exception"]).filter goodWord, w ∈ TT := fun w hw => List.mem_filter.mpr ⟨(by decide +kernel : ∀ w ∈ (vx_atS RX11 285 "java/lang/IllegalStateException" ["java/lang/RuntimeException", "java/lang/Exception"]).filter goodWord, w ∈ lw_tbl) w hw, (List.mem_filter.mp hw).2⟩
theorem xbX11_285 : ∀ w ∈ (vx_atS RX11 285 "java/lang/IllegalStateException" ["java/lang/RuntimeException", "java/lang/Exception"]).filter (fun w => !goodWord w), w ∈ Cond.castable "java/lang/IllegalStateException" "java/lang/IllegalStateException" :: DL.map Cond.declares := by decide +kernel
theorem xoX11_285 : ∀ w ∈ Cond.classLink RX11 281 "java/lang/IllegalStateException" :: Cond.initialized "java/lang/IllegalStateException" :: vx_atS RX11 285 "java/lang/IllegalStateException" ["java/lang/RuntimeException", "java/lang/Exception"], vx_ot w = true := by decide +kernel
theorem x_hat {args : Array Value} {s : State} {own E : String} {ic : Nat} {A : Nat → Prop} (hts : ∀ w ∈ TT, w.before args s = true) (hE : OkE A s) (he : E ∈ EL) (h1 : ∀ w ∈ (vx_atS own ic E ["java/lang/RuntimeException", "java/lang/Exception"]).filter goodWord, w ∈ TT) (h2 : ∀ w ∈ (vx_atS own ic E ["java/lang/RuntimeException", "java/lang/Exception"]).filter (fun w => !goodWord w), w ∈ Cond.castable E E :: DL.map Cond.declares) : ∀ w ∈ vx_atS own ic E ["java/lang/RuntimeException", "java/lang/Exception"], w.before args s = true :=
  vx_hat (fun w hw => hts _ (h1 w hw)) h2 (fun w hw => by
    rcases List.mem_cons.mp hw with rfl | hw
    · exact va_Nw.use rfl (hE.2.2.1 E he)
    · obtain ⟨x, hx, rfl⟩ := List.mem_map.mp hw
      exact va_Nw.use rfl (hE.2.2.2.2.2 x hx))
def MetF (A : Nat → Prop) (l : Launch) (y : MethodName) (yc : ByteArray) (lv o : Nat) (E0 : Option String) : Prop := vx_Met l y (.code y yc 1 none :: TT) (rmU lv 1 6) (va_Pc [.ref o] (OkE A)) (fun _ st oc t => oc = .returned none ∧ E0 = none ∧ ext st t) (fun E st t => E0 = some E ∧ ext st t) 1 6 (fun _ => False)
theorem okE_blind {A : Nat → Prop} {As : List Value} : FrameBlind (va_Pc As (OkE A)) := fun a U g mk q => ⟨q.1, okE_same (u := U) rfl rfl q.2⟩
set_option maxRecDepth 100000 in
theorem c_X7_fail {A : Nat → Prop} (l : Launch) (hl : l.stackTraces = false) (o : Nat) : MetF A l yX7_fail cX7_fail 6 o (some "java/lang/IllegalArgumentException") := by
  refine vx_ofW (cc := cX7_fail) (maxL := 1) (ret := none) (by decide +kernel) rfl ?_
  intro p e s m args below meth c s₁ B hml ht hv
  obtain ⟨rfl, hE⟩ := hv
  have hts0 := atoms_spec (ws := .code yX7_fail cX7_fail 1 none :: TT) B.pre
  have hts : ∀ w ∈ TT, w.before [Value.ref o].toArray s = true := fun w hw => hts0 w (List.mem_cons_of_mem _ hw)
  have hown : s.vm.findClass RX7 = some m.cls := findClass_of_methodNamed B.named
  have hll := lv_entry ([.ref o]) (n := 1) (Nat.le_of_ble_eq_true rfl)
  rw [lg_entry_eq]
  obtain ⟨sa, hstr⟩ := hE.2.2.2.1 ("NoManMaySail$Sailor", 9, "a sailor fails") (by decide +kernel)
  exact vx_throwS (own := RX7) (ik := 7) (ic := 11) (cls := "java/lang/IllegalArgumentException") (text := "a sailor fails") (names := ["java/lang/RuntimeException", "java/lang/Exception"]) (sa := sa) (rest := []) B.exec B.bytes hl hown (by decide +kernel) (by decide +kernel) (hts _ (tt_at 1013 (by decide +kernel) rfl)) (hts _ (tt_at 87 (by decide +kernel) rfl)) hstr (x_hat hts hE (by decide +kernel) xgX7_11 xbX7_11) xoX7_11 hE.1 hE.2.1 va_S.rf (hll.1.trans hml.symm) (by decide +kernel) (by decide +kernel) (by decide +kernel) (by decide +kernel) (by decide +kernel) (fun x hx => (ht x hx).elim) (by decide) (by decide) (by decide) (by decide) B.notSynchronized (fun t _ h1 h2 => ⟨rfl, h1, h2⟩) (fun z h => by cases h) (by decide) (by decide)
set_option maxRecDepth 100000 in
theorem c_X0_fail {A : Nat → Prop} (l : Launch) (hl : l.stackTraces = false) (o : Nat) : MetF A l yX0_fail cX0_fail 6 o (some "java/lang/IllegalStateException") := by
  refine vx_ofW (cc := cX0_fail) (maxL := 1) (ret := none) (by decide +kernel) rfl ?_
  intro p e s m args below meth c s₁ B hml ht hv
  obtain ⟨rfl, hE⟩ := hv
  have hts0 := atoms_spec (ws := .code yX0_fail cX0_fail 1 none :: TT) B.pre
  have hts : ∀ w ∈ TT, w.before [Value.ref o].toArray s = true := fun w hw => hts0 w (List.mem_cons_of_mem _ hw)
  have hown : s.vm.findClass RX0 = some m.cls := findClass_of_methodNamed B.named
  have hll := lv_entry ([.ref o]) (n := 1) (Nat.le_of_ble_eq_true rfl)
  rw [lg_entry_eq]
  obtain ⟨sa, hstr⟩ := hE.2.2.2.1 ("NoManMaySail$Bosun", 22, "a bosun fails") (by decide +kernel)
  exact vx_throwS (own := RX0) (ik := 20) (ic := 24) (cls := "java/lang/IllegalStateException") (text := "a bosun fails") (names := ["java/lang/RuntimeException", "java/lang/Exception"]) (sa := sa) (rest := []) B.exec B.bytes hl hown (by decide +kernel) (by decide +kernel) (hts _ (tt_at 918 (by decide +kernel) rfl)) (hts _ (tt_at 88 (by decide +kernel) rfl)) hstr (x_hat hts hE (by decide +kernel) xgX0_24 xbX0_24) xoX0_24 hE.1 hE.2.1 va_S.rf (hll.1.trans hml.symm) (by decide +kernel) (by decide +kernel) (by decide +kernel) (by decide +kernel) (by decide +kernel) (fun x hx => (ht x hx).elim) (by decide) (by decide) (by decide) (by decide) B.notSynchronized (fun t _ h1 h2 => ⟨rfl, h1, h2⟩) (fun z h => by cases h) (by decide) (by decide)
set_option maxRecDepth 100000 in
theorem c_X6_fail {A : Nat → Prop} (l : Launch) (hl : l.stackTraces = false) (o : Nat) : MetF A l yX6_fail cX6_fail 6 o (some "java/lang/UnsupportedOperationException") := by
  refine vx_ofW (cc := cX6_fail) (maxL := 1) (ret := none) (by decide +kernel) rfl ?_
  intro p e s m args below meth c s₁ B hml ht hv
  obtain ⟨rfl, hE⟩ := hv
  have hts0 := atoms_spec (ws := .code yX6_fail cX6_fail 1 none :: TT) B.pre
  have hts : ∀ w ∈ TT, w.before [Value.ref o].toArray s = true := fun w hw => hts0 w (List.mem_cons_of_mem _ hw)
  have hown : s.vm.findClass RX6 = some m.cls := findClass_of_methodNamed B.named
  have hll := lv_entry ([.ref o]) (n := 1) (Nat.le_of_ble_eq_true rfl)
  rw [lg_entry_eq]
  obtain ⟨sa, hstr⟩ := hE.2.2.2.1 ("NoManMaySail$Master", 22, "a master fails") (by decide +kernel)
  exact vx_throwS (own := RX6) (ik := 20) (ic := 24) (cls := "java/lang/UnsupportedOperationException") (text := "a master fails") (names := ["java/lang/RuntimeException", "java/lang/Exception"]) (sa := sa) (rest := []) B.exec B.bytes hl hown (by decide +kernel) (by decide +kernel) (hts _ (tt_at 994 (by decide +kernel) rfl)) (hts _ (tt_at 89 (by decide +kernel) rfl)) hstr (x_hat hts hE (by decide +kernel) xgX6_24 xbX6_24) xoX6_24 hE.1 hE.2.1 va_S.rf (hll.1.trans hml.symm) (by decide +kernel) (by decide +kernel) (by decide +kernel) (by decide +kernel) (by decide +kernel) (fun x hx => (ht x hx).elim) (by decide) (by decide) (by decide) (by decide) B.notSynchronized (fun t _ h1 h2 => ⟨rfl, h1, h2⟩) (fun z h => by cases h) (by decide) (by decide)
set_option maxRecDepth 100000 in
theorem c_X5_fail {A : Nat → Prop} (l : Launch) (o : Nat) : MetF A l yX5_fail cX5_fail 6 o none := by
  refine vx_ofW (cc := cX5_fail) (maxL := 1) (ret := none) (by decide +kernel) rfl ?_
  intro p e s m args below meth c s₁ B hml ht hv
  obtain ⟨rfl, hE⟩ := hv
  have hll := lv_entry ([.ref o]) (n := 1) (Nat.le_of_ble_eq_true rfl)
  rw [lg_entry_eq]
  refine vx_ret (W.widen (k := 1) (n := 6) (by decide) (by decide) ?_)
  exact W.vret B.exec B.bytes B.returns (fun t h1 _ => ⟨rfl, rfl, by rw [h1]; exact Nat.le_refl _, fun q _ => by rw [h1]⟩) (fun z h => by cases h) (by decide +kernel) B.notSynchronized
def failE (k : Nat) : Option String := if k = 1 then some "java/lang/IllegalStateException" else if k = 3 then none else if k = 4 then some "java/lang/UnsupportedOperationException" else if k = 7 then none else some "java/lang/IllegalArgumentException"
def ecode (E : Option String) : Int32 := if E = none then 0 else if E = some "java/lang/IllegalArgumentException" then 1 else if E = some "java/lang/IllegalStateException" then 2 else 3
