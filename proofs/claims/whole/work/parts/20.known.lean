/-! the law's start: what is known there -/
theorem k_int {args : Array Value} {s : State} {ty : FieldType} (hp : ∀ C, ty ≠ .object C) (h : (Cond.arrayClass ty).before args s = true) : ∃ cA, ArrOfT s cA ty ∧ va_RA s cA ty := by
  obtain ⟨cA, kA, comp, h1, h2, h3⟩ := Cond.arrayClass_spec h
  refine ⟨cA, fun n z => ⟨fun k h => (by cases h), kA, h2, comp, h3⟩, ?_⟩
  cases ty with
  | object C => exact absurd rfl (hp C)
  | _ => exact h1
theorem k_obj {args : Array Value} {s : State} {C : String} (h : (Cond.arrayOver (.object C)).before args s = true) : ∃ cA, ArrOfT s cA (.object C) ∧ va_RA s cA (.object C) := by
  obtain ⟨comp, cA, kA, h1, -, h2, h3, h4⟩ := Cond.arrayOver_spec h
  exact ⟨cA, fun n z => ⟨fun k h => (by cases h), kA, h2, comp, h3⟩, kA, comp, h2, h3, h1, h4⟩
theorem k_all {args : Array Value} {s : State} (hts : ∀ w ∈ lw_tbl, w.before args s = true) : ∃ (D : va_G) (y0 y1 y2 ly : ClassId), va_K D vwCl [(y0, .int), (y1, .object "NoManMaySail$Sailor"), (y2, .object "NoManMaySail$Shelf"), (ly, .long)] s := by
  obtain ⟨c0, i0, k0⟩ := u_known (ws := lw_tbl) (C := RX0) (T := TX0) (N := 0) (n := 0) hts (fun w hw => tt_in w (inTX0 w hw)) (hts _ (List.mem_of_getElem? (i := 113) (by decide +kernel)))
  obtain ⟨c1, i1, k1⟩ := u_known (ws := lw_tbl) (C := RX1) (T := TX1) (N := 0) (n := 0) hts (fun w hw => tt_in w (inTX1 w hw)) (hts _ (List.mem_of_getElem? (i := 120) (by decide +kernel)))
  obtain ⟨c2, i2, k2⟩ := u_known (ws := lw_tbl) (C := RX2) (T := TX2) (N := 0) (n := 0) hts (fun w hw => tt_in w (inTX2 w hw)) (hts _ (List.mem_of_getElem? (i := 141) (by decide +kernel)))
  obtain ⟨c3, i3, k3⟩ := u_known (ws := lw_tbl) (C := RX3) (T := TX3) (N := 10) (n := 10) hts (fun w hw => tt_in w (inTX3 w hw)) (hts _ (List.mem_of_getElem? (i := 99) (by decide +kernel)))
  obtain ⟨c4, i4, k4⟩ := u_known (ws := lw_tbl) (C := RX4) (T := TX4) (N := 9) (n := 9) hts (fun w hw => tt_in w (inTX4 w hw)) (hts _ (List.mem_of_getElem? (i := 205) (by decide +kernel)))
  obtain ⟨c5, i5, k5⟩ := u_known (ws := lw_tbl) (C := RX5) (T := TX5) (N := 0) (n := 0) hts (fun w hw => tt_in w (inTX5 w hw)) (hts _ (List.mem_of_getElem? (i := 127) (by decide +kernel)))
  obtain ⟨c6, i6, k6⟩ := u_known (ws := lw_tbl) (C := RX6) (T := TX6) (N := 0) (n := 0) hts (fun w hw => tt_in w (inTX6 w hw)) (hts _ (List.mem_of_getElem? (i := 134) (by decide +kernel)))
  obtain ⟨c7, i7, k7⟩ := u_known (ws := lw_tbl) (C := RX7) (T := TX7) (N := 0) (n := 0) hts (fun w hw => tt_in w (inTX7 w hw)) (hts _ (List.mem_of_getElem? (i := 106) (by decide +kernel)))
  obtain ⟨c8, i8, k8⟩ := u_known (ws := lw_tbl) (C := RX8) (T := TX8) (N := 6) (n := 6) hts (fun w hw => tt_in w (inTX8 w hw)) (hts _ (List.mem_of_getElem? (i := 241) (by decide +kernel)))
  obtain ⟨c9, i9, k9⟩ := u_known (ws := lw_tbl) (C := RX9) (T := TX9) (N := 0) (n := 0) hts (fun w hw => tt_in w (inTX9 w hw)) (hts _ (List.mem_of_getElem? (i := 148) (by decide +kernel)))
  obtain ⟨c10, i10, k10⟩ := u_known (ws := lw_tbl) (C := RX10) (T := TX10) (N := 0) (n := 0) hts (fun w hw => tt_in w (inTX10 w hw)) (hts _ (List.mem_of_getElem? (i := 155) (by decide +kernel)))
  obtain ⟨c11, i11, k11⟩ := u_known (ws := lw_tbl) (C := RX11) (T := TX11) (N := 6) (n := 6) hts (fun w hw => tt_in w (inTX11 w hw)) (hts _ (List.mem_of_getElem? (i := 91) (by decide +kernel)))
  obtain ⟨c12, i12, k12⟩ := u_known (ws := lw_tbl) (C := RX12) (T := TX12) (N := 19) (n := 19) hts (fun w hw => tt_in w (inTX12 w hw)) (hts _ (List.mem_of_getElem? (i := 1044) (by decide +kernel)))
  obtain ⟨y0, a0, b0⟩ := k_int (ty := .int) (fun C h => by cases h) (hts _ (List.mem_of_getElem? (i := 203) (by decide +kernel)))
  obtain ⟨y1, a1, b1⟩ := k_obj (hts _ ao_S)
  obtain ⟨y2, a2, b2⟩ := k_obj (hts _ ao_H)
  obtain ⟨ly, a3, b3⟩ := k_int (ty := .long) (fun C h => by cases h) (hts _ (List.mem_of_getElem? (i := 1487) (by decide +kernel)))
  refine ⟨(fun n => [c0, c1, c2, c3, c4, c5, c6, c7, c8, c9, c10, c11, c12].getD n c0, fun n => [i0, i1, i2, i3, i4, i5, i6, i7, i8, i9, i10, i11, i12].getD n i0), y0, y1, y2, ly, fun c q hq => ?_, fun k q hq => ?_⟩
  · match c, hq with
    | 0, hq => cases hq; exact k0
    | 1, hq => cases hq; exact k1
    | 2, hq => cases hq; exact k2
    | 3, hq => cases hq; exact k3
    | 4, hq => cases hq; exact k4
    | 5, hq => cases hq; exact k5
    | 6, hq => cases hq; exact k6
    | 7, hq => cases hq; exact k7
    | 8, hq => cases hq; exact k8
    | 9, hq => cases hq; exact k9
    | 10, hq => cases hq; exact k10
    | 11, hq => cases hq; exact k11
    | 12, hq => cases hq; exact k12
    | n + 13, hq => cases hq
  · match k, hq with
    | 0, hq => cases hq; exact ⟨a0, b0⟩
    | 1, hq => cases hq; exact ⟨a1, b1⟩
    | 2, hq => cases hq; exact ⟨a2, b2⟩
    | 3, hq => cases hq; exact ⟨a3, b3⟩
    | n + 4, hq => cases hq
theorem okU_of {args : Array Value} {s : State} {G : Gl} (hts : ∀ w ∈ lw_tbl, w.before args s = true) (h : va_K (gD G) vwCl (wty G) s) : OkU G s := ⟨h, okN_of hts, va_AO.of (hts _ ao_S), va_AO.of (hts _ ao_H), fun C hC => va_Nw.of rfl (hts _ (cl_in C hC))⟩
theorem k_str {args : Array Value} {s : State} {own tx : String} {k : Nat} (h1 : (Cond.stringRef own k tx).before args s = true) (h2 : (Cond.exactly (.string own k) "java/lang/String").before args s = true) : ∃ sa, vk_R own k tx sa s := by
  obtain ⟨a, c, cell, k9, ha, -⟩ := Cond.exactly_spec h2
  exact ⟨a, vk_R.of h1 ha⟩
theorem el_in : ∀ E ∈ EL, Cond.castable E E ∈ lw_tbl := by decide +kernel
theorem sl_in : ∀ q ∈ SL, Cond.stringRef q.1 q.2.1 q.2.2 ∈ lw_tbl := by decide +kernel
theorem dl_in : ∀ x ∈ DL, Cond.declares x ∈ lw_tbl := by decide +kernel
def gvn : List Cond := flatC (Jvm.Cond.and given_1 narrow_1)
theorem sl_gv : ∀ q ∈ SL, Cond.exactly (.string q.1 q.2.1) "java/lang/String" ∈ gvn := by decide +kernel
theorem nl_gv : ∀ q ∈ NL, Cond.not (.castable q.1 q.2) ∈ gvn := by decide +kernel
theorem okE_of {b : Nat} {s : State} {A : Nat → Prop} (hA : ∀ a : Nat, a < s.heap.size → ¬ A a) (hts : ∀ w ∈ lw_tbl, w.before #[Value.ref b] s = true) (hg : (Cond.and given_1 narrow_1).before #[Value.ref b] s = true) : OkE A s := by
  have hs := flat_of_before _ hg
  exact ⟨vx_Zqof (hts _ (List.mem_of_getElem? (i := 945) (by decide +kernel))) (hts _ (List.mem_of_getElem? (i := 84) (by decide +kernel))) (hs _ (by decide +kernel)) hA, vx_Zqof (hts _ (List.mem_of_getElem? (i := 947) (by decide +kernel))) (hts _ (List.mem_of_getElem? (i := 84) (by decide +kernel))) (hs _ (by decide +kernel)) hA, fun E hE => va_Nw.of rfl (hts _ (el_in E hE)), fun q hq => k_str (hts _ (sl_in q hq)) (hs _ (sl_gv q hq)), fun q hq => va_Nc.of (hs _ (nl_gv q hq)), fun x hx => va_Nw.of rfl (hts _ (dl_in x hx))⟩
