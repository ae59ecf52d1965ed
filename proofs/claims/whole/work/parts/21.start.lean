/-! the world that the law makes -/
def s0 : Mem := fun o => if o = 66 then (upd (upd (fun _ => 0) 1 2) 2 5) else if o = 1 ∨ o = 2 ∨ o = 3 then (fun k => if k = 7 then 2 else if k = 8 then 5 else 0) else fun _ => 0
def adr (h0 : Nat) (f1 f2 f3 f4 : Nat → Nat) (qa : Nat) (g : Nat → Nat → Nat) (f5 : Nat → Nat) : Nat → Nat := fun o => [h0, f1 0, f2 0, f3 0, f4 0, qa, g 0 0, g 1 0, g 2 0, g 3 0, g 4 0, g 5 0, g 6 0, g 7 0, g 0 1, g 1 1, g 2 1, g 3 1, g 4 1, g 5 1, g 6 1, g 7 1, f1 1, f2 1, f3 1, f1 10, f2 10, f3 10, f1 11, f2 11, f3 11, f1 12, f2 12, f3 12, f1 13, f2 13, f3 13, f4 1, f4 2, f4 3, f4 4, f1 2, f1 3, f1 4, f1 5, f1 6, f1 7, f1 8, f1 9, f2 2, f2 3, f2 4, f2 5, f2 6, f2 7, f2 8, f2 9, f3 2, f3 3, f3 4, f3 5, f3 6, f3 7, f3 8, f3 9, f5 0, f5 1, f5 2, f5 3, f5 4, f5 5, f5 6, f5 7, f5 8, f5 9, f5 10, f5 11, f5 12, f5 13].getD o 0
def pmt : List Nat := [0, 1, 15, 29, 43, 48, 49, 51, 53, 55, 57, 59, 61, 63, 50, 52, 54, 56, 58, 60, 62, 64, 2, 16, 30, 11, 25, 39, 12, 26, 40, 13, 27, 41, 14, 28, 42, 44, 45, 46, 47, 3, 4, 5, 6, 7, 8, 9, 10, 17, 18, 19, 20, 21, 22, 23, 24, 31, 32, 33, 34, 35, 36, 37, 38, 65, 66, 67, 68, 69, 70, 71, 72, 73, 74, 75, 76, 77, 78]
theorem pmt_inj : ∀ i < 79, ∀ j < 79, pmt.getD i 0 = pmt.getD j 0 → i = j := by decide +kernel
theorem pmt_lt : ∀ i < 79, pmt.getD i 0 < 79 := by decide +kernel
theorem at_refs {D : va_G} {cl : List vw_C} {a n : Nat} {cy : ClassId} {f f' : Nat → Option Nat} {H : Heap} (h : va_at D cl (a, .inl (cy, n, .inr (.inr (.inr (.inr f))))) H) (e : ∀ j, j < n → f j = f' j) : va_at D cl (a, .inl (cy, n, .inr (.inr (.inr (.inr f'))))) H := by
  have e2 : vp_cell cy (n, .inr (.inr (.inr (.inr f)))) = vp_cell cy (n, .inr (.inr (.inr (.inr f')))) := by
    rw [vp_cell_q, vp_cell_q]
    unfold arrV
    congr 2
    funext j
    show va_rf (f j.val) = va_rf (f' j.val)
    rw [e j.val j.isLt]
  show H[a]? = some (vp_cell cy (n, .inr (.inr (.inr (.inr f')))))
  rw [← e2]
  exact h
section WORLD
variable {D : va_G} {gy1 : Nat → ClassId} {A : Nat → Prop} {H : Heap} {h0 : Nat} {f1 f2 f3 f4 : Nat → Nat} {qa : Nat} {g : Nat → Nat → Nat} {f5 : Nat → Nat} {oa : Nat} {e : va_E} {G0 : Gl}
def gl (G0 : Gl) (h0 : Nat) (f1 f2 f3 f4 : Nat → Nat) (qa : Nat) (g : Nat → Nat → Nat) (f5 : Nat → Nat) (A : Nat → Prop) : Gl := (G0.1, G0.2.1, G0.2.2.1, adr h0 f1 f2 f3 f4 qa g f5, A)
def adl (h0 : Nat) (f1 f2 f3 f4 : Nat → Nat) (qa : Nat) (g : Nat → Nat → Nat) (f5 : Nat → Nat) (oa : Nat) : List Nat := [h0, f1 0, f1 1, f1 2, f1 3, f1 4, f1 5, f1 6, f1 7, f1 8, f1 9, f1 10, f1 11, f1 12, f1 13, f2 0, f2 1, f2 2, f2 3, f2 4, f2 5, f2 6, f2 7, f2 8, f2 9, f2 10, f2 11, f2 12, f2 13, f3 0, f3 1, f3 2, f3 3, f3 4, f3 5, f3 6, f3 7, f3 8, f3 9, f3 10, f3 11, f3 12, f3 13, f4 0, f4 1, f4 2, f4 3, f4 4, qa, g 0 0, g 0 1, g 1 0, g 1 1, g 2 0, g 2 1, g 3 0, g 3 1, g 4 0, g 4 1, g 5 0, g 5 1, g 6 0, g 6 1, g 7 0, g 7 1, f5 0, f5 1, f5 2, f5 3, f5 4, f5 5, f5 6, f5 7, f5 8, f5 9, f5 10, f5 11, f5 12, f5 13, oa]
theorem w_adl : (shipW G0 h0 f1 f2 f3 f4 qa g ++ modelW G0 f5 ++ [(oa, e)]).map (fun q => q.1) = adl h0 f1 f2 f3 f4 qa g f5 oa := by
  simp only [shipW, modelW, capeW, crewsW, shelfW, adl, List.cons_append, List.append_assoc, List.nil_append, List.map_cons, List.map_nil]
set_option maxHeartbeats 8000000 in
theorem w_key : ∀ i, i < 79 → (adl h0 f1 f2 f3 f4 qa g f5 oa)[pmt.getD i 0]? = some (ga (gl G0 h0 f1 f2 f3 f4 qa g f5 A) i)
  | 0, _ => rfl
  | 1, _ => rfl
  | 2, _ => rfl
  | 3, _ => rfl
  | 4, _ => rfl
  | 5, _ => rfl
  | 6, _ => rfl
  | 7, _ => rfl
  | 8, _ => rfl
  | 9, _ => rfl
  | 10, _ => rfl
  | 11, _ => rfl
  | 12, _ => rfl
  | 13, _ => rfl
  | 14, _ => rfl
  | 15, _ => rfl
  | 16, _ => rfl
  | 17, _ => rfl
  | 18, _ => rfl
  | 19, _ => rfl
  | 20, _ => rfl
  | 21, _ => rfl
  | 22, _ => rfl
  | 23, _ => rfl
  | 24, _ => rfl
  | 25, _ => rfl
  | 26, _ => rfl
  | 27, _ => rfl
  | 28, _ => rfl
  | 29, _ => rfl
  | 30, _ => rfl
  | 31, _ => rfl
  | 32, _ => rfl
  | 33, _ => rfl
  | 34, _ => rfl
  | 35, _ => rfl
  | 36, _ => rfl
  | 37, _ => rfl
  | 38, _ => rfl
  | 39, _ => rfl
  | 40, _ => rfl
  | 41, _ => rfl
  | 42, _ => rfl
  | 43, _ => rfl
  | 44, _ => rfl
  | 45, _ => rfl
  | 46, _ => rfl
  | 47, _ => rfl
  | 48, _ => rfl
  | 49, _ => rfl
  | 50, _ => rfl
  | 51, _ => rfl
  | 52, _ => rfl
  | 53, _ => rfl
  | 54, _ => rfl
  | 55, _ => rfl
  | 56, _ => rfl
  | 57, _ => rfl
  | 58, _ => rfl
  | 59, _ => rfl
  | 60, _ => rfl
  | 61, _ => rfl
  | 62, _ => rfl
  | 63, _ => rfl
  | 64, _ => rfl
  | 65, _ => rfl
  | 66, _ => rfl
  | 67, _ => rfl
  | 68, _ => rfl
  | 69, _ => rfl
  | 70, _ => rfl
  | 71, _ => rfl
  | 72, _ => rfl
  | 73, _ => rfl
  | 74, _ => rfl
  | 75, _ => rfl
  | 76, _ => rfl
  | 77, _ => rfl
  | 78, _ => rfl
  | n + 79, h => by omega
theorem p_left {D : va_G} {cl : List vw_C} {a b : va_W} (h : va_P D cl (a ++ b) H) : va_P D cl a H := fun k q hk => h k q (by rw [List.getElem?_append_left (List.getElem?_eq_some_iff.mp hk).1]; exact hk)
theorem p_right {D : va_G} {cl : List vw_C} {a b : va_W} (h : va_P D cl (a ++ b) H) : va_P D cl b H := fun k q hk => h (a.length + k) q (by rw [List.getElem?_append_right (Nat.le_add_right _ _), Nat.add_sub_cancel_left]; exact hk)
theorem p_tail {D : va_G} {cl : List vw_C} {x : Nat × va_E} {b : va_W} (h : va_P D cl (x :: b) H) : va_P D cl b H := fun k q hk => h (k + 1) q hk
set_option maxHeartbeats 8000000 in
set_option maxRecDepth 100000 in
theorem w_rep (h : va_P (gD G0) vwCl (shipW G0 h0 f1 f2 f3 f4 qa g ++ modelW G0 f5 ++ [(oa, e)]) H) : Rep (gl G0 h0 f1 f2 f3 f4 qa g f5 A) s0 H := by
  have a0 := p_left (p_left h)
  have m0 := p_right (p_left h)
  have t0 : va_P (gD G0) vwCl (capeW G0 f1 ++ capeW G0 f2 ++ capeW G0 f3 ++ crewsW G0 f4 ++ [(qa, .inl (gy G0 2, 8, .inr (.inr (.inr (.inr (va_up (va_up (va_up (va_up (va_up (va_up (va_up (va_up (fun _ => none) 0 (some (g 0 0))) 1 (some (g 1 0))) 2 (some (g 2 0))) 3 (some (g 3 0))) 4 (some (g 4 0))) 5 (some (g 5 0))) 6 (some (g 6 0))) 7 (some (g 7 0))))))))] ++ shelfW G0 (g 0) ++ shelfW G0 (g 1) ++ shelfW G0 (g 2) ++ shelfW G0 (g 3) ++ shelfW G0 (g 4) ++ shelfW G0 (g 5) ++ shelfW G0 (g 6) ++ shelfW G0 (g 7)) H := p_tail a0
  have e7 := p_right t0
  have u7 := p_left t0
  have e6 := p_right u7
  have u6 := p_left u7
  have e5 := p_right u6
  have u5 := p_left u6
  have e4 := p_right u5
  have u4 := p_left u5
  have e3 := p_right u4
  have u3 := p_left u4
  have e2 := p_right u3
  have u2 := p_left u3
  have e1 := p_right u2
  have u1 := p_left u2
  have e0 := p_right u1
  have u0 := p_left u1
  have eq := p_right u0
  have v4 := p_left u0
  have b4 := p_right v4
  have v3 := p_left v4
  have b3 := p_right v3
  have v2 := p_left v3
  have b2 := p_right v2
  have b1 := p_left v2
  have key : ∀ o, o < 79 → va_at (gD G0) vwCl (ga (gl G0 h0 f1 f2 f3 f4 qa g f5 A) o, enr (gl G0 h0 f1 f2 f3 f4 qa g f5 A) o (s0 o)) H := by
    intro o ho
    match o, ho with
    | 0, _ => exact a0 0 _ rfl
    | 1, _ => exact b1 0 _ rfl
    | 2, _ => exact b2 0 _ rfl
    | 3, _ => exact b3 0 _ rfl
    | 4, _ => exact b4 0 _ rfl
    | 5, _ => exact at_refs (eq 0 _ rfl) (fun j hj => by match j, hj with | 0, _ => rfl | 1, _ => rfl | 2, _ => rfl | 3, _ => rfl | 4, _ => rfl | 5, _ => rfl | 6, _ => rfl | 7, _ => rfl)
    | 6, _ => exact e0 0 _ rfl
    | 7, _ => exact e1 0 _ rfl
    | 8, _ => exact e2 0 _ rfl
    | 9, _ => exact e3 0 _ rfl
    | 10, _ => exact e4 0 _ rfl
    | 11, _ => exact e5 0 _ rfl
    | 12, _ => exact e6 0 _ rfl
    | 13, _ => exact e7 0 _ rfl
    | 14, _ => exact e0 1 _ rfl
    | 15, _ => exact e1 1 _ rfl
    | 16, _ => exact e2 1 _ rfl
    | 17, _ => exact e3 1 _ rfl
    | 18, _ => exact e4 1 _ rfl
    | 19, _ => exact e5 1 _ rfl
    | 20, _ => exact e6 1 _ rfl
    | 21, _ => exact e7 1 _ rfl
    | 22, _ => exact at_refs (b1 1 _ rfl) (fun j hj => by match j, hj with | 0, _ => rfl | 1, _ => rfl | 2, _ => rfl | 3, _ => rfl | 4, _ => rfl | 5, _ => rfl | 6, _ => rfl | 7, _ => rfl)
    | 23, _ => exact at_refs (b2 1 _ rfl) (fun j hj => by match j, hj with | 0, _ => rfl | 1, _ => rfl | 2, _ => rfl | 3, _ => rfl | 4, _ => rfl | 5, _ => rfl | 6, _ => rfl | 7, _ => rfl)
    | 24, _ => exact at_refs (b3 1 _ rfl) (fun j hj => by match j, hj with | 0, _ => rfl | 1, _ => rfl | 2, _ => rfl | 3, _ => rfl | 4, _ => rfl | 5, _ => rfl | 6, _ => rfl | 7, _ => rfl)
    | 25, _ => exact b1 10 _ rfl
    | 26, _ => exact b2 10 _ rfl
    | 27, _ => exact b3 10 _ rfl
    | 28, _ => exact b1 11 _ rfl
    | 29, _ => exact b2 11 _ rfl
    | 30, _ => exact b3 11 _ rfl
    | 31, _ => exact b1 12 _ rfl
    | 32, _ => exact b2 12 _ rfl
    | 33, _ => exact b3 12 _ rfl
    | 34, _ => exact b1 13 _ rfl
    | 35, _ => exact b2 13 _ rfl
    | 36, _ => exact b3 13 _ rfl
    | 37, _ => exact b4 1 _ rfl
    | 38, _ => exact b4 2 _ rfl
    | 39, _ => exact b4 3 _ rfl
    | 40, _ => exact b4 4 _ rfl
    | 41, _ => exact b1 2 _ rfl
    | 42, _ => exact b1 3 _ rfl
    | 43, _ => exact b1 4 _ rfl
    | 44, _ => exact b1 5 _ rfl
    | 45, _ => exact b1 6 _ rfl
    | 46, _ => exact b1 7 _ rfl
    | 47, _ => exact b1 8 _ rfl
    | 48, _ => exact b1 9 _ rfl
    | 49, _ => exact b2 2 _ rfl
    | 50, _ => exact b2 3 _ rfl
    | 51, _ => exact b2 4 _ rfl
    | 52, _ => exact b2 5 _ rfl
    | 53, _ => exact b2 6 _ rfl
    | 54, _ => exact b2 7 _ rfl
    | 55, _ => exact b2 8 _ rfl
    | 56, _ => exact b2 9 _ rfl
    | 57, _ => exact b3 2 _ rfl
    | 58, _ => exact b3 3 _ rfl
    | 59, _ => exact b3 4 _ rfl
    | 60, _ => exact b3 5 _ rfl
    | 61, _ => exact b3 6 _ rfl
    | 62, _ => exact b3 7 _ rfl
    | 63, _ => exact b3 8 _ rfl
    | 64, _ => exact b3 9 _ rfl
    | 65, _ => exact m0 0 _ rfl
    | 66, _ => exact m0 1 _ rfl
    | 67, _ => exact m0 2 _ rfl
    | 68, _ => exact m0 3 _ rfl
    | 69, _ => exact m0 4 _ rfl
    | 70, _ => exact m0 5 _ rfl
    | 71, _ => exact m0 6 _ rfl
    | 72, _ => exact m0 7 _ rfl
    | 73, _ => exact m0 8 _ rfl
    | 74, _ => exact m0 9 _ rfl
    | 75, _ => exact m0 10 _ rfl
    | 76, _ => exact m0 11 _ rfl
    | 77, _ => exact m0 12 _ rfl
    | 78, _ => exact m0 13 _ rfl
    | n + 79, hn => omega
  intro o q hq
  have ho : o < 79 := by
    have := (List.getElem?_eq_some_iff.mp hq).1
    rwa [wl_len] at this
  rw [wl_get _ _ ho] at hq
  cases hq
  exact key o ho
theorem w_ok {U : State} {A0 : Nat → Prop} (hN : OkN U) (hK : va_K (gD G0) vwCl (wty G0) U) (hD : va_D A0 (shipW G0 h0 f1 f2 f3 f4 qa g ++ modelW G0 f5 ++ [(oa, e)])) (hA : ∀ q, A0 q → q ≠ oa → A q) : OkW (gl G0 h0 f1 f2 f3 f4 qa g f5 A) U := by
  have hk : ∀ i, i < 79 → ∃ q, (shipW G0 h0 f1 f2 f3 f4 qa g ++ modelW G0 f5 ++ [(oa, e)])[pmt.getD i 0]? = some q ∧ q.1 = ga (gl G0 h0 f1 f2 f3 f4 qa g f5 A) i := fun i hi => by
    have h1 := w_key (G0 := G0) (h0 := h0) (f1 := f1) (f2 := f2) (f3 := f3) (f4 := f4) (qa := qa) (g := g) (f5 := f5) (A := A) (oa := oa) i hi
    rw [← w_adl (G0 := G0) (oa := oa) (e := e), List.getElem?_map] at h1
    exact Option.map_eq_some_iff.mp h1
  refine ⟨hK, fun i j hi hj hij => ?_, fun i hi => ?_, hN⟩
  · obtain ⟨p, hp, e1⟩ := hk i hi
    obtain ⟨q, hq, e2⟩ := hk j hj
    exact pmt_inj i hi j hj (hD.1 _ _ p q hp hq (by rw [e1, e2, hij]))
  · obtain ⟨p, hp, e1⟩ := hk i hi
    rw [← e1]
    refine hA p.1 (hD.2 _ p hp) (fun hq => ?_)
    have h9 : (shipW G0 h0 f1 f2 f3 f4 qa g ++ modelW G0 f5 ++ [(oa, e)])[79]? = some (oa, e) := by
      simp only [shipW, modelW, capeW, crewsW, shelfW, List.cons_append, List.append_assoc, List.nil_append]
      rfl
    have h3 := hD.1 _ 79 p (oa, e) hp h9 hq
    have h4 := pmt_lt i hi
    omega
end WORLD
section LSTART
variable {G0 : Gl} {p : Program} {l : Launch} {e : Env} {s : State} {m : MethodId} {b : Nat} {below : List Frame} {meth : Method} {c : Code} {H : Heap} {locs : List Loc} {cells slots : Nat} {pc : Nat} {la : Array Slot} {ls : List (Nat × Value)} {st : List Value} {ws : va_W} {Q : State → Prop}
theorem w_initU (hx : p.tables.exec = Jvm.exec) (hb : c.code = cL_law) (hml : c.maxLocals = 8) (hown : s.vm.findClass RL = some m.cls) (hts : ∀ w ∈ TT, w.before #[Value.ref b] s = true) (hO : OkU G0 s) (hP : va_P (gD G0) vwCl ws H) (hD : va_D (fun q => s.heap.size ≤ q) ws) (hS : va_S (fun q => s.heap.size ≤ q) s.heap H locs) (hl' : lv_has la 8 ls) {idx q lvc mc1 ms1 maxL : Nat} {e0 : va_E} {wr : va_W} {Post1 : va_W → Prop} {yc : ByteArray} {y : MethodName} (hws : ws = wr ++ [(q, e0)]) (hl : Cond.methodLink RL idx y ∈ TT) (hcd : Cond.code y yc maxL none ∈ TT) (hin : Cond.instanceMethod y ∈ TT) (hini : Cond.initialized y.cls ∈ TT) (hy : y.name = "<init>") (hm : mOk y 0) (hM : MetU G0 y yc maxL lvc mc1 ms1 q [(q, e0)] Post1) (hlv : lvc ≤ 1000) (hmx : maxL ≤ 29) (hw : (st.map fun v => v.category).sum ≤ 8) (hd : decode cL_law pc = .ok (.invokespecial idx, 3)) (hcs : cells + mc1 ≤ 601024 ∧ slots + ms1 ≤ 7293034)
    (k : ∀ w1, Post1 w1 → ∀ (H1 : Heap) (locs1 : List Loc), va_P (gD G0) vwCl (wr ++ w1) H1 → va_D (fun q => s.heap.size ≤ q) (wr ++ w1) → va_S (fun q => s.heap.size ≤ q) s.heap H1 locs1 → W p l e room_1 s m #[Value.ref b] below meth c H1 locs1 (cells + mc1) (slots + ms1) Q (F0 m (pc + 3) la st)) : W p l e room_1 s m #[Value.ref b] below meth c H locs cells slots Q (F0 m pc la (.ref q :: st)) := by
  subst hws
  intro T hT XS
  have hPc : va_P (gD G0) vwCl [(q, e0)] H := fun k x hx => by
    have hz : k < 1 := (List.getElem?_eq_some_iff.mp hx).1
    have hk0 : k = 0 := by omega
    subst hk0
    cases hx
    exact hP wr.length (q, e0) mid_get
  have hDc : va_D (fun _ => True) [(q, e0)] := ⟨fun i j x y hi hj _ => by
    have h1 : i < 1 := (List.getElem?_eq_some_iff.mp hi).1
    have h2 : j < 1 := (List.getElem?_eq_some_iff.mp hj).1
    omega, fun _ _ _ => trivial⟩
  have hF : ∀ x, va_A [(q, e0)] H.size x → s.heap.size ≤ x := by
    intro x hx
    rcases hx with ⟨k, e1, hk⟩ | hx
    · have hz : k < 1 := (List.getElem?_eq_some_iff.mp hk).1
      have hk0 : k = 0 := by omega
      subst hk0
      cases hk
      exact hD.2 wr.length (q, e0) mid_get
    · exact Nat.le_trans hS.1 hx
  have hr := va_runI (As := []) (Ts := TT) (rest := st) (g := F0 m pc la (.ref q :: st)) (cells := cells) (slots := slots) (locs := locs) (H := H) (e := e) (below := below) (p := p) (meth := meth) (R := room_1) ⟨hx, hb, hml, hown, hts⟩ (hM l H.size) ⟨callB_of 0 hts (tt_call hcd) rfl rfl rfl (hts _ hini) (hts _ hl) hm ⟨by show lvc + 1 ≤ 2048; omega, by show 8 + (maxL + 11) + 48 * lvc ≤ 84000; omega⟩, hy, hts _ hin⟩ ⟨preU_blind, fun U hU hW => ⟨rfl, okU_warm hW hO, by rw [hU], by rw [hU]; exact hPc, hDc⟩⟩ rfl rfl hl'.1 rfl (lv_room hw) hd hcs
  obtain ⟨v, st₀, t, T', Lz, h0, X', hL, e1, e2, ⟨hv, ⟨w1, hPost, hP1, hD1⟩, hz, hk⟩, hst⟩ := hr T hT XS
  cases hv
  rw [h0] at hz hk
  obtain ⟨hP2, hD2⟩ := j_app hP hD hk hF hP1 hD1
  obtain ⟨t2, a1, b1⟩ := k w1 hPost T'.heap (locs ++ Lz) (by rw [e1]; exact hP2) hD2 ⟨Nat.le_trans hS.1 (by rw [e1]; exact hz), fun x h1 h2 => by rw [e1, hk x (Nat.lt_of_lt_of_le h1 hS.1) (fun z => h2 (hF x z))]; exact hS.2.1 x h1 h2, fun x hx => by
      rcases List.mem_append.mp hx with h | h
      · exact hS.2.2 x h
      · exact hF _ (hL x h)⟩ T' rfl X'
  exact ⟨t2, hst t2 a1, b1⟩
set_option maxRecDepth 100000 in
set_option maxHeartbeats 4000000 in
/-- from the entry to the loop's head: the world stands -/
theorem law_start (hflags : l.flags = flags0) {b L : Nat} {xs : Nat → Int32} (C0 : lw_At p s m meth c b L xs)
    (kk : ∀ (G : Gl) (ly : ClassId) (oa : Nat) (f : Nat → Int64), OkLw G (p, l, e, s, m, b, below, meth, c) xs L ly oa → LJ G (p, l, e, s, m, b, below, meth, c) ly oa f 80 2495 s0 [(4, .int (0 : Int32)), (3, .ref oa), (2, .ref (ga G 65)), (1, .ref (ga G 0)), (0, .ref b)] [] 23) : W p l e room_1 s m #[Value.ref b] below meth c s.heap [] 0 0 (lw_Z below #[Value.ref b] s) (entryFrame m ([Value.ref b] : List Value).toArray 8) := by
  obtain ⟨hx, hb, hr, hml, hown, hts', hX, hbl, hlk, hgv⟩ := C0
  have hts : ∀ w ∈ TT, w.before #[Value.ref b] s = true := fun w hw => hts' w (tt_in w hw)
  obtain ⟨D, y0, y1, y2, ly, hK⟩ := k_all hts'
  generalize hG : ((D.1, D.2, (fun n => [y0, y1, y2].getD n y0), (fun _ => 0), (fun _ => False)) : Gl) = G0
  have hK0 : va_K (gD G0) vwCl (wty G0) s := by
    rw [← hG]
    exact va_K.sub hK [0, 1, 2] rfl
  have hY0 : va_K (gD G0) vwCl (wty G0 ++ [(ly, FieldType.long)]) s := by
    rw [← hG]
    exact hK
  have hO := okU_of (G := G0) hts' hK0
  have hl := lv_entry ([.ref b]) (n := 8) (Nat.le_of_ble_eq_true rfl)
  rw [lg_entry_eq]
  generalize (lg_sl ([.ref b]) ++ List.replicate (8 - (lg_sl ([.ref b])).length) Slot.unset).toArray = la at hl ⊢
  have hA : ∀ q, s.heap.size ≤ q → (fun q => s.heap.size ≤ q) q := fun q h => h
  refine va_new (index := 8) (Ts := TT) (ci := 11) (N := 6) (fs := [.null, .null, .null, .null, .null, .int 0]) (ws := []) (A := fun q => s.heap.size ≤ q) (H0 := s.heap) hx hb hts inTX11 tyX11 tyX11_ok hown (hts _ (tt_at 90 (by decide +kernel) rfl)) (hts _ (tt_at 91 (by decide +kernel) rfl)) (hts _ tnX11_init) hK0 (fun k q hk => by cases hk) ⟨fun i j x y hi => (by cases hi), fun k q hk => (by cases hk)⟩ va_S.rf hA rfl (fun j hj => by match j, hj with | 0, _ => rfl | 1, _ => rfl | 2, _ => rfl | 3, _ => rfl | 4, _ => rfl | 5, _ => rfl) (by decide) (by decide) (by decide +kernel) (fun h0 H1 hP hD hS => ?_)
  refine w_blk hx hb hl (is := [(.dup, 0)]) (pc' := 4) (ls' := [(0, .ref b)]) (st' := [.ref h0, .ref h0]) (by decide +kernel) rfl (fun la hl => ?_)
  refine w_initU (idx := 17) (wr := []) hx hb hml hown hts hO hP hD hS hl rfl (tt_at 92 (by decide +kernel) rfl) tcX11_init tiX11_init tnX11_init rfl tmX11_init (c_X11_init h0) (by decide) (by decide) (Nat.le_of_ble_eq_true rfl) (by decide +kernel) ⟨by decide, by decide⟩ ?_
  rintro _ ⟨f1, f2, f3, f4, qa, g, rfl⟩ H1 locs hP hD hS
  refine w_blk hx hb hl (is := [(.astore_n 1, 0)]) (pc' := 8) (ls' := [(1, .ref h0), (0, .ref b)]) (st' := []) (by decide +kernel) rfl (fun la hl => ?_)
  refine va_new (index := 18) (Ts := TT) (ci := 12) (N := 19) (fs := [.null, .null, .null, .null, .int 0, .int 0, .int 0, .int 0, .null, .null, .null, .int 0, .null, .null, .null, .null, .null, .null, .int 0]) (A := fun q => s.heap.size ≤ q) hx hb hts inTX12 tyX12 tyX12_ok hown (hts _ (tt_at 1043 (by decide +kernel) rfl)) (hts _ (tt_at 1044 (by decide +kernel) rfl)) (hts _ tnX12_init) hK0 hP hD hS hA rfl (fun j hj => by match j, hj with | 0, _ => rfl | 1, _ => rfl | 2, _ => rfl | 3, _ => rfl | 4, _ => rfl | 5, _ => rfl | 6, _ => rfl | 7, _ => rfl | 8, _ => rfl | 9, _ => rfl | 10, _ => rfl | 11, _ => rfl | 12, _ => rfl | 13, _ => rfl | 14, _ => rfl | 15, _ => rfl | 16, _ => rfl | 17, _ => rfl | 18, _ => rfl | n + 19, hj => exact absurd hj (by omega)) (by decide) (by decide) (by decide +kernel) (fun m0 H1 hP hD hS => ?_)
  refine w_blk hx hb hl (is := [(.dup, 0)]) (pc' := 12) (ls' := [(1, .ref h0), (0, .ref b)]) (st' := [.ref m0, .ref m0]) (by decide +kernel) rfl (fun la hl => ?_)
  refine w_initU (idx := 20) (wr := [] ++ shipW G0 h0 f1 f2 f3 f4 qa g) hx hb hml hown hts hO hP hD hS hl rfl (tt_at 1045 (by decide +kernel) rfl) tcX12_init tiX12_init tnX12_init rfl tmX12_init (c_X12_init m0) (by decide) (by decide) (Nat.le_of_ble_eq_true rfl) (by decide +kernel) ⟨by decide, by decide⟩ ?_
  rintro _ ⟨f5, rfl, rfl⟩ H1 locs hP hD hS
  refine w_blk hx hb hl (is := [(.astore_n 2, 0), (.iconst 1, (1 : Int32))]) (pc' := 17) (ls' := [(2, .ref (f5 0)), (1, .ref h0), (0, .ref b)]) (st' := [.int (1 : Int32)]) (by decide +kernel) rfl (fun la hl => ?_)
  refine va_newa (atype := .long) (n := (1 : Int32)) (cells := 79) (slots := 2494) (pc := 17) (R := room_1) (A := fun q => s.heap.size ≤ q) (N' := 1) (a0 := (1, .inr (.inl (fun _ => 0)))) hx hb (hts' _ (List.mem_of_getElem? (i := 1487) (by decide +kernel))) rfl hK0 hP hD hS hA (fun cA => rfl) (by decide) (by decide) (by decide) (by decide) (by decide) (by decide +kernel) (fun oa cA H1 hK1 hP hD hS => ?_)
  have e3 : cA = ly := by
    have h1 : s.vm.findClass ("[" ++ FieldType.long.toString) = some cA := (hK1.2 (wty G0).length (cA, .long) (by rw [List.getElem?_append_right (Nat.le_refl _), Nat.sub_self]; rfl)).2
    have h2 : s.vm.findClass ("[" ++ FieldType.long.toString) = some ly := (hY0.2 (wty G0).length (ly, .long) (by rw [List.getElem?_append_right (Nat.le_refl _), Nat.sub_self]; rfl)).2
    exact Option.some.inj (h1.symm.trans h2)
  subst e3
  refine w_blk hx hb hl (is := [(.astore_n 3, 0), (.iconst 0, (0 : Int32)), (.istore 4, 0)]) (pc' := 23) (ls' := [(4, .int (0 : Int32)), (3, .ref oa), (2, .ref (f5 0)), (1, .ref h0), (0, .ref b)]) (st' := []) (by decide +kernel) rfl (fun la hl => ?_)
  have h9 : (([] ++ shipW G0 h0 f1 f2 f3 f4 qa g) ++ modelW G0 f5 ++ [(oa, eO cA (fun _ => 0))])[79]? = some (oa, eO cA (fun _ => 0)) := by
    simp only [shipW, modelW, capeW, crewsW, shelfW, List.cons_append, List.append_assoc, List.nil_append]
    rfl
  have hoa : s.heap.size ≤ oa := hD.2 79 _ h9
  have hOE := okE_of (A := fun q => s.heap.size ≤ q ∧ q ≠ oa) (fun a ha hq => by omega) hts' hgv
  have hlt : l.stackTraces = false := by
    unfold Launch.stackTraces
    rw [hflags]
    decide +kernel
  have hW := w_ok (G0 := G0) (h0 := h0) (f1 := f1) (f2 := f2) (f3 := f3) (f4 := f4) (qa := qa) (g := g) (f5 := f5) (A := fun q => s.heap.size ≤ q ∧ q ≠ oa) (okN_of hts') hK0 hD (fun q h1 h2 => ⟨h1, h2⟩)
  have hR := w_rep (G0 := G0) (h0 := h0) (f1 := f1) (f2 := f2) (f3 := f3) (f4 := f4) (qa := qa) (g := g) (f5 := f5) (A := fun q => s.heap.size ≤ q ∧ q ≠ oa) hP
  exact kk (gl G0 h0 f1 f2 f3 f4 qa g f5 (fun q => s.heap.size ≤ q ∧ q ≠ oa)) cA oa (fun _ => 0) ⟨hx, hb, hml, hown, hts, hW, hY0, hOE, fun q => Iff.rfl, hoa, hX, hbl, hlt, hr, hlk⟩ H1 locs la hR (hP 79 _ h9) hS hl
end LSTART
