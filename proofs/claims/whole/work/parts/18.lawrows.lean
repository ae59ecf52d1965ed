def R_law : String := "NoManMaySailLaw"
def lw_P (b : Addr) (xs : List Int32) (args : Array Value) (s : State) : Prop := args = #[.ref b] ∧ s.IntsAt b xs ∧ xs.length ≤ 3072 ∧ (Jvm.Cond.and given_1 narrow_1).before args s = true
def lw_Q (_ : Array Value) (s : State) (o : Outcome) (t : State) : Prop := o = .returned (some (.int 1)) ∧ Framed s o t [] 601024 7293034
def lw_Z (below : List Frame) (a : Array Value) (s : State) : State → Prop := fun t => ∃ o, t.status = .running ∧ Ended t below o ∧ lw_Q a s o t
/-- the law's own end, with 1 on the stack, nothing written that was there before, its room as the claim has it -/
theorem lw_ret {p : Program} {l : Launch} {e : Env} {s : State} {m : MethodId} {below : List Frame} {meth : Method} {c : Code} {b : Nat} (hx : p.tables.exec = Jvm.exec) (hb : c.code = code) (hr : meth.sig.returnType = ret) (hlocks : meth.locks = false) {pc : Nat} {H : Heap} {ls : Array Slot} (hdg : decode code pc = .ok (.ireturn, 1)) : W p l e room_1 s m #[Value.ref b] below meth c H [] 601024 7293034 (lw_Z below #[Value.ref b] s) (F0 m pc ls [.int 1]) := by
  intro T hT X
  obtain ⟨fs, hret, hrun, hended, hW, hframe⟩ := X.leave (v := some (.int 1)) (hlocks := hlocks) (fun h => by rw [hr] at h; cases h)
  have hmeth' : T.vm.method? m = some meth := X.method'
  refine ⟨T.setFrames fs, ?_, .returned (some (.int 1)), hrun, hended, rfl, ⟨_, rfl⟩, hW, hframe⟩
  jvm_step X.here [X.here.top, hx, hb, hdg, hmeth', hr, ret, narrow_b1]
  (try refine ⟨rfl, ?_⟩); (try refine ⟨rfl, ?_⟩)
  first | (intro acts; rw [hret _ acts rfl rfl rfl]) | rw [hret _ _ rfl rfl rfl]
  exact Steps.refl _
/-- what holds at the law's entry: the machine, the code, the tables' words (any of lw_tbl by 'hts w (by decide +kernel)'), the script of L ints xs at the cell b, what the Statement gives of the start (any of its parts by flat_of_before) -/
def lw_At (p : Program) (s : State) (m : MethodId) (meth : Method) (c : Code) (b L : Nat) (xs : Nat → Int32) : Prop :=
  p.tables.exec = Jvm.exec ∧ c.code = code ∧ meth.sig.returnType = ret ∧ c.maxLocals = 8 ∧ s.vm.findClass R_law = some m.cls ∧ (∀ w ∈ lw_tbl, w.before #[Value.ref b] s = true) ∧ va_X b L xs s s.heap ∧ b < s.heap.size ∧ meth.locks = false ∧ (Jvm.Cond.and given_1 narrow_1).before #[Value.ref b] s = true

theorem lg_cmp_self (x : Int64) : lg_cmp x x = 0 := by
  unfold lg_cmp
  simp
/-! the law's own walk -/
def xsF := @xs
abbrev Lx : Type := Program × Launch × Env × State × MethodId × Nat × List Frame × Method × Code
def OkLw (G : Gl) (Y : Lx) (xs : Nat → Int32) (L : Nat) (ly : ClassId) (oa : Nat) : Prop := match Y with
  | (p, l, _, s, m, b, _, meth, c) => p.tables.exec = Jvm.exec ∧ c.code = cL_law ∧ c.maxLocals = 8 ∧ s.vm.findClass RL = some m.cls ∧ (∀ w ∈ TT, w.before #[Value.ref b] s = true) ∧ OkW G s ∧ OkY G ly s ∧ OkE (gA G) s ∧ (∀ q, gA G q ↔ (s.heap.size ≤ q ∧ q ≠ oa)) ∧ s.heap.size ≤ oa ∧ va_X b L xs s s.heap ∧ b < s.heap.size ∧ l.stackTraces = false ∧ meth.sig.returnType = ret ∧ meth.locks = false
def LJ (G : Gl) (Y : Lx) (ly : ClassId) (oa : Nat) (f : Nat → Int64) (k n : Nat) (σ : Mem) (ls : List (Nat × Value)) (st : List Value) (pc : Nat) : Prop := match Y with
  | (p, l, e, s, m, b, below, meth, c) => ∀ (H : Heap) (locs : List Loc) (la : Array Slot), Rep G σ H → va_at (gD G) vwCl (oa, eO ly f) H → va_S (fun q => s.heap.size ≤ q) s.heap H locs → lv_has la 8 ls → W p l e room_1 s m #[Value.ref b] below meth c H locs k n (lw_Z below #[Value.ref b] s) (F0 m pc la st)
def sc (xs : Nat → Int32) (i k : Int32) : Int32 := xs (i + k).toNatClampNeg
section LAWROWS
variable {G : Gl} {Y : Lx} {xs : Nat → Int32} {L : Nat} {ly : ClassId} {oa : Nat} {f : Nat → Int64} {k n : Nat} {σ σ1 : Mem} {ls : List (Nat × Value)} {st : List Value} {pc tgt : Nat} {off : Int} {x y : Int32}
theorem l_blk (hC : OkLw G Y xs L ly oa) {is : List (Instr × Int32)} {pc' : Nat} {ls' : List (Nat × Value)} {st' : List Value} (hk : chk cL_law pc is pc' = true) (h : xsF 8 is ls st = some (ls', st')) (kk : LJ G Y ly oa f k n σ ls' st' pc') : LJ G Y ly oa f k n σ ls st pc := by
  obtain ⟨p, l, e, s, m, b, below, meth, c⟩ := Y
  obtain ⟨hx, hb, -⟩ := hC
  intro H locs la hR hV hS hl
  exact w_blk hx hb hl hk h (fun la' hl' => kk H locs la' hR hV hS hl')
theorem l_goto (hC : OkLw G Y xs L ly oa) (hd : decode cL_law pc = .ok (.goto off, 3)) (ht : (pc : Int) + off = (tgt : Int)) (kk : LJ G Y ly oa f k n σ ls st tgt) : LJ G Y ly oa f k n σ ls st pc := by
  obtain ⟨p, l, e, s, m, b, below, meth, c⟩ := Y
  obtain ⟨hx, hb, -⟩ := hC
  intro H locs la hR hV hS hl
  exact lv_goto hx hb hd ht (kk H locs la hR hV hS hl)
theorem l_icmp_eq (hC : OkLw G Y xs L ly oa) (hd : decode cL_law pc = .ok (.if_icmp .eq off, 3)) (ht : (pc : Int) + off = (tgt : Int)) (kt : x = y → LJ G Y ly oa f k n σ ls st tgt) (kf : ¬ x = y → LJ G Y ly oa f k n σ ls st (pc + 3)) : LJ G Y ly oa f k n σ ls (.int y :: .int x :: st) pc := by
  obtain ⟨p, l, e, s, m, b, below, meth, c⟩ := Y
  obtain ⟨hx, hb, -⟩ := hC
  intro H locs la hR hV hS hl
  exact lv_icmp_eq hx hb hd ht (fun hq => kt hq H locs la hR hV hS hl) (fun hq => kf hq H locs la hR hV hS hl)
theorem l_icmp_gt (hC : OkLw G Y xs L ly oa) (hd : decode cL_law pc = .ok (.if_icmp .gt off, 3)) (ht : (pc : Int) + off = (tgt : Int)) (kt : y < x → LJ G Y ly oa f k n σ ls st tgt) (kf : ¬ y < x → LJ G Y ly oa f k n σ ls st (pc + 3)) : LJ G Y ly oa f k n σ ls (.int y :: .int x :: st) pc := by
  obtain ⟨p, l, e, s, m, b, below, meth, c⟩ := Y
  obtain ⟨hx, hb, -⟩ := hC
  intro H locs la hR hV hS hl
  exact lv_icmp_gt hx hb hd ht (fun hq => kt hq H locs la hR hV hS hl) (fun hq => kf hq H locs la hR hV hS hl)
theorem l_if_eq (hC : OkLw G Y xs L ly oa) (hd : decode cL_law pc = .ok (.ifCond .eq off, 3)) (ht : (pc : Int) + off = (tgt : Int)) (kt : x = 0 → LJ G Y ly oa f k n σ ls st tgt) (kf : ¬ x = 0 → LJ G Y ly oa f k n σ ls st (pc + 3)) : LJ G Y ly oa f k n σ ls (.int x :: st) pc := by
  obtain ⟨p, l, e, s, m, b, below, meth, c⟩ := Y
  obtain ⟨hx, hb, -⟩ := hC
  intro H locs la hR hV hS hl
  exact lv_if_eq hx hb hd ht (fun hq => kt hq H locs la hR hV hS hl) (fun hq => kf hq H locs la hR hV hS hl)
theorem l_if_ne (hC : OkLw G Y xs L ly oa) (hd : decode cL_law pc = .ok (.ifCond .ne off, 3)) (ht : (pc : Int) + off = (tgt : Int)) (kt : ¬ x = 0 → LJ G Y ly oa f k n σ ls st tgt) (kf : x = 0 → LJ G Y ly oa f k n σ ls st (pc + 3)) : LJ G Y ly oa f k n σ ls (.int x :: st) pc := by
  obtain ⟨p, l, e, s, m, b, below, meth, c⟩ := Y
  obtain ⟨hx, hb, -⟩ := hC
  intro H locs la hR hV hS hl
  exact lv_if_ne hx hb hd ht (fun hq => kt hq H locs la hR hV hS hl) (fun hq => kf hq H locs la hR hV hS hl)
theorem l_tin (hC : OkLw G Y xs L ly oa) {dflt lo hi : Int} {offs : Array Int} {len : Nat} (hd : decode cL_law pc = .ok (.tableswitch dflt lo hi offs, len)) (h1 : ¬ x.toInt < lo) (h2 : ¬ hi < x.toInt) (ho : offs[(x.toInt - lo).toNat]? = some off) (ht : (pc : Int) + off = (tgt : Int)) (kk : LJ G Y ly oa f k n σ ls st tgt) : LJ G Y ly oa f k n σ ls (.int x :: st) pc := by
  obtain ⟨p, l, e, s, m, b, below, meth, c⟩ := Y
  obtain ⟨hx, hb, -⟩ := hC
  intro H locs la hR hV hS hl
  exact lv_tableIn hx hb hd h1 h2 ho ht (kk H locs la hR hV hS hl)
theorem l_tout (hC : OkLw G Y xs L ly oa) {dflt lo hi : Int} {offs : Array Int} {len : Nat} (hd : decode cL_law pc = .ok (.tableswitch dflt lo hi offs, len)) (h : x.toInt < lo ∨ hi < x.toInt) (ht : (pc : Int) + dflt = (tgt : Int)) (kk : LJ G Y ly oa f k n σ ls st tgt) : LJ G Y ly oa f k n σ ls (.int x :: st) pc := by
  obtain ⟨p, l, e, s, m, b, below, meth, c⟩ := Y
  obtain ⟨hx, hb, -⟩ := hC
  intro H locs la hR hV hS hl
  exact lv_tableOut hx hb hd h ht (kk H locs la hR hV hS hl)
/-- a script's int -/
theorem l_sld {p : Program} {l : Launch} {e : Env} {s : State} {m : MethodId} {b : Nat} {below : List Frame} {meth : Method} {c : Code} (hC : OkLw G (p, l, e, s, m, b, below, meth, c) xs L ly oa) {i j : Int32} (hin : vp_in (i + j) L) (hd : decode cL_law pc = .ok (.iaload, 1)) (kk : LJ G (p, l, e, s, m, b, below, meth, c) ly oa f k n σ ls (.int (sc xs i j) :: st) (pc + 1)) : LJ G (p, l, e, s, m, b, below, meth, c) ly oa f k n σ ls (.int (i + j) :: .ref b :: st) pc := by
  obtain ⟨hx, hb, hml, hown, hts, hO, hY, hE, hg, hoa, hX, hbl, -⟩ := hC
  intro H locs la hR hV hS hl
  exact va_sld hx hb hX hbl (by omega) hS hin hd (kk H locs la hR hV hS hl)
theorem l_sl0 {p : Program} {l : Launch} {e : Env} {s : State} {m : MethodId} {b : Nat} {below : List Frame} {meth : Method} {c : Code} (hC : OkLw G (p, l, e, s, m, b, below, meth, c) xs L ly oa) {i : Int32} (hin : vp_in i L) (hd : decode cL_law pc = .ok (.iaload, 1)) (kk : LJ G (p, l, e, s, m, b, below, meth, c) ly oa f k n σ ls (.int (xs i.toNatClampNeg) :: st) (pc + 1)) : LJ G (p, l, e, s, m, b, below, meth, c) ly oa f k n σ ls (.int i :: .ref b :: st) pc := by
  obtain ⟨hx, hb, hml, hown, hts, hO, hY, hE, hg, hoa, hX, hbl, -⟩ := hC
  intro H locs la hR hV hS hl
  exact va_sld hx hb hX hbl (by omega) hS hin hd (kk H locs la hR hV hS hl)
theorem l_slen {p : Program} {l : Launch} {e : Env} {s : State} {m : MethodId} {b : Nat} {below : List Frame} {meth : Method} {c : Code} (hC : OkLw G (p, l, e, s, m, b, below, meth, c) xs L ly oa) (hd : decode cL_law pc = .ok (.arraylength, 1)) (kk : LJ G (p, l, e, s, m, b, below, meth, c) ly oa f k n σ ls (.int (Int32.ofNat L) :: st) (pc + 1)) : LJ G (p, l, e, s, m, b, below, meth, c) ly oa f k n σ ls (.ref b :: st) pc := by
  obtain ⟨hx, hb, hml, hown, hts, hO, hY, hE, hg, hoa, hX, hbl, -⟩ := hC
  intro H locs la hR hV hS hl
  exact va_slen hx hb hX hbl (by omega) hS hd (kk H locs la hR hV hS hl)
theorem l_out (hC : OkLw G Y xs L ly oa) (hd : decode cL_law pc = .ok (.laload, 1)) (kk : LJ G Y ly oa f k n σ ls (.long (f 0) :: st) (pc + 1)) : LJ G Y ly oa f k n σ ls (.int (0 : Int32) :: .ref oa :: st) pc := by
  obtain ⟨p, l, e, s, m, b, below, meth, c⟩ := Y
  obtain ⟨hx, hb, hml, hown, hts, hO, hY, hE, hg, hoa, hX, hbl, -⟩ := hC
  intro H locs la hR hV hS hl
  exact va_lald (D := gD G) (cl := vwCl) (tys := wty G ++ [(ly, FieldType.long)]) (ws := (oa, eO ly f) :: wl G σ) (n := 1) (f := f) hx hb (show va_K (gD G) vwCl (wty G ++ [(ly, FieldType.long)]) s from hY) (lP hR hV) 0 3 rfl rfl (by unfold vp_in; decide) hd (kk H locs la hR hV hS hl)
/-- the law's end -/
theorem l_end (hC : OkLw G Y xs L ly oa) (hk : k ≤ 601024) (hn : n ≤ 7293034) (hd : decode cL_law pc = .ok (.ireturn, 1)) : LJ G Y ly oa f k n σ ls [.int (1 : Int32)] pc := by
  obtain ⟨p, l, e, s, m, b, below, meth, c⟩ := Y
  obtain ⟨hx, hb, hml, hown, hts, hO, hY, hE, hg, hoa, hX, hbl, hst, hr, hlk⟩ := hC
  intro H locs la hR hV hS hl
  exact va_forget hS.2.2 (W.widen hk hn (lw_ret hx hb hr hlk hd))
/-- a call of a method of the world -/
theorem l_cV (hC : OkLw G Y xs L ly oa) {idx maxL n0 o ci lvc N : Nat} {y : MethodName} {yc : ByteArray} {r : Option FieldType} {T : u_T} {fs : (Nat → Int32) → List Value} {As rest : List Value} {rv : Option Value} (hL : CV RL idx y yc maxL r n0) (hO : isO G o ci fs) (hc : vwCl[ci]? = some (y.cls, T, N)) (hM : MetX G y yc maxL r lvc (.ref (ga G o) :: As) σ rv σ1) (hlv : lvc ≤ 1000) (hml : maxL ≤ 29) (hd : decode cL_law pc = .ok (.invokevirtual idx, 3)) (hst : st = As.reverse ++ .ref (ga G o) :: rest) (hn : As.length = n0) (hw : (rest.map fun v => v.category).sum ≤ 8) {st2 : List Value} (h2 : rv.toList ++ rest = st2) (hkn : k ≤ 601024 ∧ n ≤ 7293034) (kk : LJ G Y ly oa f k n σ1 ls st2 (pc + 3)) : LJ G Y ly oa f k n σ ls st pc := by
  subst h2
  obtain ⟨p, l, e, s, m, b, below, meth, c⟩ := Y
  obtain ⟨hx, hb, hml', hown, hts, hOk, hY, hE, hg, hoa, hX, hbl, -⟩ := hC
  obtain ⟨h1, h2, h3, h4, h5, h6⟩ := hL
  intro H locs la hR hV hS hl T hT X
  have hrun := va_runV (H := H) (locs := locs) (cells := k) (slots := n) (rest := rest) (g := F0 m pc la st) (R := room_1) (e := e) (below := below) (p := p) (meth := meth) ⟨hx, hb, hml', hown, hts⟩ (hM l) ⟨callB_of n0 hts (tt_call h5) rfl rfl rfl (hts _ h4) (hts _ h1) h6 ⟨by show lvc + 1 ≤ 2048; omega, by show 8 + (maxL + 11) + 48 * lvc ≤ 84000; omega⟩, hts _ h2, hts _ h3⟩ ⟨preX_blind, va_recv hOk.1 hR hc (isO_up hO σ), fun U hU hW => ⟨rfl, okW_warm hW hOk, by rw [hU]; exact hR, fun q hq => (hg q).mpr ⟨Nat.le_trans hS.1 (by rw [hU] at hq; exact hq), fun hq2 => by have := hV.lt; rw [hU] at hq; subst hq2; omega⟩⟩⟩ rfl hn hl.1 hst (lv_room hw) hd hkn
  obtain ⟨v, st₀, t, T', Lz, h0, X', hL, e1, e2, ⟨hv, hR1, hF⟩, hstp⟩ := hrun T hT X
  cases hv
  obtain ⟨kS, kq⟩ := l_keep h0 e1 hF hS (fun q hq => ((hg q).mp hq).1) (fun q hq => ((hg q).mp hq).1) hL
  obtain ⟨t2, a1, b1⟩ := kk T'.heap (locs ++ Lz) la (by rw [e1]; exact hR1) (hV.kept (kq oa hV.lt (fun hq => ((hg oa).mp hq).2 rfl))) kS hl T' rfl X'
  exact ⟨t2, hstp t2 a1, b1⟩
theorem l_E {p : Program} {l : Launch} {e : Env} {s : State} {m : MethodId} {b : Nat} {below : List Frame} {meth : Method} {c : Code} (hC : OkLw G (p, l, e, s, m, b, below, meth, c) xs L ly oa) {H : Heap} {locs : List Loc} {U : State} (hU : U.heap = H) : s.WarmedH U.vm → va_S (fun q => s.heap.size ≤ q) s.heap H locs → va_at (gD G) vwCl (oa, eO ly f) H → OkE (gA G) U ∧ ∀ q, U.heap.size ≤ q → gA G q := by
  obtain ⟨hx, hb, hml', hown, hts, hOk, hY, hE, hg, hoa, hX, hbl, -⟩ := hC
  intro hW hS hV
  subst hU
  refine ⟨okE_next (locs := []) hW ⟨hS.1, fun q h1 h2 => hS.2.1 q h1 (by omega), fun z hz => by cases hz⟩ hE, fun q hq => (hg q).mpr ⟨Nat.le_trans hS.1 hq, fun hq2 => by have := hV.lt; subst hq2; omega⟩⟩
/-- a call of toss -/
theorem l_toss (hC : OkLw G Y xs L ly oa) {x1 : Int32} {rest : List Value} {res : Int32 × Mem} (h : p_X11_toss x1 σ = some res) (hd : decode cL_law pc = .ok (.invokevirtual 226, 3)) (hw : (rest.map fun v => v.category).sum ≤ 8) (hkn : k + 1 ≤ 601024 ∧ n + 6 ≤ 7293034) (kk : LJ G Y ly oa f (k + 1) (n + 6) res.2 ls (.int res.1 :: rest) (pc + 3)) : LJ G Y ly oa f k n σ ls (.int x1 :: .ref (ga G 0) :: rest) pc := by
  obtain ⟨p, l, e, s, m, b, below, meth, c⟩ := Y
  have hEE := fun (H : Heap) (locs : List Loc) (U : State) (hU : U.heap = H) => l_E (f := f) (locs := locs) hC hU
  obtain ⟨hx, hb, hml', hown, hts, hOk, hY, hE, hg, hoa, hX, hbl, hlt, -⟩ := hC
  intro H locs la hR hV hS hl T hT X
  have hG : GoodIn TT (wsV RL 226 RX11 yX11_toss (.codeWith yX11_toss cX11_toss 6 (some .int) [(49, 54, 57, 307), (49, 54, 70, 281), (49, 54, 77, 274)] :: TT)) := fun w hw => by
    rcases List.mem_append.mp hw with hw | hw
    · have hm : w ∈ TT := by
        simp only [List.mem_cons, List.not_mem_nil, or_false] at hw
        rcases hw with rfl | rfl | rfl | rfl
        all_goals first | exact tt_at 904 (by decide +kernel) rfl | exact tiX11_toss | exact tvX11_toss | exact tnX11_toss
      exact ⟨hm, tt_good _ hm⟩
    · rcases List.mem_cons.mp hw with rfl | hw
      · exact ⟨tt_at 907 (by decide +kernel) rfl, tt_good _ (tt_at 907 (by decide +kernel) rfl)⟩
      · exact ⟨hw, tt_good _ hw⟩
  have hrun := vx_runVX (index := 226) (H := H) (locs := locs) (cells := k) (slots := n) (As := [.int x1]) (rest := rest) (g := F0 m pc la (.int x1 :: .ref (ga G 0) :: rest)) (R := room_1) (e := e) (below := below) (p := p) (meth := meth) ⟨hx, hb, hml', hown, hts⟩ (c_X11_toss (G := G) hlt h) (vx_cwVW 1 hts hG rfl rfl rfl ⟨rfl, by decide +kernel, by decide +kernel, by decide +kernel⟩ ⟨by decide, by decide⟩) ⟨preE_blind, va_recv hOk.1 hR rfl (isO_up isO_X11 σ), fun U hU hW => ⟨rfl, okW_warm hW hOk, by rw [hU]; exact hR, (hEE H locs U hU hW hS hV).2, (hEE H locs U hU hW hS hV).1⟩⟩ rfl rfl hl.1 rfl (lv_room hw) hd hkn
  rcases hrun T hT X with ⟨v, st₀, t, T', Lz, h0, X', hL, e1, e2, ⟨hv, hR1, hF⟩, hstp⟩ | ⟨q, st₀, t, T', Lz, E, ce, h0, X', hL, e1, e2, hec, -⟩
  · cases hv
    obtain ⟨kS, kq⟩ := l_keep h0 e1 hF hS (fun q hq => ((hg q).mp hq).1) (fun q hq => ((hg q).mp hq).1) hL
    obtain ⟨t2, a1, b1⟩ := kk T'.heap (locs ++ Lz) la (by rw [e1]; exact hR1) (hV.kept (kq oa hV.lt (fun hq => ((hg oa).mp hq).2 rfl))) kS hl T' rfl X'
    exact ⟨t2, hstp t2 a1, b1⟩
  · exact hec.elim
/-- a call of the helper -/
theorem l_elem (hC : OkLw G Y xs L ly oa) {x1 x2 : Int32} {rest : List Value} {res : (Int32 × Int64) × Mem} (h : p_X11_element x1 x2 σ = some res) (hd : decode cL_law pc = .ok (.invokestatic 208, 3)) (hw : (rest.map fun v => v.category).sum ≤ 8) (hkn : k + 1 ≤ 601024 ∧ n + 6 ≤ 7293034) (kk : ∀ f' : Nat → Int64, (res.1.1 = 0 → f' 0 = res.1.2) → LJ G Y ly oa f' (k + 1) (n + 6) res.2 ls (.int res.1.1 :: rest) (pc + 3)) : LJ G Y ly oa f k n σ ls (.ref oa :: .int x2 :: .int x1 :: .ref (ga G 0) :: rest) pc := by
  obtain ⟨p, l, e, s, m, b, below, meth, c⟩ := Y
  have hEE := fun (H : Heap) (locs : List Loc) (U : State) (hU : U.heap = H) => l_E (f := f) (locs := locs) hC hU
  obtain ⟨hx, hb, hml', hown, hts, hOk, hY, hE, hg, hoa, hX, hbl, hlt, -⟩ := hC
  intro H locs la hR hV hS hl T hT X
  have hG : GoodIn TT (va_wsS RL 208 yL_element (.codeWith yL_element cL_element 5 (some .int) [(0, 9, 12, 13), (0, 9, 16, 15)] :: TT)) := fun w hw => by
    rcases List.mem_append.mp hw with hw | hw
    · have hm : w ∈ TT := by
        simp only [List.mem_cons, List.not_mem_nil, or_false] at hw
        rcases hw with rfl | rfl | rfl
        · exact tt_at 1029 (by decide +kernel) rfl
        · exact tt_at 1030 (by decide +kernel) rfl
        · exact tt_at 67 (by decide +kernel) rfl
      exact ⟨hm, tt_good _ hm⟩
    · rcases List.mem_cons.mp hw with rfl | hw
      · exact ⟨tt_at 1031 (by decide +kernel) rfl, tt_good _ (tt_at 1031 (by decide +kernel) rfl)⟩
      · exact ⟨hw, tt_good _ hw⟩
  have hrun := vx_runSX (index := 208) (H := H) (locs := locs) (cells := k) (slots := n) (As := [.ref (ga G 0), .int x1, .int x2, .ref oa]) (rest := rest) (g := F0 m pc la (.ref oa :: .int x2 :: .int x1 :: .ref (ga G 0) :: rest)) (R := room_1) (e := e) (below := below) (p := p) (meth := meth) ⟨hx, hb, hml', hown, hts⟩ (c_L_element (G := G) (ly := ly) (oa := oa) (f := f) hlt h) (vx_cwSW 4 hts hG rfl rfl rfl ⟨by decide +kernel, by decide +kernel, by decide +kernel⟩ ⟨by decide, by decide⟩) ⟨preL_blind, fun U hU hW => ⟨rfl, okW_warm hW hOk, okY_warm hW hY, by rw [hU]; exact hR, by rw [hU]; exact hV, (hEE H locs U hU hW hS hV).2, (hEE H locs U hU hW hS hV).1, fun hq => ((hg oa).mp hq).2 rfl⟩⟩ rfl rfl hl.1 rfl (lv_room hw) hd hkn
  rcases hrun T hT X with ⟨v, st₀, t, T', Lz, h0, X', hL, e1, e2, ⟨hv, hR1, ⟨f', hV1, hf⟩, hF⟩, hstp⟩ | ⟨q, st₀, t, T', Lz, E, ce, h0, X', hL, e1, e2, hec, -⟩
  · cases hv
    have hA1 : ∀ q, (gA G q ∨ q = oa) → s.heap.size ≤ q := fun q hq => by
      rcases hq with hq | rfl
      · exact ((hg q).mp hq).1
      · exact hoa
    obtain ⟨kS, kq⟩ := l_keep h0 e1 hF hS hA1 hA1 hL
    obtain ⟨t2, a1, b1⟩ := kk f' hf T'.heap (locs ++ Lz) la (by rw [e1]; exact hR1) (by rw [e1]; exact hV1) kS hl T' rfl X'
    exact ⟨t2, hstp t2 a1, b1⟩
  · exact hec.elim
end LAWROWS
