/-! the words that all methods share, and the nest links -/
def TT : List Cond := lw_tbl.filter goodWord
theorem tt_good : ∀ w ∈ TT, (w.onTables && w.keeps) = true ∨ ∃ ty, w = .arrayClass ty := fun w h => good_of_word (List.mem_filter.mp h).2
theorem tt_in : ∀ w ∈ TT, w ∈ lw_tbl := fun w h => (List.mem_filter.mp h).1
theorem tt_at {w : Cond} (i : Nat) (h : lw_tbl[i]? = some w) (hg : goodWord w = true) : w ∈ TT := List.mem_filter.mpr ⟨List.mem_of_getElem? h, hg⟩
def NF : List (String × Nat × String × String × String) := [("NoManMaySail", 297, "NoManMaySail$Cape", "kinds", "[LNoManMaySail$Sailor;"), ("NoManMaySail", 67, "NoManMaySail$Cape", "kind", "[I"), ("NoManMaySail", 71, "NoManMaySail$Cape", "figure", "[I"), ("NoManMaySail", 74, "NoManMaySail$Cape", "boat", "[I"), ("NoManMaySail", 105, "NoManMaySail$Cape", "how", "[I"), ("NoManMaySail$Crews", 24, "NoManMaySail$Cape", "size", "I"), ("NoManMaySail", 187, "NoManMaySail$Cape", "size", "I"), ("NoManMaySail", 216, "NoManMaySail$Cape", "lost", "I"), ("NoManMaySail", 128, "NoManMaySail$Cape", "law", "I"), ("NoManMaySail", 213, "NoManMaySail$Cape", "sea", "I"), ("NoManMaySail", 89, "NoManMaySail$Cape", "season", "I"), ("NoManMaySail", 165, "NoManMaySail$Crews", "seat", "[I"), ("NoManMaySail$Cape", 147, "NoManMaySail$Shelf", "cells", "[I"), ("NoManMaySail", 239, "NoManMaySail$Shelf", "cells", "[I"), ("NoManMaySail", 261, "NoManMaySail$Shelf", "held", "I"), ("NoManMaySail", 108, "NoManMaySail$Shelf", "kind", "I"), ("NoManMaySail", 110, "NoManMaySail$Shelf", "figure", "I"), ("NoManMaySail", 40, "NoManMaySail$Shelf", "sort", "I"), ("NoManMaySail", 52, "NoManMaySail$Shelf", "size", "I")]
def NM : List (String × Nat × MethodName) := [("NoManMaySail", 9, ⟨"NoManMaySail$Cape", "<init>", "()V"⟩), ("NoManMaySail$Cape", 11, ⟨"NoManMaySail$Sailor", "<init>", "()V"⟩), ("NoManMaySail$Cape", 14, ⟨"NoManMaySail$Bosun", "<init>", "()V"⟩), ("NoManMaySail$Bosun", 1, ⟨"NoManMaySail$Sailor", "<init>", "()V"⟩), ("NoManMaySail$Cape", 17, ⟨"NoManMaySail$Boy", "<init>", "()V"⟩), ("NoManMaySail$Boy", 1, ⟨"NoManMaySail$Sailor", "<init>", "()V"⟩), ("NoManMaySail$Cape", 20, ⟨"NoManMaySail$Ghost", "<init>", "()V"⟩), ("NoManMaySail$Ghost", 1, ⟨"NoManMaySail$Sailor", "<init>", "()V"⟩), ("NoManMaySail$Cape", 23, ⟨"NoManMaySail$Master", "<init>", "()V"⟩), ("NoManMaySail$Master", 1, ⟨"NoManMaySail$Bosun", "<init>", "()V"⟩), ("NoManMaySail$Cape", 26, ⟨"NoManMaySail$Brother", "<init>", "()V"⟩), ("NoManMaySail$Brother", 1, ⟨"NoManMaySail$Boy", "<init>", "()V"⟩), ("NoManMaySail$Cape", 29, ⟨"NoManMaySail$Stranger", "<init>", "()V"⟩), ("NoManMaySail$Stranger", 1, ⟨"NoManMaySail$Sailor", "<init>", "()V"⟩), ("NoManMaySail$Cape", 32, ⟨"NoManMaySail$Tiller", "<init>", "()V"⟩), ("NoManMaySail$Tiller", 1, ⟨"NoManMaySail$Ghost", "<init>", "()V"⟩), ("NoManMaySail", 24, ⟨"NoManMaySail$Crews", "<init>", "()V"⟩), ("NoManMaySail", 35, ⟨"NoManMaySail$Shelf", "<init>", "()V"⟩), ("NoManMaySail", 44, ⟨"NoManMaySail$Shelf", "brokenAt", "()I"⟩), ("NoManMaySail", 48, ⟨"NoManMaySail$Cape", "becomes", "(LNoManMaySail$Cape;)V"⟩), ("NoManMaySail", 55, ⟨"NoManMaySail$Cape", "obeys", "(LNoManMaySail$Shelf;I)Z"⟩), ("NoManMaySail$Cape", 142, ⟨"NoManMaySail$Shelf", "digit", "(I)I"⟩), ("NoManMaySail$Cape", 118, ⟨"NoManMaySail", "isKind", "(I)Z"⟩), ("NoManMaySail$Cape", 121, ⟨"NoManMaySail", "within", "(III)Z"⟩), ("NoManMaySail$Cape", 78, ⟨"NoManMaySail", "holds", "(II)Z"⟩), ("NoManMaySail$Cape", 127, ⟨"NoManMaySail", "isBoat", "(I)Z"⟩), ("NoManMaySail", 59, ⟨"NoManMaySail$Shelf", "lengthAt", "(I)I"⟩), ("NoManMaySail", 63, ⟨"NoManMaySail$Cape", "has", "(I)Z"⟩), ("NoManMaySail", 77, ⟨"NoManMaySail$Cape", "isLost", "(I)Z"⟩), ("NoManMaySail", 80, ⟨"NoManMaySail$Cape", "kindOf", "(I)LNoManMaySail$Sailor;"⟩), ("NoManMaySail", 101, ⟨"NoManMaySail$Cape", "hasTwo", "(II)Z"⟩), ("NoManMaySail", 112, ⟨"NoManMaySail$Cape", "adds", "(II)I"⟩), ("NoManMaySail", 115, ⟨"NoManMaySail$Cape", "notes", "(III)I"⟩), ("NoManMaySail", 119, ⟨"NoManMaySail$Cape", "moves", "(II)I"⟩), ("NoManMaySail", 122, ⟨"NoManMaySail$Cape", "rules", "(II)I"⟩), ("NoManMaySail", 125, ⟨"NoManMaySail$Cape", "passes", "(I)I"⟩), ("NoManMaySail", 131, ⟨"NoManMaySail$Cape", "agree", "(III)Z"⟩), ("NoManMaySail", 135, ⟨"NoManMaySail$Cape", "friends", "(I)I"⟩), ("NoManMaySail", 141, ⟨"NoManMaySail$Crews", "lookAt", "(LNoManMaySail$Cape;I)V"⟩), ("NoManMaySail$Crews", 31, ⟨"NoManMaySail$Cape", "living", "()I"⟩), ("NoManMaySail$Crews", 37, ⟨"NoManMaySail$Cape", "agree", "(III)Z"⟩), ("NoManMaySail", 145, ⟨"NoManMaySail$Cape", "crew", "(I)I"⟩), ("NoManMaySail", 148, ⟨"NoManMaySail$Crews", "isPeace", "(I)Z"⟩), ("NoManMaySail$Crews", 41, ⟨"NoManMaySail", "holds", "(II)Z"⟩), ("NoManMaySail", 154, ⟨"NoManMaySail$Crews", "greatest", "()I"⟩), ("NoManMaySail", 162, ⟨"NoManMaySail$Crews", "fewest", "()I"⟩), ("NoManMaySail", 171, ⟨"NoManMaySail$Crews", "canMan", "(III)Z"⟩), ("NoManMaySail", 174, ⟨"NoManMaySail$Crews", "mostSkilled", "(LNoManMaySail$Cape;I)I"⟩), ("NoManMaySail$Crews", 58, ⟨"NoManMaySail$Cape", "skillOf", "(I)I"⟩), ("NoManMaySail", 178, ⟨"NoManMaySail$Cape", "skillOf", "(I)I"⟩), ("NoManMaySail", 181, ⟨"NoManMaySail$Crews", "leastPaid", "(LNoManMaySail$Cape;I)I"⟩), ("NoManMaySail$Crews", 62, ⟨"NoManMaySail$Cape", "payOf", "(I)I"⟩), ("NoManMaySail", 184, ⟨"NoManMaySail$Cape", "payOf", "(I)I"⟩), ("NoManMaySail", 188, ⟨"NoManMaySail$Cape", "savedBy", "(I)I"⟩), ("NoManMaySail", 191, ⟨"NoManMaySail$Cape", "saversOf", "(I)I"⟩), ("NoManMaySail", 194, ⟨"NoManMaySail$Cape", "counts", "(III)Z"⟩), ("NoManMaySail", 200, ⟨"NoManMaySail$Cape", "sails", "(I)V"⟩), ("NoManMaySail", 204, ⟨"NoManMaySail$Cape", "lostOnes", "()I"⟩), ("NoManMaySail", 207, ⟨"NoManMaySail$Cape", "faller", "(II)I"⟩), ("NoManMaySail", 210, ⟨"NoManMaySail$Cape", "saver", "(II)I"⟩), ("NoManMaySail", 242, ⟨"NoManMaySail$Shelf", "isSkipped", "(I)Z"⟩), ("NoManMaySail", 236, ⟨"NoManMaySail$Cape", "living", "()I"⟩), ("NoManMaySail", 245, ⟨"NoManMaySail$Cape", "scatters", "(I)I"⟩), ("NoManMaySail", 248, ⟨"NoManMaySail$Cape", "aboard", "()I"⟩), ("NoManMaySail", 255, ⟨"NoManMaySail$Cape", "savings", "()I"⟩), ("NoManMaySail", 267, ⟨"NoManMaySail$Shelf", "getsRow", "(II)V"⟩), ("NoManMaySail", 271, ⟨"NoManMaySail$Shelf", "lowest", "(I)I"⟩), ("NoManMaySail", 288, ⟨"NoManMaySail$Shelf", "hasPlaces", "(II)Z"⟩)]
def OkN (U : State) : Prop := (∀ q ∈ NF, va_Nw (.fieldLinkNest q.1 q.2.1 q.2.2.1 q.2.2.2.1 q.2.2.2.2 "NoManMaySail") U) ∧ (∀ q ∈ NM, va_Nw (.methodLinkNest q.1 q.2.1 q.2.2 "NoManMaySail") U)
theorem okN_warm {s U : State} (hW : s.WarmedH U.vm) (h : OkN s) : OkN U := ⟨fun q hq => va_Nw.warmF hW (h.1 q hq), fun q hq => va_Nw.warmM hW (h.2 q hq)⟩
theorem okN_same {u U : State} (e : u.vm = U.vm) (h : OkN u) : OkN U := ⟨fun q hq => va_Nw.same rfl e (h.1 q hq), fun q hq => va_Nw.same rfl e (h.2 q hq)⟩
set_option maxRecDepth 100000 in
theorem nf_in : ∀ q ∈ NF, Cond.fieldLinkNest q.1 q.2.1 q.2.2.1 q.2.2.2.1 q.2.2.2.2 "NoManMaySail" ∈ lw_tbl := by decide +kernel
set_option maxRecDepth 100000 in
theorem nm_in : ∀ q ∈ NM, Cond.methodLinkNest q.1 q.2.1 q.2.2 "NoManMaySail" ∈ lw_tbl := by decide +kernel
theorem okN_of {A : Array Value} {U : State} (h : ∀ w ∈ lw_tbl, w.before A U = true) : OkN U := ⟨fun q hq => va_Nw.of rfl (h _ (nf_in q hq)), fun q hq => va_Nw.of rfl (h _ (nm_in q hq))⟩
/-! the world: all cells of both sides -/
abbrev Mem : Type := Nat → Nat → Int32
def mu (σ : Mem) (o k : Nat) (v : Int32) : Mem := fun a b => if a = o then (if b = k then v else σ a b) else σ a b
theorem mu_row (σ : Mem) (o k : Nat) (v : Int32) : mu σ o k v o = upd (σ o) k v := by
  funext b
  simp [mu, upd]
theorem mu_off {σ : Mem} {o k q : Nat} {v : Int32} (h : q ≠ o) : mu σ o k v q = σ q := by
  funext b
  simp [mu, h]
/-- n elements of row a from i on come to row b from j on -/
def mcp (σ : Mem) (a b i j n : Nat) : Mem := fun x y => if x = b then va_cpy (σ a) (σ b) i j n y else σ x y
theorem mcp_row (σ : Mem) (a b i j n : Nat) : mcp σ a b i j n b = va_cpy (σ a) (σ b) i j n := by
  funext y
  simp [mcp]
theorem mcp_off {σ : Mem} {a b i j n q : Nat} (h : q ≠ b) : mcp σ a b i j n q = σ q := by
  funext y
  simp [mcp, h]
abbrev Gl : Type := (Nat → ClassId) × (Nat → Nat → Nat) × (Nat → ClassId) × (Nat → Nat) × (Nat → Prop)
def gD (G : Gl) : va_G := (G.1, G.2.1)
def gy (G : Gl) : Nat → ClassId := G.2.2.1
def ga (G : Gl) : Nat → Nat := G.2.2.2.1
def gA (G : Gl) : Nat → Prop := G.2.2.2.2
def alen (o : Nat) : Nat := if o < 22 then 100 else if o < 34 then 8 else if o < 37 then 64 else if o < 41 then 8 else if o < 70 then 100 else if o = 71 then 8 else if o < 73 then 3 else if o < 78 then 8 else 800
def kcl (k : Nat) : Nat := if k = 0 then 7 else if k = 1 then 0 else if k = 2 then 1 else if k = 3 then 5 else if k = 4 then 6 else if k = 5 then 2 else if k = 6 then 9 else 10
def ia (G : Gl) (o : Nat) (f : Nat → Int32) : va_E := .inl (gy G 0, alen o, .inl f)
def enr (G : Gl) (o : Nat) (f : Nat → Int32) : va_E :=
  if o = 0 then .inr (11, [.ref (ga G 1), .ref (ga G 2), .ref (ga G 3), .ref (ga G 4), .ref (ga G 5), .int (f 5)])
  else if o < 4 then .inr (3, [.ref (ga G (21 + o)), .ref (ga G (24 + o)), .ref (ga G (27 + o)), .ref (ga G (30 + o)), .ref (ga G (33 + o)), .int (f 5), .int (f 6), .int (f 7), .int (f 8), .int (f 9)])
  else if o = 4 then .inr (4, [.ref (ga G 37), .ref (ga G 38), .ref (ga G 39), .ref (ga G 40), .int (f 4), .int (f 5), .int (f 6), .int (f 7), .int (f 8)])
  else if o = 5 then .inl (gy G 2, 8, .inr (.inr (.inr (.inr (fun j => some (ga G (6 + j)))))))
  else if o < 14 then .inr (8, [.ref (ga G (8 + o)), .int (f 1), .int (f 2), .int (f 3), .int (f 4), .int (f 5)])
  else if o < 22 then ia G o f
  else if o < 25 then .inl (gy G 1, 8, .inr (.inr (.inr (.inr (fun j => some (ga G (33 + 8 * (o - 21) + j)))))))
  else if o < 41 then ia G o f
  else if o < 65 then .inr (kcl ((o - 41) % 8), [])
  else if o = 65 then .inr (12, [.ref (ga G 66), .ref (ga G 67), .ref (ga G 68), .ref (ga G 69), .int (f 4), .int (f 5), .int (f 6), .int (f 7), .ref (ga G 70), .ref (ga G 71), .ref (ga G 72), .int (f 11), .ref (ga G 73), .ref (ga G 74), .ref (ga G 75), .ref (ga G 76), .ref (ga G 77), .ref (ga G 78), .int (f 18)])
  else ia G o f
def wl (G : Gl) (σ : Mem) : va_W := (List.range 79).map (fun o => (ga G o, enr G o (σ o)))
theorem wl_get (G : Gl) (σ : Mem) {o : Nat} (h : o < 79) : (wl G σ)[o]? = some (ga G o, enr G o (σ o)) := by
  simp [wl, h]
theorem wl_len (G : Gl) (σ : Mem) : (wl G σ).length = 79 := by simp [wl]
theorem wl_set (G : Gl) {σ σ' : Mem} {o : Nat} {e : va_E} (h : o < 79) (he : enr G o (σ' o) = e) (ho : ∀ q, q ≠ o → σ' q = σ q) : (wl G σ).set o (ga G o, e) = wl G σ' := by
  apply List.ext_getElem?
  intro i
  by_cases hi : i < 79
  · rw [wl_get G σ' hi]
    by_cases hio : i = o
    · subst hio
      rw [List.getElem?_set_self (by rw [wl_len]; exact h), he]
    · rw [List.getElem?_set_ne (Ne.symm hio), wl_get G σ hi, ho i hio]
  · rw [List.getElem?_eq_none (by rw [List.length_set, wl_len]; omega), List.getElem?_eq_none (by rw [wl_len]; omega)]
def Rep (G : Gl) (σ : Mem) (H : Heap) : Prop := va_P (gD G) vwCl (wl G σ) H
def wty (G : Gl) : List (ClassId × FieldType) := [(gy G 0, .int), (gy G 1, .object "NoManMaySail$Sailor"), (gy G 2, .object "NoManMaySail$Shelf")]
/-- the tables, the addresses -/
def OkW (G : Gl) (U : State) : Prop := va_K (gD G) vwCl (wty G) U ∧ (∀ i j, i < 79 → j < 79 → ga G i = ga G j → i = j) ∧ (∀ i, i < 79 → gA G (ga G i)) ∧ OkN U
theorem okW_warm {G : Gl} {s U : State} (hW : s.WarmedH U.vm) (h : OkW G s) : OkW G U := ⟨va_K.moved hW.alike h.1, h.2.1, h.2.2.1, okN_warm hW h.2.2.2⟩
theorem okW_same {G : Gl} {u U : State} (e : u.vm = U.vm) (h : OkW G u) : OkW G U := ⟨va_K.moved (by rw [e]; exact Vm.Alike.refl _) h.1, h.2.1, h.2.2.1, okN_same e h.2.2.2⟩
theorem okW_D {G : Gl} {U : State} (h : OkW G U) (σ : Mem) : va_D (gA G) (wl G σ) := by
  have key : ∀ (i : Nat) (p : Nat × va_E), (wl G σ)[i]? = some p → i < 79 ∧ p.1 = ga G i := by
    intro i p hp
    have hi : i < 79 := by
      have := (List.getElem?_eq_some_iff.mp hp).1
      rwa [wl_len] at this
    rw [wl_get G σ hi] at hp
    cases hp
    exact ⟨hi, rfl⟩
  refine ⟨fun i j p q hi hj e => ?_, fun i p hi => ?_⟩
  · obtain ⟨h1, e1⟩ := key i p hi
    obtain ⟨h2, e2⟩ := key j q hj
    exact h.2.1 i j h1 h2 (by rw [← e1, ← e2, e])
  · obtain ⟨h1, e1⟩ := key i p hi
    rw [e1]
    exact h.2.2.1 i h1
/-! a method's contract: from memory σ it answers rv and leaves memory σ1 -/
def rm (lv : Nat) : Room := { frames := lv, cells := 0, slots := 0, locals := 48 * lv }
def PreX (G : Gl) (σ : Mem) (As : List Value) : Array Value → State → Prop := va_Pc As (fun U => OkW G U ∧ Rep G σ U.heap ∧ ∀ q, U.heap.size ≤ q → gA G q)
def Qm (G : Gl) (rv : Option Value) (σ1 : Mem) : Array Value → State → Outcome → State → Prop := fun _ st oc t => oc = .returned rv ∧ Rep G σ1 t.heap ∧ va_F (gA G) st t
def MetX (G : Gl) (y : MethodName) (yc : ByteArray) (maxL : Nat) (ret : Option FieldType) (lv : Nat) (As : List Value) (σ : Mem) (rv : Option Value) (σ1 : Mem) : Prop :=
  ∀ l : Launch, Met l y (.code y yc maxL ret :: TT) (rm lv) (PreX G σ As) (Qm G rv σ1) 0 0 (gA G)
theorem preX_blind {G : Gl} {σ : Mem} {As : List Value} : FrameBlind (PreX G σ As) := fun a U g mk q => ⟨q.1, okW_same rfl q.2.1, q.2.2⟩
/-- where a walk goes on to: nothing: a method of this page; else room, cells, slots and end of another one -/
abbrev Ex : Type := Option (Room × Nat × Nat × (State → Prop))
abbrev Cx : Type := Program × Launch × Env × State × MethodId × Array Value × List Frame × Method × Code × Ex
def xR (lv : Nat) : Ex → Room
  | none => rm lv
  | some q => q.1
def xc : Ex → Nat
  | none => 0
  | some q => q.2.1
def xd : Ex → Nat
  | none => 0
  | some q => q.2.2.1
def xQ (Q0 : State → Prop) : Ex → State → Prop
  | none => Q0
  | some q => q.2.2.2
/-- what stays true all through a method -/
def Ok (G : Gl) (lv nL : Nat) (X : Cx) (cc : ByteArray) (own : String) (ret : Option FieldType) : Prop := match X with
  | (p, _, _, s, m, args, _, meth, c, ex) => p.tables.exec = Jvm.exec ∧ c.code = cc ∧ c.maxLocals = nL ∧ s.vm.findClass own = some m.cls ∧ (∀ w ∈ TT, w.before args s = true) ∧ OkW G s ∧ meth.locks = false ∧ (∀ q, s.heap.size ≤ q → gA G q) ∧ ((ex = none ∧ meth.sig.returnType = ret) ∨ ret = some .float) ∧ lv ≤ (xR lv ex).frames ∧ 48 * lv ≤ (xR lv ex).locals ∧ xc ex ≤ (xR lv ex).cells ∧ xd ex ≤ (xR lv ex).slots
/-- from here on the method comes to its end, with that answer and that memory -/
def V (G : Gl) (lv nL : Nat) (X : Cx) (ro : Option Value × Mem) (σ : Mem) (ls : List (Nat × Value)) (st : List Value) (pc : Nat) : Prop := match X with
  | (p, l, e, s, m, args, below, meth, c, ex) => ∀ (H : Heap) (locs : List Loc) (la : Array Slot), Rep G σ H → va_S (gA G) s.heap H locs → lv_has la nL ls → W p l e (xR lv ex) s m args below meth c H locs (xc ex) (xd ex) (xQ (MQ below (Qm G ro.1 ro.2) args s 0 0 (gA G)) ex) (F0 m pc la st)
theorem met_V {G : Gl} {y : MethodName} {yc : ByteArray} {maxL : Nat} {ret : Option FieldType} {lv : Nat} {As : List Value} {σ : Mem} {rv : Option Value} {σ1 : Mem} (hy : plainName y.cls = true) (hn : (lg_sl As).length ≤ maxL)
    (h : ∀ X : Cx, Ok G lv maxL X yc y.cls ret → V G lv maxL X (rv, σ1) σ (lv_args 0 As) [] 0) : MetX G y yc maxL ret lv As σ rv σ1 := by
  intro l
  refine Met.ofW (cc := yc) (maxL := maxL) (ret := ret) hy rfl ?_
  intro p e s m args below meth c s₁ B hml hv
  obtain ⟨rfl, hO, hR, hA⟩ := hv
  have hts := atoms_spec (ws := .code y yc maxL ret :: TT) B.pre
  have hC : Ok G lv maxL (p, l, e, s, m, As.toArray, below, meth, c, none) yc y.cls ret := ⟨B.exec, B.bytes, hml, findClass_of_methodNamed B.named, fun w hw => hts w (List.mem_cons_of_mem _ hw), hO, B.notSynchronized, hA, Or.inl ⟨rfl, B.returns⟩, Nat.le_refl _, Nat.le_refl _, Nat.le_refl _, Nat.le_refl _⟩
  have hl := lv_entry As hn
  rw [lg_entry_eq]
  exact h _ hC s.heap [] _ hR va_S.rf hl
