/-! straight stretches: what they make of the locals and the operand stack is computed -/
theorem has_mono {la : Array Slot} {n : Nat} {l l' : List (Nat × Value)} (h : lv_has la n l) (hs : ∀ q ∈ l', q ∈ l) : lv_has la n l' := ⟨h.1, h.2.1, fun q hq => h.2.2 q (hs q hq)⟩
def lk : List (Nat × Value) → Nat → Option Value
  | [], _ => none
  | (j, v) :: r, i => match Nat.beq j i with
    | true => some v
    | false => lk r i
theorem lk_mem {l : List (Nat × Value)} {i : Nat} {v : Value} (h : lk l i = some v) : (i, v) ∈ l := by
  induction l with
  | nil => cases h
  | cons q r ih =>
    obtain ⟨j, w⟩ := q
    simp only [lk] at h
    split at h
    · rename_i hb
      cases h
      rw [← Nat.eq_of_beq_eq_true hb]
      exact List.mem_cons_self
    · exact List.mem_cons_of_mem _ (ih h)
/-- the list without what a store of one slot at i takes away -/
def dr (i : Nat) : List (Nat × Value) → List (Nat × Value)
  | [] => []
  | (j, v) :: r => match Nat.beq j i || (Nat.beq (j + 1) i && Nat.beq v.category 2) with
    | true => dr i r
    | false => (j, v) :: dr i r
theorem dr_mem {i : Nat} {l : List (Nat × Value)} {q : Nat × Value} (h : q ∈ dr i l) : q ∈ l.filter (fun q => !(q.1 == i) && !(q.1 + 1 == i && q.2.category == 2)) := by
  induction l with
  | nil => cases h
  | cons a r ih =>
    obtain ⟨j, w⟩ := a
    simp only [dr] at h
    split at h
    · have h1 := ih h
      rw [List.filter_cons]
      split
      · exact List.mem_cons_of_mem _ h1
      · exact h1
    · rename_i hb
      simp only [Bool.or_eq_false_iff, Bool.and_eq_false_iff] at hb
      rw [List.filter_cons, if_pos]
      · rcases List.mem_cons.mp h with rfl | h
        · exact List.mem_cons_self
        · exact List.mem_cons_of_mem _ (ih h)
      · have e1 : ∀ a b : Nat, (a == b) = Nat.beq a b := fun a b => by
          cases hq : Nat.beq a b
          · exact beq_eq_false_iff_ne.mpr (Nat.ne_of_beq_eq_false hq)
          · exact beq_iff_eq.mpr (Nat.eq_of_beq_eq_true hq)
        simp only [e1, hb.1, Bool.not_false, Bool.true_and, Bool.not_eq_true', Bool.and_eq_false_iff]
        exact hb.2
/-- .. of two slots -/
def dr2 (i : Nat) : List (Nat × Value) → List (Nat × Value)
  | [] => []
  | (j, v) :: r => match Nat.beq j i || (Nat.beq j (i + 1) || (Nat.beq (j + 1) i && Nat.beq v.category 2)) with
    | true => dr2 i r
    | false => (j, v) :: dr2 i r
theorem dr2_mem {i : Nat} {l : List (Nat × Value)} {q : Nat × Value} (h : q ∈ dr2 i l) : q ∈ l.filter (fun q => !(q.1 == i) && (!(q.1 == i + 1) && !(q.1 + 1 == i && q.2.category == 2))) := by
  induction l with
  | nil => cases h
  | cons a r ih =>
    obtain ⟨j, w⟩ := a
    simp only [dr2] at h
    split at h
    · have h1 := ih h
      rw [List.filter_cons]
      split
      · exact List.mem_cons_of_mem _ h1
      · exact h1
    · rename_i hb
      simp only [Bool.or_eq_false_iff, Bool.and_eq_false_iff] at hb
      rw [List.filter_cons, if_pos]
      · rcases List.mem_cons.mp h with rfl | h
        · exact List.mem_cons_self
        · exact List.mem_cons_of_mem _ (ih h)
      · have e1 : ∀ a b : Nat, (a == b) = Nat.beq a b := fun a b => by
          cases hq : Nat.beq a b
          · exact beq_eq_false_iff_ne.mpr (Nat.ne_of_beq_eq_false hq)
          · exact beq_iff_eq.mpr (Nat.eq_of_beq_eq_true hq)
        simp only [e1, hb.1, hb.2.1, Bool.not_false, Bool.true_and, Bool.not_eq_true', Bool.and_eq_false_iff]
        exact hb.2.2
def ln : Instr → Nat
  | .iload _ => 2
  | .lload _ => 2
  | .aload _ => 2
  | .istore _ => 2
  | .lstore _ => 2
  | .astore _ => 2
  | .bipush _ => 2
  | .sipush _ => 3
  | .iinc _ _ => 3
  | _ => 1
def cst (i : Instr) (k : Int32) : Bool := match i with
  | .iconst n => decide (Int32.ofInt n = k)
  | .bipush n => decide ((Int8.ofInt n).toInt32 = k)
  | .sipush n => decide ((Int16.ofInt n).toInt32 = k)
  | .iinc _ n => decide (Int32.ofInt n = k)
  | _ => true
def lcst (n : Fin 2) : Int64 := match n with
  | 0 => 0
  | 1 => 1
def x1 (nL : Nat) (i : Instr) (k : Int32) (ls : List (Nat × Value)) (st : List Value) : Option (List (Nat × Value) × List Value) := match i with
  | .iconst _ => some (ls, .int k :: st)
  | .bipush _ => some (ls, .int k :: st)
  | .sipush _ => some (ls, .int k :: st)
  | .lconst n => some (ls, .long (lcst n) :: st)
  | .iload j => (match lk ls j with
    | some (.int x) => some (ls, .int x :: st)
    | _ => none)
  | .iload_n j => (match lk ls j.val with
    | some (.int x) => some (ls, .int x :: st)
    | _ => none)
  | .lload j => (match lk ls j with
    | some (.long x) => some (ls, .long x :: st)
    | _ => none)
  | .lload_n j => (match lk ls j.val with
    | some (.long x) => some (ls, .long x :: st)
    | _ => none)
  | .aload j => (match lk ls j with
    | some (.ref x) => some (ls, .ref x :: st)
    | _ => none)
  | .aload_n j => (match lk ls j.val with
    | some (.ref x) => some (ls, .ref x :: st)
    | _ => none)
  | .istore j => (match st with
    | .int x :: r => (match Nat.blt j nL with
      | true => some ((j, .int x) :: dr j ls, r)
      | false => none)
    | _ => none)
  | .istore_n j => (match st with
    | .int x :: r => (match Nat.blt j.val nL with
      | true => some ((j.val, .int x) :: dr j.val ls, r)
      | false => none)
    | _ => none)
  | .lstore j => (match st with
    | .long x :: r => (match Nat.blt (j + 1) nL with
      | true => some ((j, .long x) :: dr2 j ls, r)
      | false => none)
    | _ => none)
  | .lstore_n j => (match st with
    | .long x :: r => (match Nat.blt (j.val + 1) nL with
      | true => some ((j.val, .long x) :: dr2 j.val ls, r)
      | false => none)
    | _ => none)
  | .astore j => (match st with
    | .ref x :: r => (match Nat.blt j nL with
      | true => some ((j, .ref x) :: dr j ls, r)
      | false => none)
    | _ => none)
  | .astore_n j => (match st with
    | .ref x :: r => (match Nat.blt j.val nL with
      | true => some ((j.val, .ref x) :: dr j.val ls, r)
      | false => none)
    | _ => none)
  | .iinc j _ => (match lk ls j with
    | some (.int x) => (match Nat.blt j nL with
      | true => some ((j, .int (x + k)) :: dr j ls, st)
      | false => none)
    | _ => none)
  | .iadd => (match st with
    | .int y :: .int x :: r => some (ls, .int (x + y) :: r)
    | _ => none)
  | .isub => (match st with
    | .int y :: .int x :: r => some (ls, .int (x - y) :: r)
    | _ => none)
  | .imul => (match st with
    | .int y :: .int x :: r => some (ls, .int (x * y) :: r)
    | _ => none)
  | .iand => (match st with
    | .int y :: .int x :: r => some (ls, .int (x &&& y) :: r)
    | _ => none)
  | .ior => (match st with
    | .int y :: .int x :: r => some (ls, .int (x ||| y) :: r)
    | _ => none)
  | .ixor => (match st with
    | .int y :: .int x :: r => some (ls, .int (x ^^^ y) :: r)
    | _ => none)
  | .ishl => (match st with
    | .int y :: .int x :: r => some (ls, .int (x <<< (y &&& 31)) :: r)
    | _ => none)
  | .ishr => (match st with
    | .int y :: .int x :: r => some (ls, .int (x >>> (y &&& 31)) :: r)
    | _ => none)
  | .iushr => (match st with
    | .int y :: .int x :: r => some (ls, .int (x.toUInt32 >>> (y.toUInt32 &&& Int32.toUInt32 31)).toInt32 :: r)
    | _ => none)
  | .i2l => (match st with
    | .int x :: r => some (ls, .long x.toInt64 :: r)
    | _ => none)
  | .i2b => (match st with
    | .int x :: r => some (ls, .int x.toInt8.toInt32 :: r)
    | _ => none)
  | .i2s => (match st with
    | .int x :: r => some (ls, .int x.toInt16.toInt32 :: r)
    | _ => none)
  | .ladd => (match st with
    | .long y :: .long x :: r => some (ls, .long (x + y) :: r)
    | _ => none)
  | .lmul => (match st with
    | .long y :: .long x :: r => some (ls, .long (x * y) :: r)
    | _ => none)
  | .lcmp => (match st with
    | .long y :: .long x :: r => some (ls, .int (lg_cmp x y) :: r)
    | _ => none)
  | .dup => (match st with
    | v :: r => (match Nat.beq v.category 1 with
      | true => some (ls, v :: v :: r)
      | false => none)
    | _ => none)
  | .pop => (match st with
    | v :: r => (match Nat.beq v.category 1 with
      | true => some (ls, r)
      | false => none)
    | _ => none)
  | .dup_x1 => (match st with
    | v :: w :: r => (match Nat.beq v.category 1 && Nat.beq w.category 1 with
      | true => some (ls, v :: w :: v :: r)
      | false => none)
    | _ => none)
  | .dup2 => (match st with
    | v :: w :: r => (match Nat.beq v.category 1 && Nat.beq w.category 1 with
      | true => some (ls, v :: w :: v :: w :: r)
      | false => none)
    | _ => none)
  | _ => none
theorem none_some {α : Type} {a : α} {P : Prop} (h : none = some a) : P := by cases h
section ROWS
variable {G : Gl} {lv nL : Nat} {X : Cx} {ro : Option Value × Mem} {σ : Mem} {ls : List (Nat × Value)} {st : List Value} {pc : Nat} {cc : ByteArray} {own : String} {ret : Option FieldType}
theorem blt_lt {a b : Nat} (h : Nat.blt a b = true) : a < b := Nat.le_of_ble_eq_true h
theorem V.subset {ls' : List (Nat × Value)} (hs : ∀ q ∈ ls', q ∈ ls) (k : V G lv nL X ro σ ls' st pc) : V G lv nL X ro σ ls st pc := by
  obtain ⟨p, l, e, s, m, args, below, meth, c, ex⟩ := X
  intro H locs la hR hS hl
  exact k H locs la hR hS (has_mono hl hs)
theorem v_sub {ls' : List (Nat × Value)} (ks : List Nat) (hl : lv_pick ls ks = ls') (k : V G lv nL X ro σ ls' st pc) : V G lv nL X ro σ ls st pc := by
  refine V.subset (fun q hq => ?_) k
  rw [← hl] at hq
  obtain ⟨k, -, hk⟩ := List.mem_filterMap.mp hq
  exact List.mem_of_getElem? hk
theorem x1_W {p : Program} {l : Launch} {e : Env} {R : Room} {s : State} {m : MethodId} {args : Array Value} {below : List Frame} {meth : Method} {c : Code} {H : Heap} {locs : List Loc} {cells slots : Nat} {Q : State → Prop} {la : Array Slot} (hx : p.tables.exec = Jvm.exec) (hb : c.code = cc) (hl : lv_has la nL ls) {i : Instr} {k : Int32} {ls' : List (Nat × Value)} {st' : List Value} (hd : decode cc pc = .ok (i, ln i)) (hk : cst i k = true) (h : x1 nL i k ls st = some (ls', st')) (kk : ∀ la', lv_has la' nL ls' → W p l e R s m args below meth c H locs cells slots Q (F0 m (pc + ln i) la' st')) : W p l e R s m args below meth c H locs cells slots Q (F0 m pc la st) := by
  have at' : ∀ {j : Nat} {v : Value}, lk ls j = some v → la[j]? = some (.val v) := fun h => hl.2.2 (_, _) (lk_mem h)
  have mono1 : ∀ {j : Nat} {v : Value} {la' : Array Slot}, lv_has la' nL ((j, v) :: ls.filter (fun q => !(q.1 == j) && !(q.1 + 1 == j && q.2.category == 2))) → lv_has la' nL ((j, v) :: dr j ls) := fun h => has_mono h (fun q hq => (List.mem_cons.mp hq).elim (fun e => List.mem_cons.mpr (Or.inl e)) (fun e => List.mem_cons.mpr (Or.inr (dr_mem e))))
  have mono2 : ∀ {j : Nat} {v : Value} {la' : Array Slot}, lv_has la' nL ((j, v) :: ls.filter (fun q => !(q.1 == j) && (!(q.1 == j + 1) && !(q.1 + 1 == j && q.2.category == 2)))) → lv_has la' nL ((j, v) :: dr2 j ls) := fun h => has_mono h (fun q hq => (List.mem_cons.mp hq).elim (fun e => List.mem_cons.mpr (Or.inl e)) (fun e => List.mem_cons.mpr (Or.inr (dr2_mem e))))
  cases i
  case iconst n =>
    cases h
    exact lv_iconst hx hb hd (of_decide_eq_true hk) (kk la hl)
  case bipush n =>
    cases h
    exact lv_bipush hx hb hd (of_decide_eq_true hk) (kk la hl)
  case sipush n =>
    cases h
    exact lv_sipush hx hb hd (of_decide_eq_true hk) (kk la hl)
  case lconst n =>
    cases h
    refine lv_lconst hx hb hd ?_ (kk la hl)
    match n with
    | 0 => rfl
    | 1 => rfl
  case iload j =>
    simp only [x1] at h
    split at h <;> cases h
    rename_i hj
    exact lv_iload hx hb hd (at' hj) (kk la hl)
  case iload_n j =>
    simp only [x1] at h
    split at h <;> cases h
    rename_i hj
    exact lv_iload_n hx hb hd rfl (at' hj) (kk la hl)
  case lload j =>
    simp only [x1] at h
    split at h <;> cases h
    rename_i hj
    exact lv_lload hx hb hd (at' hj) (kk la hl)
  case lload_n j =>
    simp only [x1] at h
    split at h <;> cases h
    rename_i hj
    exact lv_lload_n hx hb hd rfl (at' hj) (kk la hl)
  case aload j =>
    simp only [x1] at h
    split at h <;> cases h
    rename_i hj
    exact lv_aload hx hb hd (at' hj) (kk la hl)
  case aload_n j =>
    simp only [x1] at h
    split at h <;> cases h
    rename_i hj
    exact lv_aload_n hx hb hd rfl (at' hj) (kk la hl)
  case istore j =>
    simp only [x1] at h
    split at h
    · split at h <;> cases h
      rename_i hj
      exact lv_istore hx hb hd hl (blt_lt hj) rfl (fun la' hl' => kk la' (mono1 hl'))
    · cases h
  case istore_n j =>
    simp only [x1] at h
    split at h
    · split at h <;> cases h
      rename_i hj
      exact lv_istore_n hx hb hd rfl hl (blt_lt hj) rfl (fun la' hl' => kk la' (mono1 hl'))
    · cases h
  case lstore j =>
    simp only [x1] at h
    split at h
    · split at h <;> cases h
      rename_i hj
      exact lv_lstore hx hb hd hl (blt_lt hj) rfl (fun la' hl' => kk la' (mono2 hl'))
    · cases h
  case lstore_n j =>
    simp only [x1] at h
    split at h
    · split at h <;> cases h
      rename_i hj
      exact lv_lstore_n hx hb hd rfl hl (blt_lt hj) rfl (fun la' hl' => kk la' (mono2 hl'))
    · cases h
  case astore j =>
    simp only [x1] at h
    split at h
    · split at h <;> cases h
      rename_i hj
      exact lv_astore hx hb hd hl (blt_lt hj) rfl (fun la' hl' => kk la' (mono1 hl'))
    · cases h
  case astore_n j =>
    simp only [x1] at h
    split at h
    · split at h <;> cases h
      rename_i hj
      exact lv_astore_n hx hb hd rfl hl (blt_lt hj) rfl (fun la' hl' => kk la' (mono1 hl'))
    · cases h
  case iinc j n =>
    simp only [x1] at h
    split at h
    · rename_i hj
      split at h <;> cases h
      rename_i hj2
      obtain ⟨kp, hkp⟩ := List.getElem?_of_mem (lk_mem hj)
      exact lv_iinc hx hb hd hl hkp (by rw [of_decide_eq_true hk]) (blt_lt hj2) rfl (fun la' hl' => kk la' (mono1 hl'))
    · cases h
  case iadd =>
    simp only [x1] at h
    split at h <;> cases h
    exact lv_iadd hx hb hd (kk la hl)
  case isub =>
    simp only [x1] at h
    split at h <;> cases h
    exact lv_isub hx hb hd (kk la hl)
  case imul =>
    simp only [x1] at h
    split at h <;> cases h
    exact lv_imul hx hb hd (kk la hl)
  case iand =>
    simp only [x1] at h
    split at h <;> cases h
    exact lv_iand hx hb hd (kk la hl)
  case ior =>
    simp only [x1] at h
    split at h <;> cases h
    exact lv_ior hx hb hd (kk la hl)
  case ixor =>
    simp only [x1] at h
    split at h <;> cases h
    exact lv_ixor hx hb hd (kk la hl)
  case ishl =>
    simp only [x1] at h
    split at h <;> cases h
    exact lv_ishl hx hb hd (kk la hl)
  case ishr =>
    simp only [x1] at h
    split at h <;> cases h
    exact lv_ishr hx hb hd (kk la hl)
  case iushr =>
    simp only [x1] at h
    split at h <;> cases h
    exact lv_iushr hx hb hd rfl (kk la hl)
  case i2l =>
    simp only [x1] at h
    split at h <;> cases h
    exact lv_i2l hx hb hd rfl (kk la hl)
  case i2b =>
    simp only [x1] at h
    split at h <;> cases h
    exact lv_i2b hx hb hd rfl (kk la hl)
  case i2s =>
    simp only [x1] at h
    split at h <;> cases h
    exact lv_i2s hx hb hd rfl (kk la hl)
  case ladd =>
    simp only [x1] at h
    split at h <;> cases h
    exact lv_ladd hx hb hd (kk la hl)
  case lmul =>
    simp only [x1] at h
    split at h <;> cases h
    exact lv_lmul hx hb hd (kk la hl)
  case lcmp =>
    simp only [x1] at h
    split at h <;> cases h
    exact W.lcmp hx hb hd (kk la hl)
  case dup =>
    simp only [x1] at h
    split at h
    · split at h <;> cases h
      rename_i hv
      exact lv_dup hx hb hd (Nat.eq_of_beq_eq_true hv) (kk la hl)
    · cases h
  case pop =>
    simp only [x1] at h
    split at h
    · split at h <;> cases h
      rename_i hv
      exact lv_pop hx hb hd (Nat.eq_of_beq_eq_true hv) (kk la hl)
    · cases h
  case dup_x1 =>
    simp only [x1] at h
    split at h
    · split at h <;> cases h
      rename_i hv
      rw [Bool.and_eq_true] at hv
      exact lv_dup_x1 hx hb hd (Nat.eq_of_beq_eq_true hv.1) (Nat.eq_of_beq_eq_true hv.2) (kk la hl)
    · cases h
  case dup2 =>
    simp only [x1] at h
    split at h
    · split at h <;> cases h
      rename_i hv
      rw [Bool.and_eq_true] at hv
      exact lv_dup2_11 hx hb hd (Nat.eq_of_beq_eq_true hv.1) (Nat.eq_of_beq_eq_true hv.2) (kk la hl)
    · cases h
  all_goals exact none_some h
theorem x1_ok (hC : Ok G lv nL X cc own ret) {i : Instr} {k : Int32} {ls' : List (Nat × Value)} {st' : List Value} (hd : decode cc pc = .ok (i, ln i)) (hk : cst i k = true) (h : x1 nL i k ls st = some (ls', st')) (kk : V G lv nL X ro σ ls' st' (pc + ln i)) : V G lv nL X ro σ ls st pc := by
  obtain ⟨p, l, e, s, m, args, below, meth, c, ex⟩ := X
  obtain ⟨hx, hb, -⟩ := hC
  intro H locs la hR hS hl
  exact x1_W hx hb hl hd hk h (fun la' hl' => kk H locs la' hR hS hl')
def chk (cc : ByteArray) : Nat → List (Instr × Int32) → Nat → Bool
  | pc, [], e => Nat.beq pc e
  | pc, (i, k) :: r, e => decide (decode cc pc = .ok (i, ln i)) && (cst i k && chk cc (pc + ln i) r e)
def xs (nL : Nat) : List (Instr × Int32) → List (Nat × Value) → List Value → Option (List (Nat × Value) × List Value)
  | [], ls, st => some (ls, st)
  | (i, k) :: r, ls, st => match x1 nL i k ls st with
    | some (ls1, st1) => xs nL r ls1 st1
    | none => none
theorem w_blk {p : Program} {l : Launch} {e : Env} {R : Room} {s : State} {m : MethodId} {args : Array Value} {below : List Frame} {meth : Method} {c : Code} {H : Heap} {locs : List Loc} {cells slots : Nat} {Q : State → Prop} {la : Array Slot} (hx : p.tables.exec = Jvm.exec) (hb : c.code = cc) (hl : lv_has la nL ls) {is : List (Instr × Int32)} {pc' : Nat} {ls' : List (Nat × Value)} {st' : List Value} (hk : chk cc pc is pc' = true) (h : xs nL is ls st = some (ls', st')) (kk : ∀ la', lv_has la' nL ls' → W p l e R s m args below meth c H locs cells slots Q (F0 m pc' la' st')) : W p l e R s m args below meth c H locs cells slots Q (F0 m pc la st) := by
  induction is generalizing pc ls st la with
  | nil =>
    cases h
    rw [Nat.eq_of_beq_eq_true hk]
    exact kk la hl
  | cons q r ih =>
    obtain ⟨i, k⟩ := q
    simp only [chk, Bool.and_eq_true] at hk
    simp only [xs] at h
    split at h
    · rename_i ls1 st1 h1
      exact x1_W hx hb hl (of_decide_eq_true hk.1) hk.2.1 h1 (fun la' hl' => ih hl' hk.2.2 h)
    · cases h
theorem v_blk (hC : Ok G lv nL X cc own ret) {is : List (Instr × Int32)} {pc' : Nat} {ls' : List (Nat × Value)} {st' : List Value} (hk : chk cc pc is pc' = true) (h : xs nL is ls st = some (ls', st')) (kk : V G lv nL X ro σ ls' st' pc') : V G lv nL X ro σ ls st pc := by
  induction is generalizing pc ls st with
  | nil =>
    cases h
    rw [Nat.eq_of_beq_eq_true hk]
    exact kk
  | cons q r ih =>
    obtain ⟨i, k⟩ := q
    simp only [chk, Bool.and_eq_true] at hk
    simp only [xs] at h
    split at h
    · rename_i ls1 st1 h1
      exact x1_ok hC (of_decide_eq_true hk.1) hk.2.1 h1 (ih hk.2.2 h)
    · cases h
end ROWS
