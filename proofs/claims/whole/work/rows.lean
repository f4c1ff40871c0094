section
/-! PM: a plain machine. A cell: (kind, length, ints), (length, longs), (length, references), (kind number, fields). A reference .ref i is cell i (i below 1000), or a thing given (from 1000000 on). -/
abbrev pm_C : Type := (Nat × Nat × (Nat → Int32)) ⊕ ((Nat × (Nat → Int64)) ⊕ (List (Option Nat) ⊕ (Nat × List Value)))
abbrev pm_H : Type := Nat → pm_C
/-- heap, next number, cells made, slots made -/
abbrev pm_Z : Type := pm_H × Nat × Nat × Nat
abbrev pm_O : Type := Option Value ⊕ String
/-- pc, variables, stack -/
abbrev pm_T : Type := Nat × List (Option Value) × List Value
abbrev pm_F : Type := Nat → List Value → pm_Z → Option (pm_O × pm_Z)
def pm_i1 {α : Type} (st : List Value) (k : Int32 → List Value → Option α) : Option α := match st with
  | .int x :: r => k x r
  | _ => none
def pm_i2 {α : Type} (st : List Value) (k : Int32 → Int32 → List Value → Option α) : Option α := match st with
  | .int y :: .int x :: r => k x y r
  | _ => none
def pm_l1 {α : Type} (st : List Value) (k : Int64 → List Value → Option α) : Option α := match st with
  | .long x :: r => k x r
  | _ => none
def pm_l2 {α : Type} (st : List Value) (k : Int64 → Int64 → List Value → Option α) : Option α := match st with
  | .long y :: .long x :: r => k x y r
  | _ => none
def pm_li {α : Type} (st : List Value) (k : Int64 → Int32 → List Value → Option α) : Option α := match st with
  | .int y :: .long x :: r => k x y r
  | _ => none
def pm_v1 {α : Type} (st : List Value) (k : Value → List Value → Option α) : Option α := match st with
  | v :: r => k v r
  | _ => none
def pm_v2 {α : Type} (st : List Value) (k : Value → Value → List Value → Option α) : Option α := match st with
  | v :: w :: r => k v w r
  | _ => none
/-- a place to jump to -/
def pm_to (pc : Nat) (off : Int) : Option Nat := match (pc : Int) + off with
  | .ofNat t => some t
  | .negSucc _ => none
def pm_kill (L : List (Option Value)) (i : Nat) : List (Option Value) := match i with
  | 0 => L
  | j + 1 => match L[j]? with
    | some (some (.long _)) => L.set j none
    | some (some (.double _)) => L.set j none
    | _ => L
def pm_sto1 (L : List (Option Value)) (i : Nat) (v : Value) : List (Option Value) := (pm_kill L i).set i (some v)
def pm_sto2 (L : List (Option Value)) (i : Nat) (v : Value) : List (Option Value) := ((pm_kill L i).set i (some v)).set (i + 1) none
def pm_ldi (L : List (Option Value)) (i : Nat) : Option Value := match L[i]? with
  | some (some (.int x)) => some (.int x)
  | _ => none
def pm_ldl (L : List (Option Value)) (i : Nat) : Option Value := match L[i]? with
  | some (some (.long x)) => some (.long x)
  | _ => none
def pm_lda (L : List (Option Value)) (i : Nat) : Option Value := match L[i]? with
  | some (some (.ref x)) => some (.ref x)
  | _ => none
def pm_sti (L : List (Option Value)) (i : Nat) (st : List Value) (pc : Nat) : Option pm_T := pm_i1 st fun x r => if i < L.length then some (pc, pm_sto1 L i (.int x), r) else none
def pm_stl (L : List (Option Value)) (i : Nat) (st : List Value) (pc : Nat) : Option pm_T := pm_l1 st fun x r => if i + 1 < L.length then some (pc, pm_sto2 L i (.long x), r) else none
def pm_sta (L : List (Option Value)) (i : Nat) (st : List Value) (pc : Nat) : Option pm_T := match st with
  | .ref x :: r => if i < L.length then some (pc, pm_sto1 L i (.ref x), r) else none
  | _ => none
/-- constants, loads, stores, the stack -/
def pm_pa (i : Instr) (pc : Nat) (L : List (Option Value)) (st : List Value) : Option pm_T := match i with
  | .iconst n => some (pc + 1, L, .int (Int32.ofInt n) :: st)
  | .bipush n => some (pc + 2, L, .int (Int8.ofInt n).toInt32 :: st)
  | .sipush n => some (pc + 3, L, .int (Int16.ofInt n).toInt32 :: st)
  | .lconst n => some (pc + 1, L, .long (Int64.ofNat (n : Nat)) :: st)
  | .iload_n k => (pm_ldi L k).map fun v => (pc + 1, L, v :: st)
  | .iload k => (pm_ldi L k).map fun v => (pc + 2, L, v :: st)
  | .lload_n k => (pm_ldl L k).map fun v => (pc + 1, L, v :: st)
  | .lload k => (pm_ldl L k).map fun v => (pc + 2, L, v :: st)
  | .aload_n k => (pm_lda L k).map fun v => (pc + 1, L, v :: st)
  | .aload k => (pm_lda L k).map fun v => (pc + 2, L, v :: st)
  | .istore_n k => pm_sti L k st (pc + 1)
  | .istore k => pm_sti L k st (pc + 2)
  | .lstore_n k => pm_stl L k st (pc + 1)
  | .lstore k => pm_stl L k st (pc + 2)
  | .astore_n k => pm_sta L k st (pc + 1)
  | .astore k => pm_sta L k st (pc + 2)
  | .iinc k n => match L[k]? with
    | some (some (.int x)) => some (pc + 3, pm_sto1 L k (.int (x + Int32.ofInt n)), st)
    | _ => none
  | .dup => pm_v1 st fun v r => if v.category = 1 then some (pc + 1, L, v :: v :: r) else none
  | .pop => pm_v1 st fun v r => if v.category = 1 then some (pc + 1, L, r) else none
  | .dup2 => match st with
    | .long x :: r => some (pc + 1, L, .long x :: .long x :: r)
    | .int x :: .int w :: r => some (pc + 1, L, .int x :: .int w :: .int x :: .int w :: r)
    | .int x :: .ref w :: r => some (pc + 1, L, .int x :: .ref w :: .int x :: .ref w :: r)
    | _ => none
  | _ => none
/-- ints -/
def pm_pb (i : Instr) (pc : Nat) (L : List (Option Value)) (st : List Value) : Option pm_T := match i with
  | .iadd => pm_i2 st fun x y r => some (pc + 1, L, .int (x + y) :: r)
  | .isub => pm_i2 st fun x y r => some (pc + 1, L, .int (x - y) :: r)
  | .imul => pm_i2 st fun x y r => some (pc + 1, L, .int (x * y) :: r)
  | .iand => pm_i2 st fun x y r => some (pc + 1, L, .int (x &&& y) :: r)
  | .ior => pm_i2 st fun x y r => some (pc + 1, L, .int (x ||| y) :: r)
  | .ixor => pm_i2 st fun x y r => some (pc + 1, L, .int (x ^^^ y) :: r)
  | .idiv => pm_i2 st fun x y r => if y = 0 then none else some (pc + 1, L, .int (x / y) :: r)
  | .irem => pm_i2 st fun x y r => if y = 0 then none else some (pc + 1, L, .int (x - x / y * y) :: r)
  | .ishl => pm_i2 st fun x y r => some (pc + 1, L, .int (x <<< (y &&& 31)) :: r)
  | .ishr => pm_i2 st fun x y r => some (pc + 1, L, .int (x >>> (y &&& 31)) :: r)
  | .iushr => pm_i2 st fun x y r => some (pc + 1, L, .int (x.toUInt32 >>> (y.toUInt32 &&& Int32.toUInt32 31)).toInt32 :: r)
  | .ineg => pm_i1 st fun x r => some (pc + 1, L, .int (-x) :: r)
  | .i2l => pm_i1 st fun x r => some (pc + 1, L, .long x.toInt64 :: r)
  | .i2c => pm_i1 st fun x r => some (pc + 1, L, .int (x.toUInt32 % 65536).toInt32 :: r)
  | _ => none
/-- longs -/
def pm_pc (i : Instr) (pc : Nat) (L : List (Option Value)) (st : List Value) : Option pm_T := match i with
  | .ladd => pm_l2 st fun x y r => some (pc + 1, L, .long (x + y) :: r)
  | .lsub => pm_l2 st fun x y r => some (pc + 1, L, .long (x - y) :: r)
  | .lmul => pm_l2 st fun x y r => some (pc + 1, L, .long (x * y) :: r)
  | .land => pm_l2 st fun x y r => some (pc + 1, L, .long (x &&& y) :: r)
  | .lor => pm_l2 st fun x y r => some (pc + 1, L, .long (x ||| y) :: r)
  | .lxor => pm_l2 st fun x y r => some (pc + 1, L, .long (x ^^^ y) :: r)
  | .ldiv => pm_l2 st fun x y r => if y = 0 then none else some (pc + 1, L, .long (x / y) :: r)
  | .lshl => pm_li st fun x y r => some (pc + 1, L, .long (x <<< (y.toInt64 &&& 63)) :: r)
  | .lshr => pm_li st fun x y r => some (pc + 1, L, .long (x >>> (y.toInt64 &&& 63)) :: r)
  | .lushr => pm_li st fun x y r => some (pc + 1, L, .long (x.toUInt64 >>> (y.toInt64.toUInt64 &&& Int64.toUInt64 63)).toInt64 :: r)
  | .lneg => pm_l1 st fun x r => some (pc + 1, L, .long (-x) :: r)
  | .l2i => pm_l1 st fun x r => some (pc + 1, L, .int x.toInt32 :: r)
  | .lcmp => pm_l2 st fun x y r => some (pc + 1, L, .int (lg_cmp x y) :: r)
  | _ => none
def pm_c0 (c : ClassFile.Cond) (x : Int32) : Bool := match c with
  | .eq => decide (x = 0)
  | .ne => decide (¬ x = 0)
  | .lt => decide (x < 0)
  | .ge => decide (0 ≤ x)
  | .gt => decide (0 < x)
  | .le => decide (x ≤ 0)
def pm_c2 (c : ClassFile.Cond) (x y : Int32) : Bool := match c with
  | .eq => decide (x = y)
  | .ne => decide (¬ x = y)
  | .lt => decide (x < y)
  | .ge => decide (y ≤ x)
  | .gt => decide (y < x)
  | .le => decide (x ≤ y)
/-- jumps -/
def pm_pd (i : Instr) (pc : Nat) (L : List (Option Value)) (st : List Value) : Option pm_T := match i with
  | .goto off => (pm_to pc off).map fun t => (t, L, st)
  | .ifCond c off => pm_i1 st fun x r => (pm_to pc off).bind fun t => bif pm_c0 c x then some (t, L, r) else some (pc + 3, L, r)
  | .if_icmp c off => pm_i2 st fun x y r => (pm_to pc off).bind fun t => bif pm_c2 c x y then some (t, L, r) else some (pc + 3, L, r)
  | .tableswitch d lo hi offs => pm_i1 st fun x r => bif decide (x.toInt < lo) || decide (hi < x.toInt) then (pm_to pc d).map (fun t => (t, L, r)) else match offs[(x.toInt - lo).toNat]? with
    | some off => (pm_to pc off).map fun t => (t, L, r)
    | none => none
  | _ => none
def pm_pure (i : Instr) (pc : Nat) (L : List (Option Value)) (st : List Value) : Option pm_T := match pm_pa i pc L st with
  | some t => some t
  | none => match pm_pb i pc L st with
    | some t => some t
    | none => match pm_pc i pc L st with
      | some t => some t
      | none => pm_pd i pc L st
def pm_len : Instr → Nat
  | .bipush _ => 2
  | .iload _ => 2
  | .lload _ => 2
  | .aload _ => 2
  | .istore _ => 2
  | .lstore _ => 2
  | .astore _ => 2
  | .ldc _ => 2
  | .newarray _ => 2
  | .sipush _ => 3
  | .iinc _ _ => 3
  | .goto _ => 3
  | .ifCond _ _ => 3
  | .if_icmp _ _ => 3
  | .ldc_w _ => 3
  | .ldc2_w _ => 3
  | .getfield _ => 3
  | .putfield _ => 3
  | .invokevirtual _ => 3
  | .invokespecial _ => 3
  | .invokestatic _ => 3
  | .new _ => 3
  | .anewarray _ => 3
  | .tableswitch _ _ _ _ => 0
  | _ => 1
def pm_dec (cc : ByteArray) (pc : Nat) (i : Instr) : Prop := ∃ len, decode cc pc = .ok (i, len) ∧ (pm_len i = 0 ∨ len = pm_len i)
/-- the frame's values as the machine has them: references by their addresses -/
def pm_v (ad : Nat → Nat) : Value → Value
  | .ref i => .ref (ad i)
  | v => v
def pm_L (ad : Nat → Nat) (nL : Nat) (L : List (Option Value)) (ls : Array Slot) : Prop := ls.size = nL ∧ L.length = nL ∧ lv_wf ls ∧ ∀ (i : Nat) (v : Value), L[i]? = some (some v) → ls[i]? = some (.val (pm_v ad v))
end
section
theorem pm_i1_some {α : Type} {st : List Value} {k : Int32 → List Value → Option α} {r : α} (h : pm_i1 st k = some r) : ∃ x t, st = .int x :: t ∧ k x t = some r := by
  unfold pm_i1 at h
  split at h
  · exact ⟨_, _, rfl, h⟩
  · cases h
theorem pm_i2_some {α : Type} {st : List Value} {k : Int32 → Int32 → List Value → Option α} {r : α} (h : pm_i2 st k = some r) : ∃ x y t, st = .int y :: .int x :: t ∧ k x y t = some r := by
  unfold pm_i2 at h
  split at h
  · exact ⟨_, _, _, rfl, h⟩
  · cases h
theorem pm_l1_some {α : Type} {st : List Value} {k : Int64 → List Value → Option α} {r : α} (h : pm_l1 st k = some r) : ∃ x t, st = .long x :: t ∧ k x t = some r := by
  unfold pm_l1 at h
  split at h
  · exact ⟨_, _, rfl, h⟩
  · cases h
theorem pm_l2_some {α : Type} {st : List Value} {k : Int64 → Int64 → List Value → Option α} {r : α} (h : pm_l2 st k = some r) : ∃ x y t, st = .long y :: .long x :: t ∧ k x y t = some r := by
  unfold pm_l2 at h
  split at h
  · exact ⟨_, _, _, rfl, h⟩
  · cases h
theorem pm_li_some {α : Type} {st : List Value} {k : Int64 → Int32 → List Value → Option α} {r : α} (h : pm_li st k = some r) : ∃ x y t, st = .int y :: .long x :: t ∧ k x y t = some r := by
  unfold pm_li at h
  split at h
  · exact ⟨_, _, _, rfl, h⟩
  · cases h
theorem pm_v1_some {α : Type} {st : List Value} {k : Value → List Value → Option α} {r : α} (h : pm_v1 st k = some r) : ∃ x t, st = x :: t ∧ k x t = some r := by
  unfold pm_v1 at h
  split at h
  · exact ⟨_, _, rfl, h⟩
  · cases h
theorem pm_ldi_some {L : List (Option Value)} {i : Nat} {v : Value} (h : pm_ldi L i = some v) : ∃ x, v = .int x ∧ L[i]? = some (some (.int x)) := by
  unfold pm_ldi at h
  split at h
  · next x e => exact ⟨x, (Option.some.inj h).symm, e⟩
  · cases h
theorem pm_ldl_some {L : List (Option Value)} {i : Nat} {v : Value} (h : pm_ldl L i = some v) : ∃ x, v = .long x ∧ L[i]? = some (some (.long x)) := by
  unfold pm_ldl at h
  split at h
  · next x e => exact ⟨x, (Option.some.inj h).symm, e⟩
  · cases h
theorem pm_lda_some {L : List (Option Value)} {i : Nat} {v : Value} (h : pm_lda L i = some v) : ∃ x, v = .ref x ∧ L[i]? = some (some (.ref x)) := by
  unfold pm_lda at h
  split at h
  · next x e => exact ⟨x, (Option.some.inj h).symm, e⟩
  · cases h
theorem pm_to_some {pc t : Nat} {off : Int} (h : pm_to pc off = some t) : (pc : Int) + off = (t : Int) := by
  unfold pm_to at h
  split at h
  · next a e => cases h; exact e
  · cases h
theorem pm_v_cat (ad : Nat → Nat) (v : Value) : (pm_v ad v).category = v.category := by cases v <;> rfl
theorem pm_kill_len (L : List (Option Value)) (i : Nat) : (pm_kill L i).length = L.length := by
  unfold pm_kill
  split
  · rfl
  · split <;> simp
theorem pm_kill_get {L : List (Option Value)} {i j : Nat} {w : Value} (h : (pm_kill L i)[j]? = some (some w)) : L[j]? = some (some w) ∧ ¬ (j + 1 = i ∧ w.category = 2) := by
  unfold pm_kill at h
  split at h
  · exact ⟨h, fun q => by omega⟩
  · next a =>
    split at h
    · next x e =>
      by_cases hj : a = j
      · subst hj
        rw [List.getElem?_set_self (List.getElem?_eq_some_iff.mp e).1] at h
        cases h
      · rw [List.getElem?_set_ne hj] at h
        exact ⟨h, fun q => hj (by omega)⟩
    · next x e =>
      by_cases hj : a = j
      · subst hj
        rw [List.getElem?_set_self (List.getElem?_eq_some_iff.mp e).1] at h
        cases h
      · rw [List.getElem?_set_ne hj] at h
        exact ⟨h, fun q => hj (by omega)⟩
    · next h1 h2 =>
      refine ⟨h, fun q => ?_⟩
      have hj : j = a := by omega
      subst hj
      cases w with
      | long x => exact h1 x h
      | double x => exact h2 x h
      | _ => exact absurd q.2 (by simp [Value.category])
theorem pm_sto1_get {L : List (Option Value)} {i j : Nat} {v w : Value} (h : (pm_sto1 L i v)[j]? = some (some w)) : (j = i ∧ w = v) ∨ (j ≠ i ∧ L[j]? = some (some w) ∧ ¬ (j + 1 = i ∧ w.category = 2)) := by
  unfold pm_sto1 at h
  by_cases hj : i = j
  · subst hj
    left
    rw [List.getElem?_set] at h
    simp only [if_true] at h
    split at h
    · cases h; exact ⟨rfl, rfl⟩
    · cases h
  · right
    rw [List.getElem?_set_ne hj] at h
    exact ⟨fun q => hj q.symm, pm_kill_get h⟩
theorem pm_sto2_get {L : List (Option Value)} {i j : Nat} {v w : Value} (h : (pm_sto2 L i v)[j]? = some (some w)) : (j = i ∧ w = v) ∨ (j ≠ i ∧ j ≠ i + 1 ∧ L[j]? = some (some w) ∧ ¬ (j + 1 = i ∧ w.category = 2)) := by
  unfold pm_sto2 at h
  by_cases hk : i + 1 = j
  · subst hk
    rw [List.getElem?_set] at h
    simp only [if_true] at h
    split at h <;> cases h
  · rw [List.getElem?_set_ne hk] at h
    rcases pm_sto1_get (v := v) h with q | ⟨q1, q2, q3⟩
    · exact Or.inl q
    · exact Or.inr ⟨q1, fun z => hk z.symm, q2, q3⟩
/-- the listed variables, as the kit has them -/
def pm_as (ad : Nat → Nat) (L : List (Option Value)) : List (Nat × Value) := (List.range L.length).filterMap fun i => match L[i]? with
  | some (some v) => some (i, pm_v ad v)
  | _ => none
theorem pm_as_in {ad : Nat → Nat} {L : List (Option Value)} {i : Nat} {v : Value} (h : L[i]? = some (some v)) : (i, pm_v ad v) ∈ pm_as ad L := by
  refine List.mem_filterMap.mpr ⟨i, List.mem_range.mpr (List.getElem?_eq_some_iff.mp h).1, ?_⟩
  rw [h]
theorem pm_as_of {ad : Nat → Nat} {L : List (Option Value)} {q : Nat × Value} (h : q ∈ pm_as ad L) : ∃ v, L[q.1]? = some (some v) ∧ q.2 = pm_v ad v := by
  obtain ⟨i, -, hi⟩ := List.mem_filterMap.mp h
  split at hi
  · next v e => cases hi; exact ⟨v, e, rfl⟩
  · cases hi
theorem pm_L.has {ad : Nat → Nat} {nL : Nat} {L : List (Option Value)} {ls : Array Slot} (h : pm_L ad nL L ls) : lv_has ls nL (pm_as ad L) := by
  refine ⟨h.1, h.2.2.1, fun q hq => ?_⟩
  obtain ⟨v, h1, h2⟩ := pm_as_of hq
  rw [h2]
  exact h.2.2.2 _ _ h1
theorem pm_L.sto1 {ad : Nat → Nat} {nL i : Nat} {L : List (Option Value)} {ls ls' : Array Slot} {v : Value} (h : pm_L ad nL L ls) (h' : lv_has ls' nL ((i, pm_v ad v) :: (pm_as ad L).filter (fun q => !(q.1 == i) && !(q.1 + 1 == i && q.2.category == 2)))) : pm_L ad nL (pm_sto1 L i v) ls' := by
  refine ⟨h'.1, by unfold pm_sto1; rw [List.length_set, pm_kill_len]; exact h.2.1, h'.2.1, fun j w hj => ?_⟩
  rcases pm_sto1_get hj with ⟨rfl, rfl⟩ | ⟨h1, h2, h3⟩
  · exact h'.2.2 (j, pm_v ad w) List.mem_cons_self
  · refine h'.2.2 (j, pm_v ad w) (List.mem_cons_of_mem _ (List.mem_filter.mpr ⟨pm_as_in h2, ?_⟩))
    simp only [Bool.and_eq_true, Bool.not_eq_true', beq_eq_false_iff_ne, ne_eq, Bool.and_eq_false_iff, pm_v_cat]
    refine ⟨h1, ?_⟩
    by_cases q : j + 1 = i
    · exact Or.inr fun z => h3 ⟨q, z⟩
    · exact Or.inl q
theorem pm_L.sto2 {ad : Nat → Nat} {nL i : Nat} {L : List (Option Value)} {ls ls' : Array Slot} {v : Value} (h : pm_L ad nL L ls) (h' : lv_has ls' nL ((i, pm_v ad v) :: (pm_as ad L).filter (fun q => !(q.1 == i) && (!(q.1 == i + 1) && !(q.1 + 1 == i && q.2.category == 2))))) : pm_L ad nL (pm_sto2 L i v) ls' := by
  refine ⟨h'.1, by unfold pm_sto2; rw [List.length_set, List.length_set, pm_kill_len]; exact h.2.1, h'.2.1, fun j w hj => ?_⟩
  rcases pm_sto2_get hj with ⟨rfl, rfl⟩ | ⟨h1, h2, h3, h4⟩
  · exact h'.2.2 (j, pm_v ad w) List.mem_cons_self
  · refine h'.2.2 (j, pm_v ad w) (List.mem_cons_of_mem _ (List.mem_filter.mpr ⟨pm_as_in h3, ?_⟩))
    simp only [Bool.and_eq_true, Bool.not_eq_true', beq_eq_false_iff_ne, ne_eq, Bool.and_eq_false_iff, pm_v_cat]
    refine ⟨h1, h2, ?_⟩
    by_cases q : j + 1 = i
    · exact Or.inr fun z => h4 ⟨q, z⟩
    · exact Or.inl q
theorem pm_dec.of {cc : ByteArray} {pc : Nat} {i : Instr} (h : pm_dec cc pc i) (hl : pm_len i ≠ 0) : decode cc pc = .ok (i, pm_len i) := by
  obtain ⟨len, h1, h2⟩ := h
  rcases h2 with h2 | h2
  · exact absurd h2 hl
  · rw [← h2]; exact h1
end
section
set_option maxHeartbeats 4000000 in
theorem pm_pa_ok {p : Program} {l : Launch} {e : Env} {R : Room} {s : State} {m : MethodId} {args : Array Value} {below : List Frame} {meth : Method} {c : Code} {H : Heap} {locs : List Loc} {cells slots : Nat} {Q : State → Prop} {cc : ByteArray} {pc nL : Nat} {L : List (Option Value)} {st : List Value} {ls : Array Slot} {ad : Nat → Nat} {i : Instr} {r : pm_T} (hx : p.tables.exec = Jvm.exec) (hb : c.code = cc) (hd : pm_dec cc pc i) (hL : pm_L ad nL L ls) (h : pm_pa i pc L st = some r) (k : ∀ ls' : Array Slot, pm_L ad nL r.2.1 ls' → W p l e R s m args below meth c H locs cells slots Q (F0 m r.1 ls' (r.2.2.map (pm_v ad)))) : W p l e R s m args below meth c H locs cells slots Q (F0 m pc ls (st.map (pm_v ad))) := by
  unfold pm_pa at h
  split at h
  · cases h; exact lv_iconst hx hb (hd.of (by simp [pm_len])) rfl (k _ hL)
  · cases h; exact lv_bipush hx hb (hd.of (by simp [pm_len])) rfl (k _ hL)
  · cases h; exact lv_sipush hx hb (hd.of (by simp [pm_len])) rfl (k _ hL)
  · cases h; exact lv_lconst hx hb (hd.of (by simp [pm_len])) rfl (k _ hL)
  · obtain ⟨v, hv, e⟩ := Option.map_eq_some_iff.mp h
    cases e
    obtain ⟨x, rfl, hx2⟩ := pm_ldi_some hv
    exact lv_iload_n hx hb (hd.of (by simp [pm_len])) rfl (hL.2.2.2 _ _ hx2) (k _ hL)
  · obtain ⟨v, hv, e⟩ := Option.map_eq_some_iff.mp h
    cases e
    obtain ⟨x, rfl, hx2⟩ := pm_ldi_some hv
    exact lv_iload hx hb (hd.of (by simp [pm_len])) (hL.2.2.2 _ _ hx2) (k _ hL)
  · obtain ⟨v, hv, e⟩ := Option.map_eq_some_iff.mp h
    cases e
    obtain ⟨x, rfl, hx2⟩ := pm_ldl_some hv
    exact lv_lload_n hx hb (hd.of (by simp [pm_len])) rfl (hL.2.2.2 _ _ hx2) (k _ hL)
  · obtain ⟨v, hv, e⟩ := Option.map_eq_some_iff.mp h
    cases e
    obtain ⟨x, rfl, hx2⟩ := pm_ldl_some hv
    exact lv_lload hx hb (hd.of (by simp [pm_len])) (hL.2.2.2 _ _ hx2) (k _ hL)
  · obtain ⟨v, hv, e⟩ := Option.map_eq_some_iff.mp h
    cases e
    obtain ⟨x, rfl, hx2⟩ := pm_lda_some hv
    exact lv_aload_n hx hb (hd.of (by simp [pm_len])) rfl (hL.2.2.2 _ _ hx2) (k _ hL)
  · obtain ⟨v, hv, e⟩ := Option.map_eq_some_iff.mp h
    cases e
    obtain ⟨x, rfl, hx2⟩ := pm_lda_some hv
    exact lv_aload hx hb (hd.of (by simp [pm_len])) (hL.2.2.2 _ _ hx2) (k _ hL)
  · unfold pm_sti at h
    obtain ⟨x, t, rfl, h9⟩ := pm_i1_some h
    replace h := h9; clear h9
    split at h
    · next hi =>
      cases h
      exact lv_istore_n hx hb (hd.of (by simp [pm_len])) rfl hL.has (by rw [← hL.2.1]; exact hi) rfl (fun ls' h' => k ls' (hL.sto1 (v := .int x) h'))
    · cases h
  · unfold pm_sti at h
    obtain ⟨x, t, rfl, h9⟩ := pm_i1_some h
    replace h := h9; clear h9
    split at h
    · next hi =>
      cases h
      exact lv_istore hx hb (hd.of (by simp [pm_len])) hL.has (by rw [← hL.2.1]; exact hi) rfl (fun ls' h' => k ls' (hL.sto1 (v := .int x) h'))
    · cases h
  · unfold pm_stl at h
    obtain ⟨x, t, rfl, h9⟩ := pm_l1_some h
    replace h := h9; clear h9
    split at h
    · next hi =>
      cases h
      exact lv_lstore_n hx hb (hd.of (by simp [pm_len])) rfl hL.has (by rw [← hL.2.1]; exact hi) rfl (fun ls' h' => k ls' (hL.sto2 (v := .long x) h'))
    · cases h
  · unfold pm_stl at h
    obtain ⟨x, t, rfl, h9⟩ := pm_l1_some h
    replace h := h9; clear h9
    split at h
    · next hi =>
      cases h
      exact lv_lstore hx hb (hd.of (by simp [pm_len])) hL.has (by rw [← hL.2.1]; exact hi) rfl (fun ls' h' => k ls' (hL.sto2 (v := .long x) h'))
    · cases h
  · unfold pm_sta at h
    split at h
    · next x t =>
      split at h
      · next hi =>
        cases h
        exact lv_astore_n hx hb (hd.of (by simp [pm_len])) rfl hL.has (by rw [← hL.2.1]; exact hi) rfl (fun ls' h' => k ls' (hL.sto1 (v := .ref x) h'))
      · cases h
    · cases h
  · unfold pm_sta at h
    split at h
    · next x t =>
      split at h
      · next hi =>
        cases h
        exact lv_astore hx hb (hd.of (by simp [pm_len])) hL.has (by rw [← hL.2.1]; exact hi) rfl (fun ls' h' => k ls' (hL.sto1 (v := .ref x) h'))
      · cases h
    · cases h
  · split at h
    · next kk n x e =>
      cases h
      obtain ⟨q, hq⟩ := List.mem_iff_getElem?.mp (pm_as_in (ad := ad) e)
      exact lv_iinc hx hb (hd.of (by simp [pm_len])) hL.has hq rfl (by rw [← hL.2.1]; exact (List.getElem?_eq_some_iff.mp e).1) rfl (fun ls' h' => k ls' (hL.sto1 (v := .int _) h'))
    · cases h
  · obtain ⟨v, t, rfl, h9⟩ := pm_v1_some h
    replace h := h9; clear h9
    split at h
    · next hc =>
      cases h
      exact lv_dup hx hb (hd.of (by simp [pm_len])) (by rw [pm_v_cat]; exact hc) (k _ hL)
    · cases h
  · obtain ⟨v, t, rfl, h9⟩ := pm_v1_some h
    replace h := h9; clear h9
    split at h
    · next hc =>
      cases h
      exact lv_pop hx hb (hd.of (by simp [pm_len])) (by rw [pm_v_cat]; exact hc) (k _ hL)
    · cases h
  · split at h
    · cases h; exact lv_dup2_2 hx hb (hd.of (by simp [pm_len])) rfl (k _ hL)
    · cases h; exact lv_dup2_11 hx hb (hd.of (by simp [pm_len])) rfl rfl (k _ hL)
    · cases h; exact lv_dup2_11 hx hb (hd.of (by simp [pm_len])) rfl rfl (k _ hL)
    · cases h
  · cases h
set_option maxHeartbeats 4000000 in
theorem pm_pb_ok {p : Program} {l : Launch} {e : Env} {R : Room} {s : State} {m : MethodId} {args : Array Value} {below : List Frame} {meth : Method} {c : Code} {H : Heap} {locs : List Loc} {cells slots : Nat} {Q : State → Prop} {cc : ByteArray} {pc nL : Nat} {L : List (Option Value)} {st : List Value} {ls : Array Slot} {ad : Nat → Nat} {i : Instr} {r : pm_T} (hx : p.tables.exec = Jvm.exec) (hb : c.code = cc) (hd : pm_dec cc pc i) (hL : pm_L ad nL L ls) (h : pm_pb i pc L st = some r) (k : ∀ ls' : Array Slot, pm_L ad nL r.2.1 ls' → W p l e R s m args below meth c H locs cells slots Q (F0 m r.1 ls' (r.2.2.map (pm_v ad)))) : W p l e R s m args below meth c H locs cells slots Q (F0 m pc ls (st.map (pm_v ad))) := by
  unfold pm_pb at h
  split at h
  · obtain ⟨x, y, t, rfl, h9⟩ := pm_i2_some h
    replace h := h9; clear h9
    cases h
    exact lv_iadd hx hb (hd.of (by simp [pm_len])) (k _ hL)
  · obtain ⟨x, y, t, rfl, h9⟩ := pm_i2_some h
    replace h := h9; clear h9
    cases h
    exact lv_isub hx hb (hd.of (by simp [pm_len])) (k _ hL)
  · obtain ⟨x, y, t, rfl, h9⟩ := pm_i2_some h
    replace h := h9; clear h9
    cases h
    exact lv_imul hx hb (hd.of (by simp [pm_len])) (k _ hL)
  · obtain ⟨x, y, t, rfl, h9⟩ := pm_i2_some h
    replace h := h9; clear h9
    cases h
    exact lv_iand hx hb (hd.of (by simp [pm_len])) (k _ hL)
  · obtain ⟨x, y, t, rfl, h9⟩ := pm_i2_some h
    replace h := h9; clear h9
    cases h
    exact lv_ior hx hb (hd.of (by simp [pm_len])) (k _ hL)
  · obtain ⟨x, y, t, rfl, h9⟩ := pm_i2_some h
    replace h := h9; clear h9
    cases h
    exact lv_ixor hx hb (hd.of (by simp [pm_len])) (k _ hL)
  · obtain ⟨x, y, t, rfl, h9⟩ := pm_i2_some h
    replace h := h9; clear h9
    split at h
    · cases h
    · next hy => cases h; exact lv_idiv hx hb (hd.of (by simp [pm_len])) hy (k _ hL)
  · obtain ⟨x, y, t, rfl, h9⟩ := pm_i2_some h
    replace h := h9; clear h9
    split at h
    · cases h
    · next hy => cases h; exact lv_irem hx hb (hd.of (by simp [pm_len])) hy (k _ hL)
  · obtain ⟨x, y, t, rfl, h9⟩ := pm_i2_some h
    replace h := h9; clear h9
    cases h
    exact lv_ishl hx hb (hd.of (by simp [pm_len])) (k _ hL)
  · obtain ⟨x, y, t, rfl, h9⟩ := pm_i2_some h
    replace h := h9; clear h9
    cases h
    exact lv_ishr hx hb (hd.of (by simp [pm_len])) (k _ hL)
  · obtain ⟨x, y, t, rfl, h9⟩ := pm_i2_some h
    replace h := h9; clear h9
    cases h
    exact lv_iushr hx hb (hd.of (by simp [pm_len])) rfl (k _ hL)
  · obtain ⟨x, t, rfl, h9⟩ := pm_i1_some h
    replace h := h9; clear h9
    cases h
    exact lv_ineg hx hb (hd.of (by simp [pm_len])) (k _ hL)
  · obtain ⟨x, t, rfl, h9⟩ := pm_i1_some h
    replace h := h9; clear h9
    cases h
    exact lv_i2l hx hb (hd.of (by simp [pm_len])) rfl (k _ hL)
  · obtain ⟨x, t, rfl, h9⟩ := pm_i1_some h
    replace h := h9; clear h9
    cases h
    exact lv_i2c hx hb (hd.of (by simp [pm_len])) rfl (k _ hL)
  · cases h
set_option maxHeartbeats 4000000 in
theorem pm_pc_ok {p : Program} {l : Launch} {e : Env} {R : Room} {s : State} {m : MethodId} {args : Array Value} {below : List Frame} {meth : Method} {c : Code} {H : Heap} {locs : List Loc} {cells slots : Nat} {Q : State → Prop} {cc : ByteArray} {pc nL : Nat} {L : List (Option Value)} {st : List Value} {ls : Array Slot} {ad : Nat → Nat} {i : Instr} {r : pm_T} (hx : p.tables.exec = Jvm.exec) (hb : c.code = cc) (hd : pm_dec cc pc i) (hL : pm_L ad nL L ls) (h : pm_pc i pc L st = some r) (k : ∀ ls' : Array Slot, pm_L ad nL r.2.1 ls' → W p l e R s m args below meth c H locs cells slots Q (F0 m r.1 ls' (r.2.2.map (pm_v ad)))) : W p l e R s m args below meth c H locs cells slots Q (F0 m pc ls (st.map (pm_v ad))) := by
  unfold pm_pc at h
  split at h
  · obtain ⟨x, y, t, rfl, h9⟩ := pm_l2_some h
    replace h := h9; clear h9
    cases h
    exact lv_ladd hx hb (hd.of (by simp [pm_len])) (k _ hL)
  · obtain ⟨x, y, t, rfl, h9⟩ := pm_l2_some h
    replace h := h9; clear h9
    cases h
    exact lv_lsub hx hb (hd.of (by simp [pm_len])) (k _ hL)
  · obtain ⟨x, y, t, rfl, h9⟩ := pm_l2_some h
    replace h := h9; clear h9
    cases h
    exact lv_lmul hx hb (hd.of (by simp [pm_len])) (k _ hL)
  · obtain ⟨x, y, t, rfl, h9⟩ := pm_l2_some h
    replace h := h9; clear h9
    cases h
    exact lv_land hx hb (hd.of (by simp [pm_len])) (k _ hL)
  · obtain ⟨x, y, t, rfl, h9⟩ := pm_l2_some h
    replace h := h9; clear h9
    cases h
    exact lv_lor hx hb (hd.of (by simp [pm_len])) (k _ hL)
  · obtain ⟨x, y, t, rfl, h9⟩ := pm_l2_some h
    replace h := h9; clear h9
    cases h
    exact lv_lxor hx hb (hd.of (by simp [pm_len])) (k _ hL)
  · obtain ⟨x, y, t, rfl, h9⟩ := pm_l2_some h
    replace h := h9; clear h9
    split at h
    · cases h
    · next hy => cases h; exact lv_ldiv hx hb (hd.of (by simp [pm_len])) hy (k _ hL)
  · obtain ⟨x, y, t, rfl, h9⟩ := pm_li_some h
    replace h := h9; clear h9
    cases h
    exact lv_lshl hx hb (hd.of (by simp [pm_len])) rfl (k _ hL)
  · obtain ⟨x, y, t, rfl, h9⟩ := pm_li_some h
    replace h := h9; clear h9
    cases h
    exact lv_lshr hx hb (hd.of (by simp [pm_len])) rfl (k _ hL)
  · obtain ⟨x, y, t, rfl, h9⟩ := pm_li_some h
    replace h := h9; clear h9
    cases h
    exact lv_lushr hx hb (hd.of (by simp [pm_len])) rfl (k _ hL)
  · obtain ⟨x, t, rfl, h9⟩ := pm_l1_some h
    replace h := h9; clear h9
    cases h
    exact lv_lneg hx hb (hd.of (by simp [pm_len])) (k _ hL)
  · obtain ⟨x, t, rfl, h9⟩ := pm_l1_some h
    replace h := h9; clear h9
    cases h
    exact lv_l2i hx hb (hd.of (by simp [pm_len])) rfl (k _ hL)
  · obtain ⟨x, y, t, rfl, h9⟩ := pm_l2_some h
    replace h := h9; clear h9
    cases h
    exact W.lcmp hx hb (hd.of (by simp [pm_len])) (k _ hL)
  · cases h
set_option maxHeartbeats 4000000 in
theorem pm_pd_ok {p : Program} {l : Launch} {e : Env} {R : Room} {s : State} {m : MethodId} {args : Array Value} {below : List Frame} {meth : Method} {c : Code} {H : Heap} {locs : List Loc} {cells slots : Nat} {Q : State → Prop} {cc : ByteArray} {pc nL : Nat} {L : List (Option Value)} {st : List Value} {ls : Array Slot} {ad : Nat → Nat} {i : Instr} {r : pm_T} (hx : p.tables.exec = Jvm.exec) (hb : c.code = cc) (hd : pm_dec cc pc i) (hL : pm_L ad nL L ls) (h : pm_pd i pc L st = some r) (k : ∀ ls' : Array Slot, pm_L ad nL r.2.1 ls' → W p l e R s m args below meth c H locs cells slots Q (F0 m r.1 ls' (r.2.2.map (pm_v ad)))) : W p l e R s m args below meth c H locs cells slots Q (F0 m pc ls (st.map (pm_v ad))) := by
  unfold pm_pd at h
  split at h
  · obtain ⟨t, ht, e⟩ := Option.map_eq_some_iff.mp h
    cases e
    exact lv_goto hx hb (hd.of (by simp [pm_len])) (pm_to_some ht) (k _ hL)
  · next cnd off =>
    obtain ⟨x, t, rfl, h9⟩ := pm_i1_some h
    replace h := h9; clear h9
    obtain ⟨t2, ht, h⟩ := Option.bind_eq_some_iff.mp h
    cases hq : pm_c0 cnd x with
    | true =>
      rw [hq] at h
      cases h
      cases cnd with
      | eq => exact lv_if_eq hx hb (hd.of (by simp [pm_len])) (pm_to_some ht) (fun _ => k _ hL) (fun z => absurd (of_decide_eq_true hq) z)
      | ne => exact lv_if_ne hx hb (hd.of (by simp [pm_len])) (pm_to_some ht) (fun _ => k _ hL) (fun z => absurd z (of_decide_eq_true hq))
      | lt => exact lv_if_lt hx hb (hd.of (by simp [pm_len])) (pm_to_some ht) (fun _ => k _ hL) (fun z => absurd (of_decide_eq_true hq) z)
      | ge => exact lv_if_ge hx hb (hd.of (by simp [pm_len])) (pm_to_some ht) (fun _ => k _ hL) (fun z => absurd (of_decide_eq_true hq) z)
      | gt => exact lv_if_gt hx hb (hd.of (by simp [pm_len])) (pm_to_some ht) (fun _ => k _ hL) (fun z => absurd (of_decide_eq_true hq) z)
      | le => exact lv_if_le hx hb (hd.of (by simp [pm_len])) (pm_to_some ht) (fun _ => k _ hL) (fun z => absurd (of_decide_eq_true hq) z)
    | false =>
      rw [hq] at h
      cases h
      cases cnd with
      | eq => exact lv_if_eq hx hb (hd.of (by simp [pm_len])) (pm_to_some ht) (fun z => absurd z (of_decide_eq_false hq)) (fun _ => k _ hL)
      | ne => exact lv_if_ne hx hb (hd.of (by simp [pm_len])) (pm_to_some ht) (fun z => absurd z (of_decide_eq_false hq)) (fun _ => k _ hL)
      | lt => exact lv_if_lt hx hb (hd.of (by simp [pm_len])) (pm_to_some ht) (fun z => absurd z (of_decide_eq_false hq)) (fun _ => k _ hL)
      | ge => exact lv_if_ge hx hb (hd.of (by simp [pm_len])) (pm_to_some ht) (fun z => absurd z (of_decide_eq_false hq)) (fun _ => k _ hL)
      | gt => exact lv_if_gt hx hb (hd.of (by simp [pm_len])) (pm_to_some ht) (fun z => absurd z (of_decide_eq_false hq)) (fun _ => k _ hL)
      | le => exact lv_if_le hx hb (hd.of (by simp [pm_len])) (pm_to_some ht) (fun z => absurd z (of_decide_eq_false hq)) (fun _ => k _ hL)
  · next cnd off =>
    obtain ⟨x, y, t, rfl, h9⟩ := pm_i2_some h
    replace h := h9; clear h9
    obtain ⟨t2, ht, h⟩ := Option.bind_eq_some_iff.mp h
    cases hq : pm_c2 cnd x y with
    | true =>
      rw [hq] at h
      cases h
      cases cnd with
      | eq => exact lv_icmp_eq hx hb (hd.of (by simp [pm_len])) (pm_to_some ht) (fun _ => k _ hL) (fun z => absurd (of_decide_eq_true hq) z)
      | ne => exact lv_icmp_ne hx hb (hd.of (by simp [pm_len])) (pm_to_some ht) (fun _ => k _ hL) (fun z => absurd z (of_decide_eq_true hq))
      | lt => exact lv_icmp_lt hx hb (hd.of (by simp [pm_len])) (pm_to_some ht) (fun _ => k _ hL) (fun z => absurd (of_decide_eq_true hq) z)
      | ge => exact lv_icmp_ge hx hb (hd.of (by simp [pm_len])) (pm_to_some ht) (fun _ => k _ hL) (fun z => absurd (of_decide_eq_true hq) z)
      | gt => exact lv_icmp_gt hx hb (hd.of (by simp [pm_len])) (pm_to_some ht) (fun _ => k _ hL) (fun z => absurd (of_decide_eq_true hq) z)
      | le => exact lv_icmp_le hx hb (hd.of (by simp [pm_len])) (pm_to_some ht) (fun _ => k _ hL) (fun z => absurd (of_decide_eq_true hq) z)
    | false =>
      rw [hq] at h
      cases h
      cases cnd with
      | eq => exact lv_icmp_eq hx hb (hd.of (by simp [pm_len])) (pm_to_some ht) (fun z => absurd z (of_decide_eq_false hq)) (fun _ => k _ hL)
      | ne => exact lv_icmp_ne hx hb (hd.of (by simp [pm_len])) (pm_to_some ht) (fun z => absurd z (of_decide_eq_false hq)) (fun _ => k _ hL)
      | lt => exact lv_icmp_lt hx hb (hd.of (by simp [pm_len])) (pm_to_some ht) (fun z => absurd z (of_decide_eq_false hq)) (fun _ => k _ hL)
      | ge => exact lv_icmp_ge hx hb (hd.of (by simp [pm_len])) (pm_to_some ht) (fun z => absurd z (of_decide_eq_false hq)) (fun _ => k _ hL)
      | gt => exact lv_icmp_gt hx hb (hd.of (by simp [pm_len])) (pm_to_some ht) (fun z => absurd z (of_decide_eq_false hq)) (fun _ => k _ hL)
      | le => exact lv_icmp_le hx hb (hd.of (by simp [pm_len])) (pm_to_some ht) (fun z => absurd z (of_decide_eq_false hq)) (fun _ => k _ hL)
  · next d lo hi offs =>
    obtain ⟨x, t, rfl, h9⟩ := pm_i1_some h
    replace h := h9; clear h9
    obtain ⟨len, hdd, -⟩ := hd
    cases hq : (decide (x.toInt < lo) || decide (hi < x.toInt)) with
    | true =>
      rw [hq] at h
      obtain ⟨t, ht, e⟩ := Option.map_eq_some_iff.mp h
      cases e
      exact lv_tableOut hx hb hdd (by simpa using hq) (pm_to_some ht) (k _ hL)
    | false =>
      rw [hq] at h
      simp only [cond_false] at h
      simp only [Bool.or_eq_false_iff, decide_eq_false_iff_not] at hq
      split at h
      · next off ho =>
        obtain ⟨t, ht, e⟩ := Option.map_eq_some_iff.mp h
        cases e
        exact lv_tableIn hx hb hdd hq.1 hq.2 ho (pm_to_some ht) (k _ hL)
      · cases h
  · cases h
end
section
/-! PM: the heap -/
def pm_okv (n : Nat) : Value → Bool
  | .ref i => decide (i < n) || decide (1000 ≤ i)
  | _ => true
def pm_okL (n : Nat) (L : List (Option Value)) : Bool := L.all fun o => match o with
  | some v => pm_okv n v
  | none => true
def pm_okc (n : Nat) : pm_C → Bool
  | .inr (.inr (.inl l)) => l.all fun o => match o with
    | some i => decide (i < n) || decide (1000 ≤ i)
    | none => true
  | .inr (.inr (.inr o)) => o.2.all (pm_okv n)
  | _ => true
def pm_okh (z : pm_Z) : Bool := (List.range z.2.1).all fun i => pm_okc z.2.1 (z.1 i)
def pm_obj (z : pm_Z) (a : Nat) : Option (Nat × List Value) := if a < z.2.1 then match z.1 a with
  | .inr (.inr (.inr o)) => some o
  | _ => none
  else none
def pm_ia (t : Nat) (z : pm_Z) (a : Nat) : Option (Nat × (Nat → Int32)) := if a < z.2.1 then match z.1 a with
  | .inl (u, n, f) => if u = t then some (n, f) else none
  | _ => none
  else none
def pm_la (z : pm_Z) (a : Nat) : Option (Nat × (Nat → Int64)) := if a < z.2.1 then match z.1 a with
  | .inr (.inl o) => some o
  | _ => none
  else none
def pm_ra (z : pm_Z) (a : Nat) : Option (List (Option Nat)) := if a < z.2.1 then match z.1 a with
  | .inr (.inr (.inl l)) => some l
  | _ => none
  else none
/-- how long an array is, and of which kind: 0 ints, 1 booleans, 2 longs, 3 references -/
def pm_alen (z : pm_Z) (a : Nat) : Option (Nat × Nat) := if a < z.2.1 then match z.1 a with
  | .inl (u, n, _) => if u = 0 then some (0, n) else if u = 1 then some (1, n) else none
  | .inr (.inl o) => some (2, o.1)
  | .inr (.inr (.inl l)) => some (3, l.length)
  | _ => none
  else none
def pm_set (z : pm_Z) (a : Nat) (x : pm_C) : pm_Z := (va_up z.1 a x, z.2)
def pm_new (z : pm_Z) (x : pm_C) (k : Nat) : pm_Z := (va_up z.1 z.2.1 x, z.2.1 + 1, z.2.2.1 + 1, z.2.2.2 + k)
/-- what a field of a kind takes: 0 int, 1 boolean, 2 reference, 3 long -/
def pm_fit (t : Nat) (v : Value) : Bool := match t, v with
  | 0, .int _ => true
  | 1, .int x => decide (x = 0) || decide (x = 1)
  | 2, .ref _ => true
  | 3, .long _ => true
  | _, _ => false
def pm_in (i : Int32) (n : Nat) : Bool := !(decide (i < 0) || decide (n ≤ i.toNatClampNeg))
theorem pm_in_iff {i : Int32} {n : Nat} : pm_in i n = true ↔ vp_in i n := by
  simp [pm_in, vp_in]
def pm_at {α : Type} (st : List Value) (k : Int32 → Nat → List Value → Option α) : Option α := match st with
  | .int i :: .ref a :: r => k i a r
  | _ => none
def pm_rf {α : Type} (st : List Value) (k : Nat → List Value → Option α) : Option α := match st with
  | .ref a :: r => k a r
  | _ => none
theorem pm_at_some {α : Type} {st : List Value} {k : Int32 → Nat → List Value → Option α} {r : α} (h : pm_at st k = some r) : ∃ i a t, st = .int i :: .ref a :: t ∧ k i a t = some r := by
  unfold pm_at at h
  split at h
  · exact ⟨_, _, _, rfl, h⟩
  · cases h
theorem pm_rf_some {α : Type} {st : List Value} {k : Nat → List Value → Option α} {r : α} (h : pm_rf st k = some r) : ∃ a t, st = .ref a :: t ∧ k a t = some r := by
  unfold pm_rf at h
  split at h
  · exact ⟨_, _, rfl, h⟩
  · cases h
/-- reads -/
def pm_ha (fld : Nat → Option (Nat × Nat × Nat)) (cst : Nat → Option Int32) (csl : Nat → Option Int64) (csr : Nat → Option Nat) (sc : Nat × (Nat → Int32)) (i : Instr) (pc : Nat) (L : List (Option Value)) (st : List Value) (z : pm_Z) : Option pm_T := match i with
  | .ldc idx => match cst idx with
    | some v => some (pc + 2, L, .int v :: st)
    | none => (csr idx).map fun a => (pc + 2, L, .ref a :: st)
  | .ldc_w idx => (cst idx).map fun v => (pc + 3, L, .int v :: st)
  | .ldc2_w idx => (csl idx).map fun v => (pc + 3, L, .long v :: st)
  | .getfield idx => pm_rf st fun a r => (fld idx).bind fun q => (pm_obj z a).bind fun o => if o.1 = q.1 then (o.2[q.2.1]?).map fun v => (pc + 3, L, v :: r) else none
  | .arraylength => pm_rf st fun a r => if a = 1000000 then some (pc + 1, L, .int (Int32.ofNat sc.1) :: r) else (pm_alen z a).map fun n => (pc + 1, L, .int (Int32.ofNat n.2) :: r)
  | .iaload => pm_at st fun i a r => if a = 1000000 then (if pm_in i sc.1 = true then some (pc + 1, L, .int (sc.2 i.toNatClampNeg) :: r) else none) else (pm_ia 0 z a).bind fun o => if pm_in i o.1 = true then some (pc + 1, L, .int (o.2 i.toNatClampNeg) :: r) else none
  | .baload => pm_at st fun i a r => (pm_ia 1 z a).bind fun o => if pm_in i o.1 = true then some (pc + 1, L, .int (o.2 i.toNatClampNeg) :: r) else none
  | .laload => pm_at st fun i a r => (pm_la z a).bind fun o => if pm_in i o.1 = true then some (pc + 1, L, .long (o.2 i.toNatClampNeg) :: r) else none
  | .aaload => pm_at st fun i a r => (pm_ra z a).bind fun o => if pm_in i o.length = true then (match o[i.toNatClampNeg]? with
    | some (some v) => some (pc + 1, L, .ref v :: r)
    | _ => none) else none
  | _ => none
/-- writes -/
def pm_hb (fld : Nat → Option (Nat × Nat × Nat)) (net : Nat) (i : Instr) (pc : Nat) (L : List (Option Value)) (st : List Value) (z : pm_Z) : Option (pm_T × pm_Z) := match i with
  | .putfield idx => match st with
    | v :: .ref a :: r => (fld idx).bind fun q => (pm_obj z a).bind fun o => if o.1 = q.1 ∧ q.2.1 < o.2.length ∧ pm_fit q.2.2 v = true then some ((pc + 3, L, r), pm_set z a (.inr (.inr (.inr (o.1, o.2.set q.2.1 v))))) else none
    | _ => none
  | .iastore => match st with
    | .int x :: .int i :: .ref a :: r => (pm_ia 0 z a).bind fun o => if pm_in i o.1 = true then some ((pc + 1, L, r), pm_set z a (.inl (0, o.1, upd o.2 i.toNatClampNeg x))) else none
    | _ => none
  | .bastore => match st with
    | .int x :: .int i :: .ref a :: r => (pm_ia 1 z a).bind fun o => if pm_in i o.1 = true then some ((pc + 1, L, r), pm_set z a (.inl (1, o.1, upd o.2 i.toNatClampNeg (vp_nar .boolean x)))) else none
    | _ => none
  | .lastore => match st with
    | .long x :: .int i :: .ref a :: r => (pm_la z a).bind fun o => if pm_in i o.1 = true then some ((pc + 1, L, r), pm_set z a (.inr (.inl (o.1, vp_updL o.2 i.toNatClampNeg x)))) else none
    | _ => none
  | .aastore => match st with
    | .ref v :: .int i :: .ref a :: r => (pm_ra z a).bind fun o => (pm_obj z v).bind fun w => if pm_in i o.length = true ∧ w.1 = net then some ((pc + 1, L, r), pm_set z a (.inr (.inr (.inl (o.set i.toNatClampNeg (some v)))))) else none
    | _ => none
  | _ => none
/-- what is made -/
def pm_hc (cnw : Nat → Option (Nat × List Value)) (anw : Nat → Bool) (i : Instr) (pc : Nat) (L : List (Option Value)) (st : List Value) (z : pm_Z) : Option (pm_T × pm_Z) :=
  if z.2.1 < 1000 ∧ pm_okL z.2.1 L = true ∧ st.all (pm_okv z.2.1) = true ∧ pm_okh z = true then match i with
  | .newarray t => match st with
    | .int n :: r => if n < 0 ∨ 100000 < n.toNatClampNeg then none else match t with
      | .int => some ((pc + 2, L, .ref z.2.1 :: r), pm_new z (.inl (0, n.toNatClampNeg, fun _ => 0)) n.toNatClampNeg)
      | .boolean => some ((pc + 2, L, .ref z.2.1 :: r), pm_new z (.inl (1, n.toNatClampNeg, fun _ => 0)) n.toNatClampNeg)
      | .long => some ((pc + 2, L, .ref z.2.1 :: r), pm_new z (.inr (.inl (n.toNatClampNeg, fun _ => 0))) n.toNatClampNeg)
      | _ => none
    | _ => none
  | .anewarray idx => match st with
    | .int n :: r => if n < 0 ∨ 100000 < n.toNatClampNeg ∨ anw idx = false then none else some ((pc + 3, L, .ref z.2.1 :: r), pm_new z (.inr (.inr (.inl (List.replicate n.toNatClampNeg none)))) n.toNatClampNeg)
    | _ => none
  | .new idx => (cnw idx).map fun o => ((pc + 3, L, .ref z.2.1 :: st), pm_new z (.inr (.inr (.inr o))) o.2.length)
  | _ => none
  else none
/-- a cell as the kit has it -/
def pm_e (cA : Nat → ClassId) (ad : Nat → Nat) : pm_C → va_E
  | .inl (t, n, f) => .inl (cA t, n, .inl f)
  | .inr (.inl o) => .inl (cA 2, o.1, .inr (.inl o.2))
  | .inr (.inr (.inl l)) => .inl (cA 3, l.length, .inr (.inr (.inr (.inr (fun j => (l[j]?.join).map ad)))))
  | .inr (.inr (.inr o)) => .inr (o.1, o.2.map (pm_v ad))
def pm_ws (cA : Nat → ClassId) (ad : Nat → Nat) (z : pm_Z) : va_W := (List.range z.2.1).map fun i => (ad i, pm_e cA ad (z.1 i))
theorem pm_ws_len (cA : Nat → ClassId) (ad : Nat → Nat) (z : pm_Z) : (pm_ws cA ad z).length = z.2.1 := by simp [pm_ws]
theorem pm_ws_get {cA : Nat → ClassId} {ad : Nat → Nat} {z : pm_Z} {a : Nat} {x : pm_C} (h : a < z.2.1) (hx : z.1 a = x) : (pm_ws cA ad z)[a]? = some (ad a, pm_e cA ad x) := by
  subst hx
  simp [pm_ws, h]
theorem pm_ws_set {cA : Nat → ClassId} {ad : Nat → Nat} {z : pm_Z} {a : Nat} (x : pm_C) (h : a < z.2.1) : (pm_ws cA ad z).set a (ad a, pm_e cA ad x) = pm_ws cA ad (pm_set z a x) := by
  apply List.ext_getElem?
  intro j
  by_cases hj : a = j
  · subst hj
    rw [List.getElem?_set_self (by rw [pm_ws_len]; exact h)]
    rw [pm_ws_get (x := x) (z := pm_set z a x) h (by simp [pm_set, va_up])]
  · rw [List.getElem?_set_ne hj]
    by_cases hl : j < z.2.1
    · rw [pm_ws_get hl rfl, pm_ws_get (z := pm_set z a x) (x := z.1 j) hl (by simp [pm_set, va_up]; exact fun q => absurd q.symm hj)]
    · rw [List.getElem?_eq_none (by rw [pm_ws_len]; omega), List.getElem?_eq_none (by rw [pm_ws_len]; exact Nat.le_of_not_lt hl)]
theorem pm_obj_some {z : pm_Z} {a : Nat} {o : Nat × List Value} (h : pm_obj z a = some o) : a < z.2.1 ∧ z.1 a = .inr (.inr (.inr o)) := by
  unfold pm_obj at h
  split at h
  · next hl =>
    split at h
    · next e => cases h; exact ⟨hl, e⟩
    · cases h
  · cases h
theorem pm_ia_some {t : Nat} {z : pm_Z} {a : Nat} {o : Nat × (Nat → Int32)} (h : pm_ia t z a = some o) : a < z.2.1 ∧ z.1 a = .inl (t, o.1, o.2) := by
  unfold pm_ia at h
  split at h
  · next hl =>
    split at h
    · next e =>
      split at h
      · next ht => cases h; subst ht; exact ⟨hl, e⟩
      · cases h
    · cases h
  · cases h
theorem pm_la_some {z : pm_Z} {a : Nat} {o : Nat × (Nat → Int64)} (h : pm_la z a = some o) : a < z.2.1 ∧ z.1 a = .inr (.inl o) := by
  unfold pm_la at h
  split at h
  · next hl =>
    split at h
    · next e => cases h; exact ⟨hl, e⟩
    · cases h
  · cases h
theorem pm_ra_some {z : pm_Z} {a : Nat} {o : List (Option Nat)} (h : pm_ra z a = some o) : a < z.2.1 ∧ z.1 a = .inr (.inr (.inl o)) := by
  unfold pm_ra at h
  split at h
  · next hl =>
    split at h
    · next e => cases h; exact ⟨hl, e⟩
    · cases h
  · cases h
end
section
def pm_tys (cA : Nat → ClassId) (NC : String) : List (ClassId × FieldType) := [(cA 0, .int), (cA 1, .boolean), (cA 2, .long), (cA 3, .object NC)]
/-- the world of PM's heap in the machine's -/
def pm_R (D : va_G) (cl : List vw_C) (cA : Nat → ClassId) (base : Nat) (sp ad : Nat → Nat) (z : pm_Z) (H : Heap) : Prop := va_P D cl (pm_ws cA ad z) H ∧ va_D (fun q : Nat => base ≤ q) (pm_ws cA ad z) ∧ (∀ i, 1000 ≤ i → ad i = sp i) ∧ z.2.1 ≤ 1000
def pm_okf (cl : List vw_C) (tbl : List Cond) (own : String) (idx : Nat) (q : Nat × Nat × Nat) : Prop := ∃ (C : String) (T : u_T) (N : Nat) (ty : Nat → FieldType), cl[q.1]? = some (C, T, N) ∧ q.2.1 < N ∧ (∀ w ∈ u_ws C T N, w ∈ tbl) ∧ Cond.fieldLink own idx (T q.2.1).1 (T q.2.1).2.1 (T q.2.1).2.2.1 ∈ tbl ∧ (∀ k, k < N → parseFieldDescriptor (T k).2.2.1 = some (ty k)) ∧ (∀ a, a < N → ∀ b, b < N → a ≠ b → (T a).2.1 ≠ (T b).2.1) ∧ (∀ (ad : Nat → Nat) (v : Value), pm_fit q.2.2 v = true → narrow (ty q.2.1) (pm_v ad v) = pm_v ad v ∧ fits (ty q.2.1) (pm_v ad v) = true) ∧ ((T q.2.1).2.2.2 = true → (T q.2.1).1 = own)
/-- what may be put: not final, or final in the making of its own kind -/
def pm_okp (cl : List vw_C) (q : Nat × Nat × Nat) (nm : String) : Prop := ∀ (C : String) (T : u_T) (N : Nat), cl[q.1]? = some (C, T, N) → (T q.2.1).2.2.2 = true → nm = "<init>"
section PMH
variable {p : Program} {l : Launch} {e : Env} {R : Room} {s : State} {m : MethodId} {args : Array Value} {below : List Frame} {meth : Method} {c : Code} {H : Heap} {locs : List Loc} {cells slots : Nat} {Q : State → Prop} {cc : ByteArray} {pc nL : Nat} {L : List (Option Value)} {st : List Value} {ls : Array Slot} {ad : Nat → Nat} {i : Instr}
variable {D : va_G} {cl : List vw_C} {cA : Nat → ClassId} {NC : String} {base net : Nat} {sp : Nat → Nat} {tbl : List Cond} {own : String} {fld fldp : Nat → Option (Nat × Nat × Nat)} {cst : Nat → Option Int32} {csl : Nat → Option Int64} {csr : Nat → Option Nat} {sc : Nat × (Nat → Int32)} {z : pm_Z}
set_option maxHeartbeats 4000000 in
theorem pm_ha_ok {r : pm_T} (hx : p.tables.exec = Jvm.exec) (hb : c.code = cc) (hown : s.vm.findClass own = some m.cls) (hts : ∀ w ∈ tbl, w.before args s = true) (hd : pm_dec cc pc i) (hL : pm_L ad nL L ls)
    (hK : va_K D cl (pm_tys cA NC) s) (hR : pm_R D cl cA base sp ad z H) (hS : va_S (fun q : Nat => base ≤ q) s.heap H locs)
    (hX : va_X (sp 1000000) sc.1 sc.2 s s.heap) (hXb : sp 1000000 < base) (hXs : base ≤ s.heap.size)
    (hF : ∀ idx q, fld idx = some q → pm_okf cl tbl own idx q) (hC : ∀ idx v, cst idx = some v → Cond.constant own idx v ∈ tbl) (hC2 : ∀ idx v, csl idx = some v → Cond.constantLong own idx v ∈ tbl)
    (hCr : ∀ idx a, csr idx = some a → 1000 ≤ a ∧ ∃ tx, vk_R own idx tx (sp a) s)
    (h : pm_ha fld cst csl csr sc i pc L st z = some r)
    (k : W p l e R s m args below meth c H locs cells slots Q (F0 m r.1 ls (r.2.2.map (pm_v ad)))) (kL : r.2.1 = L → True) : W p l e R s m args below meth c H locs cells slots Q (F0 m pc ls (st.map (pm_v ad))) := by
  obtain ⟨hP, hD, hA, hn⟩ := hR
  unfold pm_ha at h
  split at h
  · next idx =>
    split at h
    · next v hv => cases h; exact lv_ldc hx hb hown (hts _ (hC _ _ hv)) (hd.of (by simp [pm_len])) k
    · obtain ⟨a, ha, e⟩ := Option.map_eq_some_iff.mp h
      cases e
      obtain ⟨h1, tx, h2⟩ := hCr _ _ ha
      refine va_ldcS hx hb hown h2 (hd.of (by simp [pm_len])) ?_
      have e2 : pm_v ad (.ref a) = .ref (sp a) := by show Value.ref (ad a) = _; rw [hA a h1]
      simp only [List.map_cons, e2] at k
      exact k
  · obtain ⟨v, hv, e⟩ := Option.map_eq_some_iff.mp h
    cases e
    exact lv_ldcw hx hb hown (hts _ (hC _ _ hv)) (hd.of (by simp [pm_len])) k
  · obtain ⟨v, hv, e⟩ := Option.map_eq_some_iff.mp h
    cases e
    exact lv_ldc2 hx hb hown (hts _ (hC2 _ _ hv)) (hd.of (by simp [pm_len])) k
  · next idx =>
    obtain ⟨a, t, rfl, h9⟩ := pm_rf_some h
    replace h := h9; clear h9
    obtain ⟨q, hq, h⟩ := Option.bind_eq_some_iff.mp h
    obtain ⟨o, ho, h⟩ := Option.bind_eq_some_iff.mp h
    split at h
    · next hc =>
      obtain ⟨v, hv, e⟩ := Option.map_eq_some_iff.mp h
      cases e
      obtain ⟨C, T, N, ty, h1, h2, h3, h4, h5, h6, h7, -⟩ := hF _ _ hq
      obtain ⟨g1, g2⟩ := pm_obj_some ho
      refine va_get (D := D) (ci := q.1) (v := pm_v ad v) (C := C) (T := T) (N := N) hx hb hts h3 hown hK hP a (fs := o.2.map (pm_v ad)) ?_ h1 q.2.1 h2 (hts _ h4) (fun _ h9 => h9) ?_ (hd.of (by simp [pm_len])) k
      · rw [pm_ws_get g1 g2]
        show some (ad a, (Sum.inr (o.1, o.2.map (pm_v ad)) : va_E)) = _
        rw [hc]
      · rw [List.getElem?_map, hv]; rfl
    · cases h
  · obtain ⟨a, t, rfl, h9⟩ := pm_rf_some h
    replace h := h9; clear h9
    split at h
    · next ha =>
      cases h
      subst ha
      have e2 : pm_v ad (.ref 1000000) = .ref (sp 1000000) := by show Value.ref (ad _) = _; rw [hA _ (by omega)]
      simp only [List.map_cons, e2]
      exact va_slen hx hb hX (by omega) (by omega) hS (hd.of (by simp [pm_len])) k
    · obtain ⟨n, hn2, e⟩ := Option.map_eq_some_iff.mp h
      cases e
      unfold pm_alen at hn2
      split at hn2
      · next hl =>
        split at hn2
        · next u n f e3 =>
          split at hn2
          · next hu =>
            subst hu
            cases hn2
            exact va_alen (D := D) (x := (n, .inl f)) hx hb hK hP a 0 (pm_ws_get hl e3) rfl rfl (hd.of (by simp [pm_len])) k
          · split at hn2
            · next hu =>
              subst hu
              cases hn2
              exact va_alen (D := D) (x := (n, .inl f)) hx hb hK hP a 1 (pm_ws_get hl e3) rfl rfl (hd.of (by simp [pm_len])) k
            · cases hn2
        · next o e3 =>
          cases hn2
          exact va_alen (D := D) (x := (o.1, .inr (.inl o.2))) hx hb hK hP a 2 (pm_ws_get hl e3) rfl rfl (hd.of (by simp [pm_len])) k
        · next o e3 =>
          cases hn2
          exact va_alen (D := D) (x := (o.length, .inr (.inr (.inr (.inr (fun j => (o[j]?.join).map ad)))))) hx hb hK hP a 3 (pm_ws_get hl e3) rfl rfl (hd.of (by simp [pm_len])) k
        · cases hn2
      · cases hn2
  · obtain ⟨j, a, t, rfl, h9⟩ := pm_at_some h
    replace h := h9; clear h9
    split at h
    · next ha =>
      subst ha
      split at h
      · next hj =>
        cases h
        have e2 : pm_v ad (.ref 1000000) = .ref (sp 1000000) := by show Value.ref (ad _) = _; rw [hA _ (by omega)]
        simp only [List.map_cons, e2]
        exact va_sld hx hb hX (by omega) (by omega) hS (pm_in_iff.mp hj) (hd.of (by simp [pm_len])) k
      · cases h
    · obtain ⟨o, ho, h⟩ := Option.bind_eq_some_iff.mp h
      split at h
      · next hj =>
        cases h
        obtain ⟨g1, g2⟩ := pm_ia_some ho
        exact va_iald (D := D) (f := o.2) hx hb hK hP a 0 (pm_ws_get g1 g2) rfl (pm_in_iff.mp hj) (hd.of (by simp [pm_len])) k
      · cases h
  · obtain ⟨j, a, t, rfl, h9⟩ := pm_at_some h
    replace h := h9; clear h9
    obtain ⟨o, ho, h⟩ := Option.bind_eq_some_iff.mp h
    split at h
    · next hj =>
      cases h
      obtain ⟨g1, g2⟩ := pm_ia_some ho
      exact va_zald (D := D) (f := o.2) hx hb hK hP a 1 (pm_ws_get g1 g2) rfl (pm_in_iff.mp hj) (hd.of (by simp [pm_len])) k
    · cases h
  · obtain ⟨j, a, t, rfl, h9⟩ := pm_at_some h
    replace h := h9; clear h9
    obtain ⟨o, ho, h⟩ := Option.bind_eq_some_iff.mp h
    split at h
    · next hj =>
      cases h
      obtain ⟨g1, g2⟩ := pm_la_some ho
      exact va_lald (D := D) (f := o.2) hx hb hK hP a 2 (pm_ws_get g1 g2) rfl (pm_in_iff.mp hj) (hd.of (by simp [pm_len])) k
    · cases h
  · obtain ⟨j, a, t, rfl, h9⟩ := pm_at_some h
    replace h := h9; clear h9
    obtain ⟨o, ho, h⟩ := Option.bind_eq_some_iff.mp h
    split at h
    · next hj =>
      split at h
      · next v hv =>
        cases h
        obtain ⟨g1, g2⟩ := pm_ra_some ho
        refine va_aldq (D := D) (C := NC) (f := fun j => (o[j]?.join).map ad) hx hb hK hP a 3 (pm_ws_get g1 g2) rfl (pm_in_iff.mp hj) (hd.of (by simp [pm_len])) ?_
        rw [hv]
        exact k
      · cases h
    · cases h
  · cases h
set_option maxHeartbeats 4000000 in
theorem pm_hb_ok {r : pm_T × pm_Z} (hx : p.tables.exec = Jvm.exec) (hb : c.code = cc) (hown : s.vm.findClass own = some m.cls) (hts : ∀ w ∈ tbl, w.before args s = true) (hd : pm_dec cc pc i)
    (hK : va_K D cl (pm_tys cA NC) s) (hR : pm_R D cl cA base sp ad z H) (hS : va_S (fun q : Nat => base ≤ q) s.heap H locs)
    (hF : ∀ idx q, fldp idx = some q → pm_okf cl tbl own idx q ∧ pm_okp cl q meth.name) (hnet : ∃ T N, cl[net]? = some (NC, T, N))
    (h : pm_hb fldp net i pc L st z = some r)
    (k : ∀ (H1 : Heap) (locs1 : List Loc), pm_R D cl cA base sp ad r.2 H1 → va_S (fun q : Nat => base ≤ q) s.heap H1 locs1 → W p l e R s m args below meth c H1 locs1 cells slots Q (F0 m r.1.1 ls (r.1.2.2.map (pm_v ad)))) : W p l e R s m args below meth c H locs cells slots Q (F0 m pc ls (st.map (pm_v ad))) := by
  obtain ⟨hP, hD, hA, hn⟩ := hR
  unfold pm_hb at h
  split at h
  · next idx =>
    split at h
    · next v a t =>
      obtain ⟨q, hq, h⟩ := Option.bind_eq_some_iff.mp h
      obtain ⟨o, ho, h⟩ := Option.bind_eq_some_iff.mp h
      split at h
      · next hc =>
        cases h
        obtain ⟨hc1, hc2, hc3⟩ := hc
        obtain ⟨⟨C, T, N, ty, h1, h2, h3, h4, h5, h6, h7, h8⟩, hfin⟩ := hF _ _ hq
        obtain ⟨g1, g2⟩ := pm_obj_some ho
        have hw : (pm_ws cA ad z)[a]? = some (ad a, .inr (q.1, o.2.map (pm_v ad))) := by
          rw [pm_ws_get g1 g2]
          show some (ad a, (Sum.inr (o.1, o.2.map (pm_v ad)) : va_E)) = _
          rw [hc1]
        have es : (pm_ws cA ad z).set a (ad a, .inr (q.1, (o.2.map (pm_v ad)).set q.2.1 (pm_v ad v))) = pm_ws cA ad (pm_set z a (.inr (.inr (.inr (o.1, o.2.set q.2.1 v))))) := by
          rw [← pm_ws_set _ g1]
          show _ = (pm_ws cA ad z).set a (ad a, (Sum.inr (o.1, (o.2.set q.2.1 v).map (pm_v ad)) : va_E))
          rw [List.map_set, hc1]
        cases hf : (T q.2.1).2.2.2 with
        | false =>
          exact va_put (D := D) (ci := q.1) (v := pm_v ad v) (C := C) (T := T) (N := N) hx hb hts h3 ty h5 h6 hown hK hP hD hS a hw h1 q.2.1 h2 (hts _ h4) (fun _ h9 => h9) hf (h5 _ h2) (h7 ad v hc3).1 (h7 ad v hc3).2 (by rw [List.length_map]; exact hc2) (hd.of (by simp [pm_len])) (fun H1 locs1 hP1 hD1 hS1 => k H1 locs1 ⟨by rw [← es]; exact hP1, by rw [← es]; exact hD1, hA, hn⟩ hS1)
        | true =>
          exact va_putF (D := D) (ci := q.1) (v := pm_v ad v) (C := C) (T := T) (N := N) hx hb hts h3 ty h5 h6 hown hK hP hD hS a hw h1 q.2.1 h2 (hts _ h4) (fun _ h9 => h9) hf (hfin C T N h1 hf) (h8 hf) (h5 _ h2) (h7 ad v hc3).1 (h7 ad v hc3).2 (by rw [List.length_map]; exact hc2) (hd.of (by simp [pm_len])) (fun H1 locs1 hP1 hD1 hS1 => k H1 locs1 ⟨by rw [← es]; exact hP1, by rw [← es]; exact hD1, hA, hn⟩ hS1)
      · cases h
    · cases h
  · split at h
    · next x j a t =>
      obtain ⟨o, ho, h⟩ := Option.bind_eq_some_iff.mp h
      split at h
      · next hj =>
        cases h
        obtain ⟨g1, g2⟩ := pm_ia_some ho
        have es := pm_ws_set (cA := cA) (ad := ad) (.inl (0, o.1, upd o.2 j.toNatClampNeg x)) g1
        exact va_iast (D := D) (f := o.2) hx hb hK hP hD hS a 0 (pm_ws_get g1 g2) rfl (pm_in_iff.mp hj) (hd.of (by simp [pm_len])) (fun H1 locs1 hP1 hD1 hS1 => k H1 locs1 ⟨by rw [← es]; exact hP1, by rw [← es]; exact hD1, hA, hn⟩ hS1)
      · cases h
    · cases h
  · split at h
    · next x j a t =>
      obtain ⟨o, ho, h⟩ := Option.bind_eq_some_iff.mp h
      split at h
      · next hj =>
        cases h
        obtain ⟨g1, g2⟩ := pm_ia_some ho
        have es := pm_ws_set (cA := cA) (ad := ad) (.inl (1, o.1, upd o.2 j.toNatClampNeg (vp_nar .boolean x))) g1
        exact va_zast (D := D) (f := o.2) hx hb hK hP hD hS a 1 (pm_ws_get g1 g2) rfl (pm_in_iff.mp hj) (hd.of (by simp [pm_len])) (fun H1 locs1 hP1 hD1 hS1 => k H1 locs1 ⟨by rw [← es]; exact hP1, by rw [← es]; exact hD1, hA, hn⟩ hS1)
      · cases h
    · cases h
  · split at h
    · next x j a t =>
      obtain ⟨o, ho, h⟩ := Option.bind_eq_some_iff.mp h
      split at h
      · next hj =>
        cases h
        obtain ⟨g1, g2⟩ := pm_la_some ho
        have es := pm_ws_set (cA := cA) (ad := ad) (.inr (.inl (o.1, vp_updL o.2 j.toNatClampNeg x))) g1
        exact va_last (D := D) (f := o.2) hx hb hK hP hD hS a 2 (pm_ws_get g1 g2) rfl (pm_in_iff.mp hj) (hd.of (by simp [pm_len])) (fun H1 locs1 hP1 hD1 hS1 => k H1 locs1 ⟨by rw [← es]; exact hP1, by rw [← es]; exact hD1, hA, hn⟩ hS1)
      · cases h
    · cases h
  · split at h
    · next v j a t =>
      obtain ⟨o, ho, h⟩ := Option.bind_eq_some_iff.mp h
      obtain ⟨w, hw, h⟩ := Option.bind_eq_some_iff.mp h
      split at h
      · next hj =>
        cases h
        obtain ⟨hj, hwn⟩ := hj
        obtain ⟨T, N, hnc⟩ := hnet
        obtain ⟨g1, g2⟩ := pm_ra_some ho
        obtain ⟨g3, g4⟩ := pm_obj_some hw
        have hin := pm_in_iff.mp hj
        have hlt : j.toNatClampNeg < o.length := Nat.not_le.mp fun q => hin (Or.inr q)
        have es := pm_ws_set (cA := cA) (ad := ad) (.inr (.inr (.inl (o.set j.toNatClampNeg (some v))))) g1
        have ef : (pm_e cA ad (.inr (.inr (.inl (o.set j.toNatClampNeg (some v))))) : va_E) = .inl (cA 3, o.length, .inr (.inr (.inr (.inr (va_up (fun j => (o[j]?.join).map ad) j.toNatClampNeg (some (ad v))))))) := by
          show (Sum.inl (cA 3, (o.set j.toNatClampNeg (some v)).length, .inr (.inr (.inr (.inr (fun q => (((o.set j.toNatClampNeg (some v))[q]?).join).map ad))))) : va_E) = _
          rw [List.length_set]
          congr 7
          funext q
          unfold va_up
          by_cases hq : q = j.toNatClampNeg
          · subst hq
            rw [List.getElem?_set_self hlt]
            simp
          · rw [List.getElem?_set_ne (fun z => hq z.symm), if_neg hq]
        rw [ef] at es
        exact va_astq (D := D) (r := (NC, T, N)) (f := fun j => (o[j]?.join).map ad) hx hb hK hP hD hS a 3 v net (pm_ws_get g1 g2) rfl (vs := w.2.map (pm_v ad)) (by rw [pm_ws_get g3 g4, ← hwn]; rfl) hnc hin (hd.of (by simp [pm_len])) (fun H1 locs1 hP1 hD1 hS1 => k H1 locs1 ⟨by rw [← es]; exact hP1, by rw [← es]; exact hD1, hA, hn⟩ hS1)
      · cases h
    · cases h
  · cases h
end PMH
end
