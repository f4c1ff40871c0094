/-! PM: a plain machine. A cell: (kind, length, ints), (length, longs), (length, references), (kind number, fields). A reference .ref i is cell i (i below 1000), or a thing given (from 1000000 on). -/
abbrev pm_C : Type := (Nat × Nat × (Nat → Int32)) ⊕ ((Nat × (Nat → Int64)) ⊕ (List (Option Nat) ⊕ (Nat × List Value)))
abbrev pm_H : Type := Nat → pm_C
/-- heap, next number, cells made, slots made -/
abbrev pm_Z : Type := pm_H × Nat × Nat × Nat
abbrev pm_O : Type := Option Value ⊕ String
/-- pc, variables, stack -/
abbrev pm_T : Type := Nat × List (Option Value) × List Value
abbrev pm_F : Type := Nat → List Value → pm_Z → Option (pm_O × pm_Z)
def pm_i1 {α : Type} (st : List Value) (k : Int32 → List Value → Option α) : Option α := match st with
  | .int x :: r => k x r
  | _ => none
def pm_i2 {α : Type} (st : List Value) (k : Int32 → Int32 → List Value → Option α) : Option α := match st with
  | .int y :: .int x :: r => k x y r
  | _ => none
def pm_l1 {α : Type} (st : List Value) (k : Int64 → List Value → Option α) : Option α := match st with
  | .long x :: r => k x r
  | _ => none
def pm_l2 {α : Type} (st : List Value) (k : Int64 → Int64 → List Value → Option α) : Option α := match st with
  | .long y :: .long x :: r => k x y r
  | _ => none
def pm_li {α : Type} (st : List Value) (k : Int64 → Int32 → List Value → Option α) : Option α := match st with
  | .int y :: .long x :: r => k x y r
  | _ => none
def pm_v1 {α : Type} (st : List Value) (k : Value → List Value → Option α) : Option α := match st with
  | v :: r => k v r
  | _ => none
def pm_v2 {α : Type} (st : List Value) (k : Value → Value → List Value → Option α) : Option α := match st with
  | v :: w :: r => k v w r
  | _ => none
/-- a place to jump to -/
def pm_to (pc : Nat) (off : Int) : Option Nat := match (pc : Int) + off with
  | .ofNat t => some t
  | .negSucc _ => none
def pm_kill (L : List (Option Value)) (i : Nat) : List (Option Value) := match i with
  | 0 => L
  | j + 1 => match L[j]? with
    | some (some (.long _)) => L.set j none
    | some (some (.double _)) => L.set j none
    | _ => L
def pm_sto1 (L : List (Option Value)) (i : Nat) (v : Value) : List (Option Value) := (pm_kill L i).set i (some v)
def pm_sto2 (L : List (Option Value)) (i : Nat) (v : Value) : List (Option Value) := ((pm_kill L i).set i (some v)).set (i + 1) none
def pm_ldi (L : List (Option Value)) (i : Nat) : Option Value := match L[i]? with
  | some (some (.int x)) => some (.int x)
  | _ => none
def pm_ldl (L : List (Option Value)) (i : Nat) : Option Value := match L[i]? with
  | some (some (.long x)) => some (.long x)
  | _ => none
def pm_lda (L : List (Option Value)) (i : Nat) : Option Value := match L[i]? with
  | some (some (.ref x)) => some (.ref x)
  | _ => none
def pm_sti (L : List (Option Value)) (i : Nat) (st : List Value) (pc : Nat) : Option pm_T := pm_i1 st fun x r => if i < L.length then some (pc, pm_sto1 L i (.int x), r) else none
def pm_stl (L : List (Option Value)) (i : Nat) (st : List Value) (pc : Nat) : Option pm_T := pm_l1 st fun x r => if i + 1 < L.length then some (pc, pm_sto2 L i (.long x), r) else none
def pm_sta (L : List (Option Value)) (i : Nat) (st : List Value) (pc : Nat) : Option pm_T := match st with
  | .ref x :: r => if i < L.length then some (pc, pm_sto1 L i (.ref x), r) else none
  | _ => none
/-- constants, loads, stores, the stack -/
def pm_pa (i : Instr) (pc : Nat) (L : List (Option Value)) (st : List Value) : Option pm_T := match i with
  | .iconst n => some (pc + 1, L, .int (Int32.ofInt n) :: st)
  | .bipush n => some (pc + 2, L, .int (Int8.ofInt n).toInt32 :: st)
  | .sipush n => some (pc + 3, L, .int (Int16.ofInt n).toInt32 :: st)
  | .lconst n => some (pc + 1, L, .long (Int64.ofNat (n : Nat)) :: st)
  | .iload_n k => (pm_ldi L k).map fun v => (pc + 1, L, v :: st)
  | .iload k => (pm_ldi L k).map fun v => (pc + 2, L, v :: st)
  | .lload_n k => (pm_ldl L k).map fun v => (pc + 1, L, v :: st)
  | .lload k => (pm_ldl L k).map fun v => (pc + 2, L, v :: st)
  | .aload_n k => (pm_lda L k).map fun v => (pc + 1, L, v :: st)
  | .aload k => (pm_lda L k).map fun v => (pc + 2, L, v :: st)
  | .istore_n k => pm_sti L k st (pc + 1)
  | .istore k => pm_sti L k st (pc + 2)
  | .lstore_n k => pm_stl L k st (pc + 1)
  | .lstore k => pm_stl L k st (pc + 2)
  | .astore_n k => pm_sta L k st (pc + 1)
  | .astore k => pm_sta L k st (pc + 2)
  | .iinc k n => match L[k]? with
    | some (some (.int x)) => some (pc + 3, pm_sto1 L k (.int (x + Int32.ofInt n)), st)
    | _ => none
  | .dup => pm_v1 st fun v r => if v.category = 1 then some (pc + 1, L, v :: v :: r) else none
  | .pop => pm_v1 st fun v r => if v.category = 1 then some (pc + 1, L, r) else none
  | .dup2 => match st with
    | .long x :: r => some (pc + 1, L, .long x :: .long x :: r)
    | .int x :: .int w :: r => some (pc + 1, L, .int x :: .int w :: .int x :: .int w :: r)
    | .int x :: .ref w :: r => some (pc + 1, L, .int x :: .ref w :: .int x :: .ref w :: r)
    | _ => none
  | _ => none
/-- ints -/
def pm_pb (i : Instr) (pc : Nat) (L : List (Option Value)) (st : List Value) : Option pm_T := match i with
  | .iadd => pm_i2 st fun x y r => some (pc + 1, L, .int (x + y) :: r)
  | .isub => pm_i2 st fun x y r => some (pc + 1, L, .int (x - y) :: r)
  | .imul => pm_i2 st fun x y r => some (pc + 1, L, .int (x * y) :: r)
  | .iand => pm_i2 st fun x y r => some (pc + 1, L, .int (x &&& y) :: r)
  | .ior => pm_i2 st fun x y r => some (pc + 1, L, .int (x ||| y) :: r)
  | .ixor => pm_i2 st fun x y r => some (pc + 1, L, .int (x ^^^ y) :: r)
  | .idiv => pm_i2 st fun x y r => if y = 0 then none else some (pc + 1, L, .int (x / y) :: r)
  | .irem => pm_i2 st fun x y r => if y = 0 then none else some (pc + 1, L, .int (x - x / y * y) :: r)
  | .ishl => pm_i2 st fun x y r => some (pc + 1, L, .int (x <<< (y &&& 31)) :: r)
  | .ishr => pm_i2 st fun x y r => some (pc + 1, L, .int (x >>> (y &&& 31)) :: r)
  | .iushr => pm_i2 st fun x y r => some (pc + 1, L, .int (x.toUInt32 >>> (y.toUInt32 &&& Int32.toUInt32 31)).toInt32 :: r)
  | .ineg => pm_i1 st fun x r => some (pc + 1, L, .int (-x) :: r)
  | .i2l => pm_i1 st fun x r => some (pc + 1, L, .long x.toInt64 :: r)
  | .i2c => pm_i1 st fun x r => some (pc + 1, L, .int (x.toUInt32 % 65536).toInt32 :: r)
  | _ => none
/-- longs -/
def pm_pc (i : Instr) (pc : Nat) (L : List (Option Value)) (st : List Value) : Option pm_T := match i with
  | .ladd => pm_l2 st fun x y r => some (pc + 1, L, .long (x + y) :: r)
  | .lsub => pm_l2 st fun x y r => some (pc + 1, L, .long (x - y) :: r)
  | .lmul => pm_l2 st fun x y r => some (pc + 1, L, .long (x * y) :: r)
  | .land => pm_l2 st fun x y r => some (pc + 1, L, .long (x &&& y) :: r)
  | .lor => pm_l2 st fun x y r => some (pc + 1, L, .long (x ||| y) :: r)
  | .lxor => pm_l2 st fun x y r => some (pc + 1, L, .long (x ^^^ y) :: r)
  | .ldiv => pm_l2 st fun x y r => if y = 0 then none else some (pc + 1, L, .long (x / y) :: r)
  | .lshl => pm_li st fun x y r => some (pc + 1, L, .long (x <<< (y.toInt64 &&& 63)) :: r)
  | .lshr => pm_li st fun x y r => some (pc + 1, L, .long (x >>> (y.toInt64 &&& 63)) :: r)
  | .lushr => pm_li st fun x y r => some (pc + 1, L, .long (x.toUInt64 >>> (y.toInt64.toUInt64 &&& Int64.toUInt64 63)).toInt64 :: r)
  | .lneg => pm_l1 st fun x r => some (pc + 1, L, .long (-x) :: r)
  | .l2i => pm_l1 st fun x r => some (pc + 1, L, .int x.toInt32 :: r)
  | .lcmp => pm_l2 st fun x y r => some (pc + 1, L, .int (lg_cmp x y) :: r)
  | _ => none
def pm_c0 (c : ClassFile.Cond) (x : Int32) : Bool := match c with
  | .eq => decide (x = 0)
  | .ne => decide (¬ x = 0)
  | .lt => decide (x < 0)
  | .ge => decide (0 ≤ x)
  | .gt => decide (0 < x)
  | .le => decide (x ≤ 0)
def pm_c2 (c : ClassFile.Cond) (x y : Int32) : Bool := match c with
  | .eq => decide (x = y)
  | .ne => decide (¬ x = y)
  | .lt => decide (x < y)
  | .ge => decide (y ≤ x)
  | .gt => decide (y < x)
  | .le => decide (x ≤ y)
/-- jumps -/
def pm_pd (i : Instr) (pc : Nat) (L : List (Option Value)) (st : List Value) : Option pm_T := match i with
  | .goto off => (pm_to pc off).map fun t => (t, L, st)
  | .ifCond c off => pm_i1 st fun x r => (pm_to pc off).bind fun t => bif pm_c0 c x then some (t, L, r) else some (pc + 3, L, r)
  | .if_icmp c off => pm_i2 st fun x y r => (pm_to pc off).bind fun t => bif pm_c2 c x y then some (t, L, r) else some (pc + 3, L, r)
  | .tableswitch d lo hi offs => pm_i1 st fun x r => bif decide (x.toInt < lo) || decide (hi < x.toInt) then (pm_to pc d).map (fun t => (t, L, r)) else match offs[(x.toInt - lo).toNat]? with
    | some off => (pm_to pc off).map fun t => (t, L, r)
    | none => none
  | _ => none
def pm_pure (i : Instr) (pc : Nat) (L : List (Option Value)) (st : List Value) : Option pm_T := match pm_pa i pc L st with
  | some t => some t
  | none => match pm_pb i pc L st with
    | some t => some t
    | none => match pm_pc i pc L st with
      | some t => some t
      | none => pm_pd i pc L st
def pm_len : Instr → Nat
  | .bipush _ => 2
  | .iload _ => 2
  | .lload _ => 2
  | .aload _ => 2
  | .istore _ => 2
  | .lstore _ => 2
  | .astore _ => 2
  | .ldc _ => 2
  | .newarray _ => 2
  | .sipush _ => 3
  | .iinc _ _ => 3
  | .goto _ => 3
  | .ifCond _ _ => 3
  | .if_icmp _ _ => 3
  | .ldc_w _ => 3
  | .ldc2_w _ => 3
  | .getfield _ => 3
  | .putfield _ => 3
  | .invokevirtual _ => 3
  | .invokespecial _ => 3
  | .invokestatic _ => 3
  | .new _ => 3
  | .anewarray _ => 3
  | .tableswitch _ _ _ _ => 0
  | _ => 1
def pm_dec (cc : ByteArray) (pc : Nat) (i : Instr) : Prop := ∃ len, decode cc pc = .ok (i, len) ∧ (pm_len i = 0 ∨ len = pm_len i)
/-- the frame's values as the machine has them: references by their addresses -/
def pm_v (ad : Nat → Nat) : Value → Value
  | .ref i => .ref (ad i)
  | v => v
def pm_L (ad : Nat → Nat) (nL : Nat) (L : List (Option Value)) (ls : Array Slot) : Prop := ls.size = nL ∧ L.length = nL ∧ lv_wf ls ∧ ∀ (i : Nat) (v : Value), L[i]? = some (some v) → ls[i]? = some (.val (pm_v ad v))
