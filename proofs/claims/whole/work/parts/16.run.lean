/-! PM: calls, ends, runs -/
/-- a method: code, fields read, fields put, int constants, long constants, texts, makings, rows of references, calls, throws, catches, how many variables, what comes back (0 nothing, 1 int, 2 boolean, 3 long, 4 reference) -/
abbrev pm_M : Type := (Nat → Option Instr) × (Nat → Option (Nat × Nat × Nat)) × (Nat → Option (Nat × Nat × Nat)) × (Nat → Option Int32) × (Nat → Option Int64) × (Nat → Option Nat) × (Nat → Option (Nat × List Value)) × (Nat → Bool) × (Nat → Option (Nat × Nat × Nat × Nat)) × (Nat → Option (String × Nat)) × (Nat → String → Option Int32) × Nat × Nat
def pm_mi (M : pm_M) : Nat → Option Instr := M.1
def pm_mf (M : pm_M) : Nat → Option (Nat × Nat × Nat) := M.2.1
def pm_mp (M : pm_M) : Nat → Option (Nat × Nat × Nat) := M.2.2.1
def pm_mk (M : pm_M) : Nat → Option Int32 := M.2.2.2.1
def pm_ml (M : pm_M) : Nat → Option Int64 := M.2.2.2.2.1
def pm_mr (M : pm_M) : Nat → Option Nat := M.2.2.2.2.2.1
def pm_mn (M : pm_M) : Nat → Option (Nat × List Value) := M.2.2.2.2.2.2.1
def pm_ma (M : pm_M) : Nat → Bool := M.2.2.2.2.2.2.2.1
def pm_mm (M : pm_M) : Nat → Option (Nat × Nat × Nat × Nat) := M.2.2.2.2.2.2.2.2.1
def pm_mx (M : pm_M) : Nat → Option (String × Nat) := M.2.2.2.2.2.2.2.2.2.1
def pm_mh (M : pm_M) : Nat → String → Option Int32 := M.2.2.2.2.2.2.2.2.2.2.1
def pm_mL (M : pm_M) : Nat := M.2.2.2.2.2.2.2.2.2.2.2.1
def pm_mt (M : pm_M) : Nat := M.2.2.2.2.2.2.2.2.2.2.2.2
def pm_pop {α : Type} (n : Nat) (st : List Value) (k : List Value → List Value → Option α) : Option α := if n ≤ st.length then k (st.take n).reverse (st.drop n) else none
def pm_cat (st : List Value) : Nat := (st.map fun v => v.category).sum
abbrev pm_G : Type := (pm_T × pm_Z) ⊕ (pm_O × pm_Z)
/-- behind a call -/
def pm_beh (M : pm_M) (pc : Nat) (L : List (Option Value)) (rest : List Value) (z : pm_Z) (r : Option (pm_O × pm_Z)) : Option pm_G := match r with
  | none => none
  | some (o, z') => if (z'.2.1 = z.2.1 ∨ (pm_okL z.2.1 L = true ∧ rest.all (pm_okv z.2.1) = true)) ∧ pm_cat rest ≤ 8 then match o with
    | .inl none => some (.inl ((pc + 3, L, rest), z'))
    | .inl (some v) => some (.inl ((pc + 3, L, v :: rest), z'))
    | .inr E => match pm_mh M pc E with
      | some x => some (.inr (.inl (some (.int x)), z'))
      | none => some (.inr (.inr E, z'))
    else none
/-- it comes back, or PM stands still -/
def pm_only (r : Option (pm_O × pm_Z)) : Option (pm_O × pm_Z) := match r with
  | some (.inl v, z) => some (.inl v, z)
  | _ => none
def pm_abs (x : Int32) : Int32 := if 0 ≤ x then x else 0 - x
/-- calls: 0 static, 1 virtual, 2 making, 3 making in the nest, 5 static in the nest, 4 static with catches (a helper of the law); 10 Object's making, 11 max, 12 min, 13 abs, 14 min of longs, 15 arraycopy -/
def pm_hi (F : pm_F) (M : pm_M) (i : Instr) (pc : Nat) (L : List (Option Value)) (st : List Value) (z : pm_Z) : Option pm_G := match i with
  | .invokestatic idx => match pm_mm M idx with
    | some (0, id, n, _) => pm_pop n st fun As rest => pm_beh M pc L rest z (F id As z)
    | some (5, id, n, _) => pm_pop n st fun As rest => pm_beh M pc L rest z (pm_only (F id As z))
    | some (4, id, n, _) => pm_pop n st fun As rest => pm_beh M pc L rest z (pm_only (F id As z))
    | some (11, _, _, _) => pm_i2 st fun x y r => if pm_cat r ≤ 8 then some (.inl ((pc + 3, L, .int (if x < y then y else x) :: r), z)) else none
    | some (12, _, _, _) => pm_i2 st fun x y r => if pm_cat r ≤ 8 then some (.inl ((pc + 3, L, .int (if y < x then y else x) :: r), z)) else none
    | some (13, _, _, _) => pm_i1 st fun x r => if pm_cat r ≤ 8 then some (.inl ((pc + 3, L, .int (pm_abs x) :: r), z)) else none
    | some (14, _, _, _) => pm_l2 st fun x y r => if pm_cat r ≤ 8 then some (.inl ((pc + 3, L, .long (if y < x then y else x) :: r), z)) else none
    | some (15, _, _, _) => match st with
      | .int n :: .int dp :: .ref a :: .int sq :: .ref b :: r => (pm_ia 0 z b).bind fun f => (pm_ia 0 z a).bind fun g => if ¬ sq < 0 ∧ ¬ dp < 0 ∧ ¬ n < 0 ∧ sq.toNatClampNeg + n.toNatClampNeg ≤ f.1 ∧ dp.toNatClampNeg + n.toNatClampNeg ≤ g.1 ∧ pm_cat r ≤ 8 then some (.inl ((pc + 3, L, r), pm_set z a (.inl (0, g.1, va_cpy f.2 g.2 sq.toNatClampNeg dp.toNatClampNeg n.toNatClampNeg)))) else none
      | _ => none
    | _ => none
  | .invokevirtual idx => match pm_mm M idx with
    | some (1, id, n, ci) => pm_pop n st fun As rest => match rest with
      | .ref b :: r => (pm_obj z b).bind fun o => if o.1 = ci then pm_beh M pc L r z (F id (.ref b :: As) z) else none
      | _ => none
    | some (16, _, _, _) => match st with
      | .ref b :: r => if 1000001 ≤ b ∧ b < 1000008 ∧ pm_cat r ≤ 8 then some (.inl ((pc + 3, L, .int (nI (tx_len.getD (b - 1000001) 0)) :: r), z)) else none
      | _ => none
    | some (17, _, _, _) => match st with
      | .int x :: .ref b :: r => if 1000001 ≤ b ∧ b < 1000008 ∧ ¬ x < 0 ∧ x.toNatClampNeg < tx_len.getD (b - 1000001) 0 ∧ pm_cat r ≤ 8 then some (.inl ((pc + 3, L, .int ((tx_byt.getD (b - 1000001) []).getD x.toNatClampNeg 0 &&& 255) :: r), z)) else none
      | _ => none
    | _ => none
  | .invokespecial idx => match pm_mm M idx with
    | some (2, id, n, _) => pm_pop n st fun As rest => match rest with
      | .ref b :: r => pm_beh M pc L r z (pm_only (F id (.ref b :: As) z))
      | _ => none
    | some (3, id, n, _) => pm_pop n st fun As rest => match rest with
      | .ref b :: r => pm_beh M pc L r z (pm_only (F id (.ref b :: As) z))
      | _ => none
    | some (10, _, _, _) => pm_rf st fun _ r => if pm_cat r ≤ 8 then some (.inl ((pc + 3, L, r), z)) else none
    | _ => none
  | _ => none
/-- a throw: new, dup, invokespecial, athrow -/
def pm_ht (M : pm_M) (i : Instr) (pc : Nat) (st : List Value) (z : pm_Z) : Option pm_G := match i with
  | .new idx => match pm_mx M idx with
    | some q => if st = [] ∧ pm_mi M (pc + 3) = some .dup ∧ pm_mi M (pc + 4) = some (.invokespecial q.2) ∧ pm_mi M (pc + 7) = some .athrow then some (.inr (.inr q.1, (z.1, z.2.1, z.2.2.1 + 1, z.2.2.2 + 6))) else none
    | none => none
  | _ => none
/-- ends -/
def pm_hr (M : pm_M) (i : Instr) (st : List Value) (z : pm_Z) : Option pm_G := match i, pm_mt M, st with
  | .ireturn, 1, [.int x] => some (.inr (.inl (some (.int x)), z))
  | .ireturn, 2, [.int x] => if x = 0 ∨ x = 1 then some (.inr (.inl (some (.int x)), z)) else none
  | .lreturn, 3, [.long x] => some (.inr (.inl (some (.long x)), z))
  | .areturn, 4, [.ref x] => some (.inr (.inl (some (.ref x)), z))
  | .return_, 0, [] => some (.inr (.inl none, z))
  | _, _, _ => none
def pm_step (sc : Nat × (Nat → Int32)) (net : Nat) (F : pm_F) (M : pm_M) (pc : Nat) (L : List (Option Value)) (st : List Value) (z : pm_Z) : Option pm_G := match pm_mi M pc with
  | none => none
  | some i => match pm_pure i pc L st with
    | some t => some (.inl (t, z))
    | none => match pm_ha (pm_mf M) (pm_mk M) (pm_ml M) (pm_mr M) sc i pc L st z with
      | some t => some (.inl (t, z))
      | none => match pm_hb (pm_mp M) net i pc L st z with
        | some r => some (.inl r)
        | none => match pm_ht M i pc st z with
          | some r => some r
          | none => match pm_hc (pm_mn M) (pm_ma M) i pc L st z with
            | some r => some (.inl r)
            | none => match pm_hi F M i pc L st z with
              | some r => some r
              | none => pm_hr M i st z
def pm_run (sc : Nat × (Nat → Int32)) (net : Nat) (F : pm_F) (M : pm_M) : Nat → pm_T → pm_Z → Option (pm_O × pm_Z)
  | 0, _, _ => none
  | n + 1, (pc, L, st), z => match pm_step sc net F M pc L st z with
    | none => none
    | some (.inl r) => pm_run sc net F M n r.1 r.2
    | some (.inr r) => some r
def pm_arg : List Value → List (Option Value)
  | [] => []
  | v :: vs => if v.category = 2 then some v :: none :: pm_arg vs else some v :: pm_arg vs
def pm_ini (n : Nat) (vs : List Value) : List (Option Value) := pm_arg vs ++ List.replicate (n - (pm_arg vs).length) none
def pm_call (sc : Nat × (Nat → Int32)) (net : Nat) (P : Nat → Option pm_M) (N : Nat) : Nat → pm_F
  | 0 => fun _ _ _ => none
  | d + 1 => fun y vs z => match P y with
    | none => none
    | some M => if (pm_arg vs).length ≤ pm_mL M ∧ pm_mL M ≤ 30 then pm_run sc net (pm_call sc net P N d) M N (0, pm_ini (pm_mL M) vs, []) z else none
/-! nothing shrinks -/
def pm_le (z z' : pm_Z) : Prop := z.2.1 ≤ z'.2.1 ∧ z.2.2.1 ≤ z'.2.2.1 ∧ z.2.2.2 ≤ z'.2.2.2
theorem pm_le.rf (z : pm_Z) : pm_le z z := ⟨Nat.le_refl _, Nat.le_refl _, Nat.le_refl _⟩
theorem pm_le.tr {a b d : pm_Z} (h : pm_le a b) (k : pm_le b d) : pm_le a d := ⟨Nat.le_trans h.1 k.1, Nat.le_trans h.2.1 k.2.1, Nat.le_trans h.2.2 k.2.2⟩
def pm_Fle (F : pm_F) : Prop := ∀ y vs z o z', F y vs z = some (o, z') → pm_le z z'
def pm_gz : pm_G → pm_Z
  | .inl r => r.2
  | .inr r => r.2
