/-! PM: the heap -/
def pm_okv (n : Nat) : Value → Bool
  | .ref i => decide (i < n) || decide (1000 ≤ i)
  | _ => true
def pm_okL (n : Nat) (L : List (Option Value)) : Bool := L.all fun o => match o with
  | some v => pm_okv n v
  | none => true
def pm_okc (n : Nat) : pm_C → Bool
  | .inr (.inr (.inl l)) => l.all fun o => match o with
    | some i => decide (i < n) || decide (1000 ≤ i)
    | none => true
  | .inr (.inr (.inr o)) => o.2.all (pm_okv n)
  | _ => true
def pm_okh (z : pm_Z) : Bool := (List.range z.2.1).all fun i => pm_okc z.2.1 (z.1 i)
def pm_obj (z : pm_Z) (a : Nat) : Option (Nat × List Value) := if a < z.2.1 then match z.1 a with
  | .inr (.inr (.inr o)) => some o
  | _ => none
  else none
def pm_ia (t : Nat) (z : pm_Z) (a : Nat) : Option (Nat × (Nat → Int32)) := if a < z.2.1 then match z.1 a with
  | .inl (u, n, f) => if u = t then some (n, f) else none
  | _ => none
  else none
def pm_la (z : pm_Z) (a : Nat) : Option (Nat × (Nat → Int64)) := if a < z.2.1 then match z.1 a with
  | .inr (.inl o) => some o
  | _ => none
  else none
def pm_ra (z : pm_Z) (a : Nat) : Option (List (Option Nat)) := if a < z.2.1 then match z.1 a with
  | .inr (.inr (.inl l)) => some l
  | _ => none
  else none
/-- how long an array is, and of which kind: 0 ints, 1 booleans, 2 longs, 3 references -/
def pm_alen (z : pm_Z) (a : Nat) : Option (Nat × Nat) := if a < z.2.1 then match z.1 a with
  | .inl (u, n, _) => if u = 0 then some (0, n) else if u = 1 then some (1, n) else none
  | .inr (.inl o) => some (2, o.1)
  | .inr (.inr (.inl l)) => some (3, l.length)
  | _ => none
  else none
def pm_set (z : pm_Z) (a : Nat) (x : pm_C) : pm_Z := (va_up z.1 a x, z.2)
def pm_new (z : pm_Z) (x : pm_C) (k : Nat) : pm_Z := (va_up z.1 z.2.1 x, z.2.1 + 1, z.2.2.1 + 1, z.2.2.2 + k)
/-- what a field of a kind takes: 0 int, 1 boolean, 2 reference, 3 long -/
def pm_fit (t : Nat) (v : Value) : Bool := match t, v with
  | 0, .int _ => true
  | 1, .int x => decide (x = 0) || decide (x = 1)
  | 2, .ref _ => true
  | 3, .long _ => true
  | _, _ => false
def pm_in (i : Int32) (n : Nat) : Bool := !(decide (i < 0) || decide (n ≤ i.toNatClampNeg))
theorem pm_in_iff {i : Int32} {n : Nat} : pm_in i n = true ↔ vp_in i n := by
  simp [pm_in, vp_in]
def pm_at {α : Type} (st : List Value) (k : Int32 → Nat → List Value → Option α) : Option α := match st with
  | .int i :: .ref a :: r => k i a r
  | _ => none
def pm_rf {α : Type} (st : List Value) (k : Nat → List Value → Option α) : Option α := match st with
  | .ref a :: r => k a r
  | _ => none
theorem pm_at_some {α : Type} {st : List Value} {k : Int32 → Nat → List Value → Option α} {r : α} (h : pm_at st k = some r) : ∃ i a t, st = .int i :: .ref a :: t ∧ k i a t = some r := by
  unfold pm_at at h
  split at h
  · exact ⟨_, _, _, rfl, h⟩
  · cases h
theorem pm_rf_some {α : Type} {st : List Value} {k : Nat → List Value → Option α} {r : α} (h : pm_rf st k = some r) : ∃ a t, st = .ref a :: t ∧ k a t = some r := by
  unfold pm_rf at h
  split at h
  · exact ⟨_, _, rfl, h⟩
  · cases h
/-- reads -/
def pm_ha (fld : Nat → Option (Nat × Nat × Nat)) (cst : Nat → Option Int32) (csl : Nat → Option Int64) (csr : Nat → Option Nat) (sc : Nat × (Nat → Int32)) (i : Instr) (pc : Nat) (L : List (Option Value)) (st : List Value) (z : pm_Z) : Option pm_T := match i with
  | .ldc idx => match cst idx with
    | some v => some (pc + 2, L, .int v :: st)
    | none => (csr idx).map fun a => (pc + 2, L, .ref a :: st)
  | .ldc_w idx => (cst idx).map fun v => (pc + 3, L, .int v :: st)
  | .ldc2_w idx => (csl idx).map fun v => (pc + 3, L, .long v :: st)
  | .getfield idx => pm_rf st fun a r => (fld idx).bind fun q => (pm_obj z a).bind fun o => if o.1 = q.1 then (o.2[q.2.1]?).map fun v => (pc + 3, L, v :: r) else none
  | .arraylength => pm_rf st fun a r => if a = 1000000 then some (pc + 1, L, .int (Int32.ofNat sc.1) :: r) else (pm_alen z a).map fun n => (pc + 1, L, .int (Int32.ofNat n.2) :: r)
  | .iaload => pm_at st fun i a r => if a = 1000000 then (if pm_in i sc.1 = true then some (pc + 1, L, .int (sc.2 i.toNatClampNeg) :: r) else none) else (pm_ia 0 z a).bind fun o => if pm_in i o.1 = true then some (pc + 1, L, .int (o.2 i.toNatClampNeg) :: r) else none
  | .baload => pm_at st fun i a r => (pm_ia 1 z a).bind fun o => if pm_in i o.1 = true then some (pc + 1, L, .int (o.2 i.toNatClampNeg) :: r) else none
  | .laload => pm_at st fun i a r => (pm_la z a).bind fun o => if pm_in i o.1 = true then some (pc + 1, L, .long (o.2 i.toNatClampNeg) :: r) else none
  | .aaload => pm_at st fun i a r => (pm_ra z a).bind fun o => if pm_in i o.length = true then (match o[i.toNatClampNeg]? with
    | some (some v) => some (pc + 1, L, .ref v :: r)
    | _ => none) else none
  | _ => none
/-- writes -/
def pm_hb (fld : Nat → Option (Nat × Nat × Nat)) (net : Nat) (i : Instr) (pc : Nat) (L : List (Option Value)) (st : List Value) (z : pm_Z) : Option (pm_T × pm_Z) := match i with
  | .putfield idx => match st with
    | v :: .ref a :: r => (fld idx).bind fun q => (pm_obj z a).bind fun o => if o.1 = q.1 ∧ q.2.1 < o.2.length ∧ pm_fit q.2.2 v = true then some ((pc + 3, L, r), pm_set z a (.inr (.inr (.inr (o.1, o.2.set q.2.1 v))))) else none
    | _ => none
  | .iastore => match st with
    | .int x :: .int i :: .ref a :: r => (pm_ia 0 z a).bind fun o => if pm_in i o.1 = true then some ((pc + 1, L, r), pm_set z a (.inl (0, o.1, upd o.2 i.toNatClampNeg x))) else none
    | _ => none
  | .bastore => match st with
    | .int x :: .int i :: .ref a :: r => (pm_ia 1 z a).bind fun o => if pm_in i o.1 = true then some ((pc + 1, L, r), pm_set z a (.inl (1, o.1, upd o.2 i.toNatClampNeg (vp_nar .boolean x)))) else none
    | _ => none
  | .lastore => match st with
    | .long x :: .int i :: .ref a :: r => (pm_la z a).bind fun o => if pm_in i o.1 = true then some ((pc + 1, L, r), pm_set z a (.inr (.inl (o.1, vp_updL o.2 i.toNatClampNeg x)))) else none
    | _ => none
  | .aastore => match st with
    | .ref v :: .int i :: .ref a :: r => (pm_ra z a).bind fun o => (pm_obj z v).bind fun w => if pm_in i o.length = true ∧ w.1 = net then some ((pc + 1, L, r), pm_set z a (.inr (.inr (.inl (o.set i.toNatClampNeg (some v)))))) else none
    | _ => none
  | _ => none
/-- what is made -/
def pm_hc0 (cnw : Nat → Option (Nat × List Value)) (anw : Nat → Bool) (i : Instr) (pc : Nat) (L : List (Option Value)) (st : List Value) (z : pm_Z) : Option (pm_T × pm_Z) :=
  if z.2.1 < 1000 ∧ pm_okL z.2.1 L = true ∧ st.all (pm_okv z.2.1) = true ∧ pm_okh z = true then match i with
  | .newarray t => match st with
    | .int n :: r => if n < 0 ∨ 100000 < n.toNatClampNeg then none else match t with
      | .int => some ((pc + 2, L, .ref z.2.1 :: r), pm_new z (.inl (0, n.toNatClampNeg, fun _ => 0)) n.toNatClampNeg)
      | .boolean => some ((pc + 2, L, .ref z.2.1 :: r), pm_new z (.inl (1, n.toNatClampNeg, fun _ => 0)) n.toNatClampNeg)
      | .long => some ((pc + 2, L, .ref z.2.1 :: r), pm_new z (.inr (.inl (n.toNatClampNeg, fun _ => 0))) n.toNatClampNeg)
      | _ => none
    | _ => none
  | .anewarray idx => match st with
    | .int n :: r => if n < 0 ∨ 100000 < n.toNatClampNeg ∨ anw idx = false then none else some ((pc + 3, L, .ref z.2.1 :: r), pm_new z (.inr (.inr (.inl (List.replicate n.toNatClampNeg none)))) n.toNatClampNeg)
    | _ => none
  | .new idx => (cnw idx).map fun o => ((pc + 3, L, .ref z.2.1 :: st), pm_new z (.inr (.inr (.inr o))) o.2.length)
  | _ => none
  else none
def pm_hc (cnw : Nat → Option (Nat × List Value)) (anw : Nat → Bool) (i : Instr) (pc : Nat) (L : List (Option Value)) (st : List Value) (z : pm_Z) : Option (pm_T × pm_Z) := match i with
  | .newarray t => pm_hc0 cnw anw (.newarray t) pc L st z
  | .anewarray idx => pm_hc0 cnw anw (.anewarray idx) pc L st z
  | .new idx => pm_hc0 cnw anw (.new idx) pc L st z
  | _ => none
theorem pm_hc_some {cnw : Nat → Option (Nat × List Value)} {anw : Nat → Bool} {i : Instr} {pc : Nat} {L : List (Option Value)} {st : List Value} {z : pm_Z} {r : pm_T × pm_Z} (h : pm_hc cnw anw i pc L st z = some r) : pm_hc0 cnw anw i pc L st z = some r := by
  unfold pm_hc at h
  split at h
  · exact h
  · exact h
  · exact h
  · cases h
/-- a cell as the kit has it -/
def pm_e (cA : Nat → ClassId) (ad : Nat → Nat) : pm_C → va_E
  | .inl (t, n, f) => .inl (cA t, n, .inl f)
  | .inr (.inl o) => .inl (cA 2, o.1, .inr (.inl o.2))
  | .inr (.inr (.inl l)) => .inl (cA 3, l.length, .inr (.inr (.inr (.inr (fun j => (l[j]?.join).map ad)))))
  | .inr (.inr (.inr o)) => .inr (o.1, o.2.map (pm_v ad))
def pm_ws (cA : Nat → ClassId) (ad : Nat → Nat) (z : pm_Z) : va_W := (List.range z.2.1).map fun i => (ad i, pm_e cA ad (z.1 i))
theorem pm_ws_len (cA : Nat → ClassId) (ad : Nat → Nat) (z : pm_Z) : (pm_ws cA ad z).length = z.2.1 := by simp [pm_ws]
theorem pm_ws_get {cA : Nat → ClassId} {ad : Nat → Nat} {z : pm_Z} {a : Nat} {x : pm_C} (h : a < z.2.1) (hx : z.1 a = x) : (pm_ws cA ad z)[a]? = some (ad a, pm_e cA ad x) := by
  subst hx
  simp [pm_ws, h]
theorem pm_ws_set {cA : Nat → ClassId} {ad : Nat → Nat} {z : pm_Z} {a : Nat} (x : pm_C) (h : a < z.2.1) : (pm_ws cA ad z).set a (ad a, pm_e cA ad x) = pm_ws cA ad (pm_set z a x) := by
  apply List.ext_getElem?
  intro j
  by_cases hj : a = j
  · subst hj
    rw [List.getElem?_set_self (by rw [pm_ws_len]; exact h)]
    rw [pm_ws_get (x := x) (z := pm_set z a x) h (by simp [pm_set, va_up])]
  · rw [List.getElem?_set_ne hj]
    by_cases hl : j < z.2.1
    · rw [pm_ws_get hl rfl, pm_ws_get (z := pm_set z a x) (x := z.1 j) hl (by simp [pm_set, va_up]; exact fun q => absurd q.symm hj)]
    · rw [List.getElem?_eq_none (by rw [pm_ws_len]; omega), List.getElem?_eq_none (by rw [pm_ws_len]; exact Nat.le_of_not_lt hl)]
theorem pm_obj_some {z : pm_Z} {a : Nat} {o : Nat × List Value} (h : pm_obj z a = some o) : a < z.2.1 ∧ z.1 a = .inr (.inr (.inr o)) := by
  unfold pm_obj at h
  split at h
  · next hl =>
    split at h
    · next e => cases h; exact ⟨hl, e⟩
    · cases h
  · cases h
theorem pm_ia_some {t : Nat} {z : pm_Z} {a : Nat} {o : Nat × (Nat → Int32)} (h : pm_ia t z a = some o) : a < z.2.1 ∧ z.1 a = .inl (t, o.1, o.2) := by
  unfold pm_ia at h
  split at h
  · next hl =>
    split at h
    · next e =>
      split at h
      · next ht => cases h; subst ht; exact ⟨hl, e⟩
      · cases h
    · cases h
  · cases h
theorem pm_la_some {z : pm_Z} {a : Nat} {o : Nat × (Nat → Int64)} (h : pm_la z a = some o) : a < z.2.1 ∧ z.1 a = .inr (.inl o) := by
  unfold pm_la at h
  split at h
  · next hl =>
    split at h
    · next e => cases h; exact ⟨hl, e⟩
    · cases h
  · cases h
theorem pm_ra_some {z : pm_Z} {a : Nat} {o : List (Option Nat)} (h : pm_ra z a = some o) : a < z.2.1 ∧ z.1 a = .inr (.inr (.inl o)) := by
  unfold pm_ra at h
  split at h
  · next hl =>
    split at h
    · next e => cases h; exact ⟨hl, e⟩
    · cases h
  · cases h
