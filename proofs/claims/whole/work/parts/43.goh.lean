section PMJ
variable {sc : Nat × (Nat → Int32)} {net : Nat} {P : Nat → Option pm_M} {d : Nat} {M : pm_M} {pc : Nat} {L : List (Option Value)} {st : List Value} {z : pm_Z} {r : pm_O × pm_Z} {idx a : Nat} {rest : List Value}
theorem pm_step_ha {F : pm_F} {i : Instr} {t : pm_T} (hi : pm_mi M pc = some i) (hp : pm_pure i pc L st = none) (h : pm_ha (pm_mf M) (pm_mk M) (pm_ml M) (pm_mr M) sc i pc L st z = some t) : pm_step sc net F M pc L st z = some (.inl (t, z)) := by
  unfold pm_step
  rw [hi]
  simp only [hp, h]
theorem pm_step_hb {F : pm_F} {i : Instr} {q : pm_T × pm_Z} (hi : pm_mi M pc = some i) (hp : pm_pure i pc L st = none) (ha : pm_ha (pm_mf M) (pm_mk M) (pm_ml M) (pm_mr M) sc i pc L st z = none) (h : pm_hb (pm_mp M) net i pc L st z = some q) : pm_step sc net F M pc L st z = some (.inl q) := by
  unfold pm_step
  rw [hi]
  simp only [hp, ha, h]
theorem pm_go.getf {q : Nat × Nat × Nat} {fs : List Value} {v : Value} (hi : pm_mi M pc = some (.getfield idx)) (hf : pm_mf M idx = some q) (ho : pm_obj z a = some (q.1, fs)) (hv : fs[q.2.1]? = some v) (k : pm_go sc net P d M (pc + 3, L, v :: rest) z r) : pm_go sc net P d M (pc, L, .ref a :: rest) z r := by
  refine pm_go.step ⟨0, fun N _ d' _ => pm_step_ha hi rfl ?_⟩ k
  show ((pm_mf M idx).bind fun q => (pm_obj z a).bind fun o => if o.1 = q.1 then (o.2[q.2.1]?).map fun v => (pc + 3, L, v :: rest) else none) = _
  rw [hf, Option.bind_some, ho, Option.bind_some, if_pos rfl, hv]
  rfl
theorem pm_go.iald {n : Nat} {f : Nat → Int32} {i : Int32} (hi : pm_mi M pc = some .iaload) (ha : a ≠ 1000000) (ho : pm_ia 0 z a = some (n, f)) (hin : pm_in i n = true) (k : pm_go sc net P d M (pc + 1, L, .int (f i.toNatClampNeg) :: rest) z r) : pm_go sc net P d M (pc, L, .int i :: .ref a :: rest) z r := by
  refine pm_go.step ⟨0, fun N _ d' _ => pm_step_ha hi rfl ?_⟩ k
  show (if a = 1000000 then _ else (pm_ia 0 z a).bind fun o => if pm_in i o.1 = true then some (pc + 1, L, .int (o.2 i.toNatClampNeg) :: rest) else none) = _
  rw [if_neg ha, ho, Option.bind_some, if_pos hin]
theorem pm_go.zald {n : Nat} {f : Nat → Int32} {i : Int32} (hi : pm_mi M pc = some .baload) (ho : pm_ia 1 z a = some (n, f)) (hin : pm_in i n = true) (k : pm_go sc net P d M (pc + 1, L, .int (f i.toNatClampNeg) :: rest) z r) : pm_go sc net P d M (pc, L, .int i :: .ref a :: rest) z r := by
  refine pm_go.step ⟨0, fun N _ d' _ => pm_step_ha hi rfl ?_⟩ k
  show ((pm_ia 1 z a).bind fun o => if pm_in i o.1 = true then some (pc + 1, L, .int (o.2 i.toNatClampNeg) :: rest) else none) = _
  rw [ho, Option.bind_some, if_pos hin]
theorem pm_go.lald {n : Nat} {f : Nat → Int64} {i : Int32} (hi : pm_mi M pc = some .laload) (ho : pm_la z a = some (n, f)) (hin : pm_in i n = true) (k : pm_go sc net P d M (pc + 1, L, .long (f i.toNatClampNeg) :: rest) z r) : pm_go sc net P d M (pc, L, .int i :: .ref a :: rest) z r := by
  refine pm_go.step ⟨0, fun N _ d' _ => pm_step_ha hi rfl ?_⟩ k
  show ((pm_la z a).bind fun o => if pm_in i o.1 = true then some (pc + 1, L, .long (o.2 i.toNatClampNeg) :: rest) else none) = _
  rw [ho, Option.bind_some, if_pos hin]
theorem pm_go.aald {l : List (Option Nat)} {i : Int32} {v : Nat} (hi : pm_mi M pc = some .aaload) (ho : pm_ra z a = some l) (hin : pm_in i l.length = true) (hv : l[i.toNatClampNeg]? = some (some v)) (k : pm_go sc net P d M (pc + 1, L, .ref v :: rest) z r) : pm_go sc net P d M (pc, L, .int i :: .ref a :: rest) z r := by
  refine pm_go.step ⟨0, fun N _ d' _ => pm_step_ha hi rfl ?_⟩ k
  show ((pm_ra z a).bind fun o => if pm_in i o.length = true then (match o[i.toNatClampNeg]? with
    | some (some v) => some (pc + 1, L, .ref v :: rest)
    | _ => none) else none) = _
  rw [ho, Option.bind_some, if_pos hin, hv]
theorem pm_go.putf {q : Nat × Nat × Nat} {fs : List Value} {v : Value} (hi : pm_mi M pc = some (.putfield idx)) (hf : pm_mp M idx = some q) (ho : pm_obj z a = some (q.1, fs)) (hl : q.2.1 < fs.length) (hv : pm_fit q.2.2 v = true) (k : pm_go sc net P d M (pc + 3, L, rest) (pm_set z a (.inr (.inr (.inr (q.1, fs.set q.2.1 v))))) r) : pm_go sc net P d M (pc, L, v :: .ref a :: rest) z r := by
  refine pm_go.step ⟨0, fun N _ d' _ => pm_step_hb hi rfl rfl ?_⟩ k
  show ((pm_mp M idx).bind fun q => (pm_obj z a).bind fun o => if o.1 = q.1 ∧ q.2.1 < o.2.length ∧ pm_fit q.2.2 v = true then some ((pc + 3, L, rest), pm_set z a (.inr (.inr (.inr (o.1, o.2.set q.2.1 v))))) else none) = _
  rw [hf, Option.bind_some, ho, Option.bind_some, if_pos ⟨rfl, hl, hv⟩]
theorem pm_go.iast {n : Nat} {f : Nat → Int32} {i x : Int32} (hi : pm_mi M pc = some .iastore) (ho : pm_ia 0 z a = some (n, f)) (hin : pm_in i n = true) (k : pm_go sc net P d M (pc + 1, L, rest) (pm_set z a (.inl (0, n, upd f i.toNatClampNeg x))) r) : pm_go sc net P d M (pc, L, .int x :: .int i :: .ref a :: rest) z r := by
  refine pm_go.step ⟨0, fun N _ d' _ => pm_step_hb hi rfl rfl ?_⟩ k
  show ((pm_ia 0 z a).bind fun o => if pm_in i o.1 = true then some ((pc + 1, L, rest), pm_set z a (.inl (0, o.1, upd o.2 i.toNatClampNeg x))) else none) = _
  rw [ho, Option.bind_some, if_pos hin]
theorem pm_go.zast {n : Nat} {f : Nat → Int32} {i x : Int32} (hi : pm_mi M pc = some .bastore) (ho : pm_ia 1 z a = some (n, f)) (hin : pm_in i n = true) (k : pm_go sc net P d M (pc + 1, L, rest) (pm_set z a (.inl (1, n, upd f i.toNatClampNeg (vp_nar .boolean x)))) r) : pm_go sc net P d M (pc, L, .int x :: .int i :: .ref a :: rest) z r := by
  refine pm_go.step ⟨0, fun N _ d' _ => pm_step_hb hi rfl rfl ?_⟩ k
  show ((pm_ia 1 z a).bind fun o => if pm_in i o.1 = true then some ((pc + 1, L, rest), pm_set z a (.inl (1, o.1, upd o.2 i.toNatClampNeg (vp_nar .boolean x)))) else none) = _
  rw [ho, Option.bind_some, if_pos hin]
theorem pm_go.last {n : Nat} {f : Nat → Int64} {i : Int32} {x : Int64} (hi : pm_mi M pc = some .lastore) (ho : pm_la z a = some (n, f)) (hin : pm_in i n = true) (k : pm_go sc net P d M (pc + 1, L, rest) (pm_set z a (.inr (.inl (n, vp_updL f i.toNatClampNeg x)))) r) : pm_go sc net P d M (pc, L, .long x :: .int i :: .ref a :: rest) z r := by
  refine pm_go.step ⟨0, fun N _ d' _ => pm_step_hb hi rfl rfl ?_⟩ k
  show ((pm_la z a).bind fun o => if pm_in i o.1 = true then some ((pc + 1, L, rest), pm_set z a (.inr (.inl (o.1, vp_updL o.2 i.toNatClampNeg x)))) else none) = _
  rw [ho, Option.bind_some, if_pos hin]
end PMJ
