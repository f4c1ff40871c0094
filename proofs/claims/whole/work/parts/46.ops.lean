/-! lifted programs: heap, cells made, slots made; the number of PM's cells is fixed -/
abbrev lf_W : Type := pm_H × Nat × Nat
abbrev lf_R : Type := Option (pm_O × lf_W)
def lf_T : Nat := 118
def lf_em (w : lf_W) : pm_Z := (w.1, lf_T, w.2.1, w.2.2)
def lf_er (r : pm_O × lf_W) : pm_O × pm_Z := (r.1, lf_em r.2)
def lf_shl (x y : Int32) : Int32 := x <<< (y &&& 31)
def lf_shr (x y : Int32) : Int32 := x >>> (y &&& 31)
def lf_ushr (x y : Int32) : Int32 := (x.toUInt32 >>> (y.toUInt32 &&& Int32.toUInt32 31)).toInt32
def lf_rem (x y : Int32) : Int32 := x - x / y * y
def lf_lshl (x : Int64) (y : Int32) : Int64 := x <<< (y.toInt64 &&& 63)
def lf_lshr (x : Int64) (y : Int32) : Int64 := x >>> (y.toInt64 &&& 63)
def lf_lushr (x : Int64) (y : Int32) : Int64 := (x.toUInt64 >>> (y.toInt64.toUInt64 &&& Int64.toUInt64 63)).toInt64
def lf_max (x y : Int32) : Int32 := if x < y then y else x
def lf_min (x y : Int32) : Int32 := if y < x then y else x
def lf_lmin (x y : Int64) : Int64 := if y < x then y else x
/-- reads -/
def lf_ri (w : lf_W) (a : Nat) (i : Int32) : Option Int32 := (pm_ia 0 (lf_em w) a).bind fun o => if pm_in i o.1 = true then some (o.2 i.toNatClampNeg) else none
def lf_rz (w : lf_W) (a : Nat) (i : Int32) : Option Int32 := (pm_ia 1 (lf_em w) a).bind fun o => if pm_in i o.1 = true then some (o.2 i.toNatClampNeg) else none
def lf_rl (w : lf_W) (a : Nat) (i : Int32) : Option Int64 := (pm_la (lf_em w) a).bind fun o => if pm_in i o.1 = true then some (o.2 i.toNatClampNeg) else none
def lf_ra (w : lf_W) (a : Nat) (i : Int32) : Option Nat := (pm_ra (lf_em w) a).bind fun o => if pm_in i o.length = true then (match o[i.toNatClampNeg]? with
  | some (some v) => some v
  | _ => none) else none
def lf_fv (w : lf_W) (a ci k : Nat) : Option Value := (pm_obj (lf_em w) a).bind fun o => if o.1 = ci then o.2[k]? else none
def lf_fi (w : lf_W) (a ci k : Nat) : Option Int32 := (lf_fv w a ci k).bind fun v => match v with
  | .int x => some x
  | _ => none
def lf_fl (w : lf_W) (a ci k : Nat) : Option Int64 := (lf_fv w a ci k).bind fun v => match v with
  | .long x => some x
  | _ => none
def lf_fr (w : lf_W) (a ci k : Nat) : Option Nat := (lf_fv w a ci k).bind fun v => match v with
  | .ref x => some x
  | _ => none
def lf_len (w : lf_W) (a : Nat) : Option Int32 := (pm_alen (lf_em w) a).map fun n => Int32.ofNat n.2
def lf_is (w : lf_W) (b ci : Nat) : Bool := match pm_obj (lf_em w) b with
  | some o => Nat.beq o.1 ci
  | none => false
/-- writes -/
def lf_wi (w : lf_W) (a : Nat) (i x : Int32) : Option lf_W := (pm_ia 0 (lf_em w) a).bind fun o => if pm_in i o.1 = true then some (va_up w.1 a (.inl (0, o.1, upd o.2 i.toNatClampNeg x)), w.2) else none
def lf_wz (w : lf_W) (a : Nat) (i x : Int32) : Option lf_W := (pm_ia 1 (lf_em w) a).bind fun o => if pm_in i o.1 = true then some (va_up w.1 a (.inl (1, o.1, upd o.2 i.toNatClampNeg (vp_nar .boolean x))), w.2) else none
def lf_wl (w : lf_W) (a : Nat) (i : Int32) (x : Int64) : Option lf_W := (pm_la (lf_em w) a).bind fun o => if pm_in i o.1 = true then some (va_up w.1 a (.inr (.inl (o.1, vp_updL o.2 i.toNatClampNeg x))), w.2) else none
def lf_wf (w : lf_W) (a ci k tk : Nat) (v : Value) : Option lf_W := (pm_obj (lf_em w) a).bind fun o => if o.1 = ci ∧ k < o.2.length ∧ pm_fit tk v = true then some (va_up w.1 a (.inr (.inr (.inr (o.1, o.2.set k v)))), w.2) else none
def lf_cp (w : lf_W) (b : Nat) (sq : Int32) (a : Nat) (dp n : Int32) : Option lf_W := (pm_ia 0 (lf_em w) b).bind fun f => (pm_ia 0 (lf_em w) a).bind fun g => if ¬ sq < 0 ∧ ¬ dp < 0 ∧ ¬ n < 0 ∧ sq.toNatClampNeg + n.toNatClampNeg ≤ f.1 ∧ dp.toNatClampNeg + n.toNatClampNeg ≤ g.1 then some (va_up w.1 a (.inl (0, g.1, va_cpy f.2 g.2 sq.toNatClampNeg dp.toNatClampNeg n.toNatClampNeg)), w.2) else none
def lf_thr (E : String) (w : lf_W) : lf_R := some (.inr E, (w.1, w.2.1 + 1, w.2.2 + 6))
/-- calls -/
def lf_ci (r : lf_R) (k : Int32 → lf_W → lf_R) : lf_R := match r with
  | some (.inl (some (.int v)), w) => k v w
  | some (.inr E, w) => some (.inr E, w)
  | _ => none
def lf_cl (r : lf_R) (k : Int64 → lf_W → lf_R) : lf_R := match r with
  | some (.inl (some (.long v)), w) => k v w
  | some (.inr E, w) => some (.inr E, w)
  | _ => none
def lf_cr (r : lf_R) (k : Nat → lf_W → lf_R) : lf_R := match r with
  | some (.inl (some (.ref v)), w) => k v w
  | some (.inr E, w) => some (.inr E, w)
  | _ => none
def lf_cv (r : lf_R) (k : lf_W → lf_R) : lf_R := match r with
  | some (.inl none, w) => k w
  | some (.inr E, w) => some (.inr E, w)
  | _ => none
theorem lf_ci_some {r : lf_R} {k : Int32 → lf_W → lf_R} {q : pm_O × lf_W} (h : lf_ci r k = some q) : (∃ v w, r = some (.inl (some (.int v)), w) ∧ k v w = some q) ∨ ∃ E w, r = some (.inr E, w) ∧ q = (.inr E, w) := by
  unfold lf_ci at h
  split at h
  · exact Or.inl ⟨_, _, rfl, h⟩
  · cases h; exact Or.inr ⟨_, _, rfl, rfl⟩
  · cases h
theorem lf_cl_some {r : lf_R} {k : Int64 → lf_W → lf_R} {q : pm_O × lf_W} (h : lf_cl r k = some q) : (∃ v w, r = some (.inl (some (.long v)), w) ∧ k v w = some q) ∨ ∃ E w, r = some (.inr E, w) ∧ q = (.inr E, w) := by
  unfold lf_cl at h
  split at h
  · exact Or.inl ⟨_, _, rfl, h⟩
  · cases h; exact Or.inr ⟨_, _, rfl, rfl⟩
  · cases h
theorem lf_cr_some {r : lf_R} {k : Nat → lf_W → lf_R} {q : pm_O × lf_W} (h : lf_cr r k = some q) : (∃ v w, r = some (.inl (some (.ref v)), w) ∧ k v w = some q) ∨ ∃ E w, r = some (.inr E, w) ∧ q = (.inr E, w) := by
  unfold lf_cr at h
  split at h
  · exact Or.inl ⟨_, _, rfl, h⟩
  · cases h; exact Or.inr ⟨_, _, rfl, rfl⟩
  · cases h
theorem lf_cv_some {r : lf_R} {k : lf_W → lf_R} {q : pm_O × lf_W} (h : lf_cv r k = some q) : (∃ w, r = some (.inl none, w) ∧ k w = some q) ∨ ∃ E w, r = some (.inr E, w) ∧ q = (.inr E, w) := by
  unfold lf_cv at h
  split at h
  · exact Or.inl ⟨_, rfl, h⟩
  · cases h; exact Or.inr ⟨_, _, rfl, rfl⟩
  · cases h
/-- a call in the nest: it comes back -/
def lf_nest (r : lf_R) : lf_R := match r with
  | some (.inr _, _) => none
  | r => r
theorem lf_nest_inl {r : lf_R} {v : Option Value} {w : lf_W} (h : lf_nest r = some (.inl v, w)) : r = some (.inl v, w) := by
  unfold lf_nest at h
  split at h
  · cases h
  · exact h
theorem lf_nest_inr {r : lf_R} {E : String} {w : lf_W} (h : lf_nest r = some (.inr E, w)) : False := by
  unfold lf_nest at h
  split at h
  · cases h
  · next h2 => exact h2 _ _ h
section LFR
variable {sc : Nat × (Nat → Int32)} {net : Nat} {P : Nat → Option pm_M} {d : Nat} {M : pm_M} {pc : Nat} {L : List (Option Value)} {w w' : lf_W} {r : pm_O × pm_Z} {idx a ci fk tk : Nat} {rest : List Value}
theorem lf_lt {a : Nat} (h : a < lf_T) : a ≠ 1000000 := by
  have h1 : lf_T < 1000000 := by decide
  omega
theorem lf_go.ri {i v : Int32} (hi : pm_mi M pc = some .iaload) (h : lf_ri w a i = some v) (k : pm_go sc net P d M (pc + 1, L, .int v :: rest) (lf_em w) r) : pm_go sc net P d M (pc, L, .int i :: .ref a :: rest) (lf_em w) r := by
  obtain ⟨o, ho, h⟩ := Option.bind_eq_some_iff.mp h
  split at h
  · next hc => cases h; exact pm_go.iald hi (lf_lt (pm_ia_some ho).1) ho hc k
  · cases h
theorem lf_go.rz {i v : Int32} (hi : pm_mi M pc = some .baload) (h : lf_rz w a i = some v) (k : pm_go sc net P d M (pc + 1, L, .int v :: rest) (lf_em w) r) : pm_go sc net P d M (pc, L, .int i :: .ref a :: rest) (lf_em w) r := by
  obtain ⟨o, ho, h⟩ := Option.bind_eq_some_iff.mp h
  split at h
  · next hc => cases h; exact pm_go.zald hi ho hc k
  · cases h
theorem lf_go.rl {i : Int32} {v : Int64} (hi : pm_mi M pc = some .laload) (h : lf_rl w a i = some v) (k : pm_go sc net P d M (pc + 1, L, .long v :: rest) (lf_em w) r) : pm_go sc net P d M (pc, L, .int i :: .ref a :: rest) (lf_em w) r := by
  obtain ⟨o, ho, h⟩ := Option.bind_eq_some_iff.mp h
  split at h
  · next hc => cases h; exact pm_go.lald hi ho hc k
  · cases h
theorem lf_go.ra {i : Int32} {v : Nat} (hi : pm_mi M pc = some .aaload) (h : lf_ra w a i = some v) (k : pm_go sc net P d M (pc + 1, L, .ref v :: rest) (lf_em w) r) : pm_go sc net P d M (pc, L, .int i :: .ref a :: rest) (lf_em w) r := by
  obtain ⟨o, ho, h⟩ := Option.bind_eq_some_iff.mp h
  split at h
  · next hc =>
    split at h
    · next e1 => cases h; exact pm_go.aald hi ho hc e1 k
    · cases h
  · cases h
theorem lf_go.fv {v : Value} (hi : pm_mi M pc = some (.getfield idx)) (hf : pm_mf M idx = some (ci, fk, tk)) (h : lf_fv w a ci fk = some v) (k : pm_go sc net P d M (pc + 3, L, v :: rest) (lf_em w) r) : pm_go sc net P d M (pc, L, .ref a :: rest) (lf_em w) r := by
  obtain ⟨o, ho, h9⟩ := Option.bind_eq_some_iff.mp h
  split at h9
  · next hc =>
    obtain ⟨o1, o2⟩ := o
    cases hc
    exact pm_go.getf hi hf ho h9 k
  · cases h9
theorem lf_go.fi {v : Int32} (hi : pm_mi M pc = some (.getfield idx)) (hf : pm_mf M idx = some (ci, fk, tk)) (h : lf_fi w a ci fk = some v) (k : pm_go sc net P d M (pc + 3, L, .int v :: rest) (lf_em w) r) : pm_go sc net P d M (pc, L, .ref a :: rest) (lf_em w) r := by
  obtain ⟨o, ho, h⟩ := Option.bind_eq_some_iff.mp h
  split at h
  · cases h; exact lf_go.fv hi hf ho k
  · cases h
theorem lf_go.fl {v : Int64} (hi : pm_mi M pc = some (.getfield idx)) (hf : pm_mf M idx = some (ci, fk, tk)) (h : lf_fl w a ci fk = some v) (k : pm_go sc net P d M (pc + 3, L, .long v :: rest) (lf_em w) r) : pm_go sc net P d M (pc, L, .ref a :: rest) (lf_em w) r := by
  obtain ⟨o, ho, h⟩ := Option.bind_eq_some_iff.mp h
  split at h
  · cases h; exact lf_go.fv hi hf ho k
  · cases h
theorem lf_go.fr {v : Nat} (hi : pm_mi M pc = some (.getfield idx)) (hf : pm_mf M idx = some (ci, fk, tk)) (h : lf_fr w a ci fk = some v) (k : pm_go sc net P d M (pc + 3, L, .ref v :: rest) (lf_em w) r) : pm_go sc net P d M (pc, L, .ref a :: rest) (lf_em w) r := by
  obtain ⟨o, ho, h⟩ := Option.bind_eq_some_iff.mp h
  split at h
  · cases h; exact lf_go.fv hi hf ho k
  · cases h
theorem lf_go.len {v : Int32} (hi : pm_mi M pc = some .arraylength) (h : lf_len w a = some v) (k : pm_go sc net P d M (pc + 1, L, .int v :: rest) (lf_em w) r) : pm_go sc net P d M (pc, L, .ref a :: rest) (lf_em w) r := by
  obtain ⟨o, ho, rfl⟩ := Option.map_eq_some_iff.mp h
  have hl : a < lf_T := by
    unfold pm_alen at ho
    split at ho
    · next hl => exact hl
    · cases ho
  refine pm_go.step ⟨0, fun N _ d' _ => pm_step_ha hi rfl ?_⟩ k
  show (if a = 1000000 then _ else (pm_alen (lf_em w) a).map fun n => (pc + 1, L, .int (Int32.ofNat n.2) :: rest)) = _
  rw [if_neg (lf_lt hl), ho]
  rfl
theorem lf_go.wi {i x : Int32} (hi : pm_mi M pc = some .iastore) (h : lf_wi w a i x = some w') (k : pm_go sc net P d M (pc + 1, L, rest) (lf_em w') r) : pm_go sc net P d M (pc, L, .int x :: .int i :: .ref a :: rest) (lf_em w) r := by
  obtain ⟨o, ho, h⟩ := Option.bind_eq_some_iff.mp h
  split at h
  · next hc => cases h; exact pm_go.iast hi ho hc k
  · cases h
theorem lf_go.wz {i x : Int32} (hi : pm_mi M pc = some .bastore) (h : lf_wz w a i x = some w') (k : pm_go sc net P d M (pc + 1, L, rest) (lf_em w') r) : pm_go sc net P d M (pc, L, .int x :: .int i :: .ref a :: rest) (lf_em w) r := by
  obtain ⟨o, ho, h⟩ := Option.bind_eq_some_iff.mp h
  split at h
  · next hc => cases h; exact pm_go.zast hi ho hc k
  · cases h
theorem lf_go.wl {i : Int32} {x : Int64} (hi : pm_mi M pc = some .lastore) (h : lf_wl w a i x = some w') (k : pm_go sc net P d M (pc + 1, L, rest) (lf_em w') r) : pm_go sc net P d M (pc, L, .long x :: .int i :: .ref a :: rest) (lf_em w) r := by
  obtain ⟨o, ho, h⟩ := Option.bind_eq_some_iff.mp h
  split at h
  · next hc => cases h; exact pm_go.last hi ho hc k
  · cases h
theorem lf_go.wf {v : Value} (hi : pm_mi M pc = some (.putfield idx)) (hf : pm_mp M idx = some (ci, fk, tk)) (h : lf_wf w a ci fk tk v = some w') (k : pm_go sc net P d M (pc + 3, L, rest) (lf_em w') r) : pm_go sc net P d M (pc, L, v :: .ref a :: rest) (lf_em w) r := by
  obtain ⟨o, ho, h9⟩ := Option.bind_eq_some_iff.mp h
  split at h9
  · next hc =>
    obtain ⟨o1, o2⟩ := o
    obtain ⟨h1, h2, h3⟩ := hc
    cases h1
    cases h9
    exact pm_go.putf hi hf ho h2 h3 k
  · cases h9
theorem lf_go.cp {sq dp n : Int32} {b x1 x2 x3 : Nat} (hi : pm_mi M pc = some (.invokestatic idx)) (hm : pm_mm M idx = some (15, x1, x2, x3)) (h : lf_cp w b sq a dp n = some w') (hc8 : pm_cat rest ≤ 8) (k : pm_go sc net P d M (pc + 3, L, rest) (lf_em w') r) : pm_go sc net P d M (pc, L, .int n :: .int dp :: .ref a :: .int sq :: .ref b :: rest) (lf_em w) r := by
  obtain ⟨f, hf, h⟩ := Option.bind_eq_some_iff.mp h
  obtain ⟨g, hg, h⟩ := Option.bind_eq_some_iff.mp h
  split at h
  · next hc =>
    cases h
    obtain ⟨c1, c2, c3, c4, c5⟩ := hc
    refine pm_go.step ⟨0, fun N _ d' _ => pm_step_inv hi (Or.inl ⟨_, rfl⟩) ?_⟩ k
    unfold pm_hi
    simp only [hm, hf, hg, Option.bind_some]
    rw [if_pos ⟨c1, c2, c3, c4, c5, hc8⟩]
    rfl
  · cases h
theorem lf_is_some {b : Nat} (h : lf_is w b ci = true) : ∃ fs, pm_obj (lf_em w) b = some (ci, fs) := by
  unfold lf_is at h
  split at h
  · next o ho => exact ⟨o.2, by rw [ho, ← Nat.eq_of_beq_eq_true h]⟩
  · cases h
theorem pm_go.ifT {z : pm_Z} {c : ClassFile.Cond} {off : Int} {t : Nat} {x : Int32} (hi : pm_mi M pc = some (.ifCond c off)) (ht : pm_to pc off = some t) (hc : pm_c0 c x = true) (k : pm_go sc net P d M (t, L, rest) z r) : pm_go sc net P d M (pc, L, .int x :: rest) z r := pm_go.ifc hi ht (fun _ => k) (fun e => by rw [hc] at e; cases e)
theorem pm_go.ifF {z : pm_Z} {c : ClassFile.Cond} {off : Int} {t : Nat} {x : Int32} (hi : pm_mi M pc = some (.ifCond c off)) (ht : pm_to pc off = some t) (hc : pm_c0 c x = false) (k : pm_go sc net P d M (pc + 3, L, rest) z r) : pm_go sc net P d M (pc, L, .int x :: rest) z r := pm_go.ifc hi ht (fun e => by rw [hc] at e; cases e) (fun _ => k)
theorem pm_go.icT {z : pm_Z} {c : ClassFile.Cond} {off : Int} {t : Nat} {x y : Int32} (hi : pm_mi M pc = some (.if_icmp c off)) (ht : pm_to pc off = some t) (hc : pm_c2 c x y = true) (k : pm_go sc net P d M (t, L, rest) z r) : pm_go sc net P d M (pc, L, .int y :: .int x :: rest) z r := pm_go.icmp hi ht (fun _ => k) (fun e => by rw [hc] at e; cases e)
theorem pm_go.icF {z : pm_Z} {c : ClassFile.Cond} {off : Int} {t : Nat} {x y : Int32} (hi : pm_mi M pc = some (.if_icmp c off)) (ht : pm_to pc off = some t) (hc : pm_c2 c x y = false) (k : pm_go sc net P d M (pc + 3, L, rest) z r) : pm_go sc net P d M (pc, L, .int y :: .int x :: rest) z r := pm_go.icmp hi ht (fun e => by rw [hc] at e; cases e) (fun _ => k)
theorem pm_go.cSX {z z' : pm_Z} {E : String} {n id9 ci : Nat} {As rest : List Value} (hi : pm_mi M pc = some (.invokestatic idx)) (hm : pm_mm M idx = some (0, id9, n, ci)) (hh : pm_mh M pc E = none) (hn : As.length = n) (hc : (z'.2.1 = z.2.1 ∨ (pm_okL z.2.1 L = true ∧ rest.all (pm_okv z.2.1) = true)) ∧ pm_cat rest ≤ 8) (hv : pm_cv sc net P d id9 As z (.inr E, z')) : pm_go sc net P d M (pc, L, As.reverse ++ rest) z (.inr E, z') := by
  obtain ⟨B, hB⟩ := hv
  refine pm_go.fin ⟨B, fun N hN d' hd => pm_step_inv hi (Or.inl ⟨_, rfl⟩) ?_⟩
  unfold pm_hi
  simp only [hm]
  rw [pm_pop_app hn, hB N hN d' hd, pm_beh_thr hh hc]
/-- a switch: nothing of what it names -/
theorem pm_go.swD {z : pm_Z} {dd lo hi9 : Int} {offs : Array Int} {t : Nat} {x : Int32} (hi : pm_mi M pc = some (.tableswitch dd lo hi9 offs)) (ht : pm_to pc dd = some t) (hc : x.toInt < lo ∨ hi9 < x.toInt) (k : pm_go sc net P d M (t, L, rest) z r) : pm_go sc net P d M (pc, L, .int x :: rest) z r := by
  refine pm_go.step ⟨0, fun N _ d' _ => ?_⟩ k
  unfold pm_step
  rw [hi]
  have e1 : pm_pure (.tableswitch dd lo hi9 offs) pc L (.int x :: rest) = some (t, L, rest) := by
    show (bif decide (x.toInt < lo) || decide (hi9 < x.toInt) then (pm_to pc dd).map (fun t => (t, L, rest)) else _) = _
    have e2 : (decide (x.toInt < lo) || decide (hi9 < x.toInt)) = true := by
      rcases hc with q | q
      · rw [decide_eq_true q]; rfl
      · rw [decide_eq_true q, Bool.or_true]
    rw [e2, ht]
    rfl
  simp only [e1]
end LFR
