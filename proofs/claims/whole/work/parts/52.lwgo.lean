/-! the law's own run -/
def lw_go (sc : Nat × (Nat → Int32)) (t : pm_T) (z : pm_Z) (r : pm_O × pm_Z) : Prop := ∃ B, ∀ N, B ≤ N → ∀ n, B ≤ n → pm_run sc 5 (lw_F sc N) mL_law n t z = some r
def lw_cv (sc : Nat × (Nat → Int32)) (y : Nat) (vs : List Value) (z : pm_Z) (r : pm_O × pm_Z) : Prop := ∃ B, ∀ N, B ≤ N → lw_F sc N y vs z = some r
/-- the script -/
def lf_sc (sc : Nat × (Nat → Int32)) (i : Int32) : Option Int32 := if pm_in i sc.1 = true then some (sc.2 i.toNatClampNeg) else none
def lw_catw (cs : List (String × Int32)) (r : lf_R) : lf_R := match r with
  | none => none
  | some (.inl v, w) => some (.inl v, w)
  | some (.inr E, w) => match cs.find? (fun q => decide (q.1 = E)) with
    | some q => some (.inl (some (.int q.2)), w)
    | none => none
section LWG
variable {sc : Nat × (Nat → Int32)} {pc : Nat} {L L0 : List (Option Value)} {st rest As : List Value} {z z' : pm_Z} {w : lf_W} {r : pm_O × pm_Z} {y d n idx id9 ci : Nat} {vs : List Value}
theorem lw_cv.of (hy : y < 293) (hd : d ≤ 201) (h : pm_cv sc 5 pm_P d y vs z r) : lw_cv sc y vs z r := by
  obtain ⟨B, hB⟩ := h
  refine ⟨B, fun N hN => ?_⟩
  unfold lw_F
  rw [if_pos hy]
  exact hB N hN 201 hd
theorem lw_cv.help {k : Nat} {M : pm_M} {cs : List (String × Int32)} {q : pm_O × lf_W} {q' : pm_O × lf_W} (hk : lx_hs[k]? = some (M, cs)) (hl : (pm_arg vs).length ≤ pm_mL M) (hd : d ≤ 200) (h : pm_go sc 5 pm_P d M (0, pm_ini (pm_mL M) vs, []) z (lf_er q)) (hc : lw_catw cs (some q) = some q') : lw_cv sc (293 + k) vs z (lf_er q') := by
  obtain ⟨B, hB⟩ := h
  refine ⟨B, fun N hN => ?_⟩
  unfold lw_F
  rw [if_neg (by omega), show 293 + k - 293 = k by omega, hk]
  simp only
  rw [if_pos hl, hB N hN N hN 200 hd]
  obtain ⟨o, w2⟩ := q
  cases o with
  | inl v => cases hc; rfl
  | inr E =>
    unfold lw_catw at hc
    simp only at hc
    show lw_cat cs (some (.inr E, lf_em w2)) = _
    unfold lw_cat
    simp only
    split at hc
    · next q9 e1 => cases hc; rw [e1]; rfl
    · cases hc
theorem lw_go.step {t' : pm_T} (h : ∃ B, ∀ N, B ≤ N → pm_step sc 5 (lw_F sc N) mL_law pc L st z = some (.inl (t', z'))) (k : lw_go sc t' z' r) : lw_go sc (pc, L, st) z r := by
  obtain ⟨B, hB⟩ := h
  obtain ⟨B2, hB2⟩ := k
  refine ⟨B + B2 + 1, fun N hN n hn => ?_⟩
  obtain ⟨n2, rfl⟩ : ∃ n2, n = n2 + 1 := ⟨n - 1, by omega⟩
  unfold pm_run
  rw [hB N (by omega)]
  exact hB2 N (by omega) n2 (by omega)
theorem lw_go.fin (h : ∃ B, ∀ N, B ≤ N → pm_step sc 5 (lw_F sc N) mL_law pc L st z = some (.inr r)) : lw_go sc (pc, L, st) z r := by
  obtain ⟨B, hB⟩ := h
  refine ⟨B + 1, fun N hN n hn => ?_⟩
  obtain ⟨n2, rfl⟩ : ∃ n2, n = n2 + 1 := ⟨n - 1, by omega⟩
  unfold pm_run
  rw [hB N (by omega)]
theorem lw_go.wk : ∀ (n : Nat) {t t' : pm_T} {z z' : pm_Z}, pm_wk sc 5 mL_law n t z = some (.inl (t', z')) → lw_go sc t' z' r → lw_go sc t z r := by
  intro n
  induction n with
  | zero => intro t t' z z' h k; cases h; exact k
  | succ n ih =>
    intro t t' z z' h k
    obtain ⟨pc, L, st⟩ := t
    unfold pm_wk at h
    split at h
    · next q hq => exact lw_go.step (t' := q.1) (z' := q.2) ⟨0, fun N _ => pm_step_F0 hq⟩ (ih h k)
    · cases h
    · cases h
theorem lw_go.wf : ∀ (n : Nat) {t : pm_T} {z : pm_Z}, pm_wk sc 5 mL_law n t z = some (.inr r) → lw_go sc t z r := by
  intro n
  induction n with
  | zero => intro t z h; cases h
  | succ n ih =>
    intro t z h
    obtain ⟨pc, L, st⟩ := t
    unfold pm_wk at h
    split at h
    · next q hq => exact lw_go.step (t' := q.1) (z' := q.2) ⟨0, fun N _ => pm_step_F0 hq⟩ (ih h)
    · next q hq => cases h; exact lw_go.fin ⟨0, fun N _ => pm_step_F0 hq⟩
    · cases h
theorem lw_if {F : pm_F} {c : ClassFile.Cond} {off : Int} {t : Nat} {x : Int32} (hi : pm_mi mL_law pc = some (.ifCond c off)) (ht : pm_to pc off = some t) : pm_step sc 5 F mL_law pc L (.int x :: rest) z = some (.inl (((bif pm_c0 c x then t else pc + 3), L, rest), z)) := by
  unfold pm_step
  rw [hi]
  have e1 : pm_pure (.ifCond c off) pc L (.int x :: rest) = some ((bif pm_c0 c x then t else pc + 3), L, rest) := by
    show pm_pd (.ifCond c off) pc L (.int x :: rest) = _
    show ((pm_to pc off).bind fun t => bif pm_c0 c x then some (t, L, rest) else some (pc + 3, L, rest)) = _
    rw [ht]
    cases pm_c0 c x <;> rfl
  simp only [e1]
theorem lw_ic {F : pm_F} {c : ClassFile.Cond} {off : Int} {t : Nat} {x y : Int32} (hi : pm_mi mL_law pc = some (.if_icmp c off)) (ht : pm_to pc off = some t) : pm_step sc 5 F mL_law pc L (.int y :: .int x :: rest) z = some (.inl (((bif pm_c2 c x y then t else pc + 3), L, rest), z)) := by
  unfold pm_step
  rw [hi]
  have e1 : pm_pure (.if_icmp c off) pc L (.int y :: .int x :: rest) = some ((bif pm_c2 c x y then t else pc + 3), L, rest) := by
    show pm_pd (.if_icmp c off) pc L (.int y :: .int x :: rest) = _
    show ((pm_to pc off).bind fun t => bif pm_c2 c x y then some (t, L, rest) else some (pc + 3, L, rest)) = _
    rw [ht]
    cases pm_c2 c x y <;> rfl
  simp only [e1]
theorem lw_go.ifT {c : ClassFile.Cond} {off : Int} {t : Nat} {x : Int32} (hi : pm_mi mL_law pc = some (.ifCond c off)) (ht : pm_to pc off = some t) (hc : pm_c0 c x = true) (k : lw_go sc (t, L, rest) z r) : lw_go sc (pc, L, .int x :: rest) z r := lw_go.step ⟨0, fun N _ => by rw [lw_if hi ht, hc]; rfl⟩ k
theorem lw_go.ifF {c : ClassFile.Cond} {off : Int} {t : Nat} {x : Int32} (hi : pm_mi mL_law pc = some (.ifCond c off)) (ht : pm_to pc off = some t) (hc : pm_c0 c x = false) (k : lw_go sc (pc + 3, L, rest) z r) : lw_go sc (pc, L, .int x :: rest) z r := lw_go.step ⟨0, fun N _ => by rw [lw_if hi ht, hc]; rfl⟩ k
theorem lw_go.icT {c : ClassFile.Cond} {off : Int} {t : Nat} {x y : Int32} (hi : pm_mi mL_law pc = some (.if_icmp c off)) (ht : pm_to pc off = some t) (hc : pm_c2 c x y = true) (k : lw_go sc (t, L, rest) z r) : lw_go sc (pc, L, .int y :: .int x :: rest) z r := lw_go.step ⟨0, fun N _ => by rw [lw_ic hi ht, hc]; rfl⟩ k
theorem lw_go.icF {c : ClassFile.Cond} {off : Int} {t : Nat} {x y : Int32} (hi : pm_mi mL_law pc = some (.if_icmp c off)) (ht : pm_to pc off = some t) (hc : pm_c2 c x y = false) (k : lw_go sc (pc + 3, L, rest) z r) : lw_go sc (pc, L, .int y :: .int x :: rest) z r := lw_go.step ⟨0, fun N _ => by rw [lw_ic hi ht, hc]; rfl⟩ k
theorem lw_go.sub {x c : Int32} (hx : x = c) (k : lw_go sc (pc, L, .int c :: rest) z r) : lw_go sc (pc, L, .int x :: rest) z r := by
  rw [hx]
  exact k
theorem lw_go.swD {dd lo hi9 : Int} {offs : Array Int} {t : Nat} {x : Int32} (hi : pm_mi mL_law pc = some (.tableswitch dd lo hi9 offs)) (ht : pm_to pc dd = some t) (hc : x.toInt < lo ∨ hi9 < x.toInt) (k : lw_go sc (t, L, rest) z r) : lw_go sc (pc, L, .int x :: rest) z r := by
  refine lw_go.step ⟨0, fun N _ => ?_⟩ k
  unfold pm_step
  rw [hi]
  have e1 : pm_pure (.tableswitch dd lo hi9 offs) pc L (.int x :: rest) = some (t, L, rest) := by
    show (bif decide (x.toInt < lo) || decide (hi9 < x.toInt) then (pm_to pc dd).map (fun t => (t, L, rest)) else _) = _
    have e2 : (decide (x.toInt < lo) || decide (hi9 < x.toInt)) = true := by
      rcases hc with q | q
      · rw [decide_eq_true q]; rfl
      · rw [decide_eq_true q, Bool.or_true]
    rw [e2, ht]
    rfl
  simp only [e1]
theorem lw_go.wkn (h : lw_go sc (pc, L0, st) z r) (hz : r.2.2.1 = z.2.1) (hx : pm_ext L0 L) : lw_go sc (pc, L, st) z r := by
  obtain ⟨B, hB⟩ := h
  exact ⟨B, fun N hN n hn => pm_run_ext (lw_F_le _ _) n hx (hB N hN n hn) hz⟩
theorem lw_go.cSN {v : Option Value} (hi : pm_mi mL_law pc = some (.invokestatic idx)) (hm : pm_mm mL_law idx = some (4, id9, n, ci)) (hn : As.length = n) (hc : (z'.2.1 = z.2.1 ∨ (pm_okL z.2.1 L = true ∧ rest.all (pm_okv z.2.1) = true)) ∧ pm_cat rest ≤ 8) (hv : lw_cv sc id9 As z (.inl v, z')) (k : lw_go sc (pc + 3, L, v.toList ++ rest) z' r) : lw_go sc (pc, L, As.reverse ++ rest) z r := by
  obtain ⟨B, hB⟩ := hv
  refine lw_go.step ⟨B, fun N hN => pm_step_inv hi (Or.inl ⟨_, rfl⟩) ?_⟩ k
  unfold pm_hi
  simp only [hm]
  rw [pm_pop_app hn, hB N hN]
  exact pm_beh_ret hc
theorem lw_go.cV {v : Option Value} {b : Nat} {fs : List Value} (hi : pm_mi mL_law pc = some (.invokevirtual idx)) (hm : pm_mm mL_law idx = some (1, id9, n, ci)) (hn : As.length = n) (ho : pm_obj z b = some (ci, fs)) (hc : (z'.2.1 = z.2.1 ∨ (pm_okL z.2.1 L = true ∧ rest.all (pm_okv z.2.1) = true)) ∧ pm_cat rest ≤ 8) (hv : lw_cv sc id9 (.ref b :: As) z (.inl v, z')) (k : lw_go sc (pc + 3, L, v.toList ++ rest) z' r) : lw_go sc (pc, L, As.reverse ++ .ref b :: rest) z r := by
  obtain ⟨B, hB⟩ := hv
  refine lw_go.step ⟨B, fun N hN => pm_step_inv hi (Or.inr (Or.inl ⟨_, rfl⟩)) ?_⟩ k
  unfold pm_hi
  simp only [hm]
  rw [pm_pop_app hn]
  simp only [ho, Option.bind_some, if_true]
  rw [hB N hN, pm_beh_ret hc]
theorem lw_go.cVX {E : String} {b : Nat} {fs : List Value} (hi : pm_mi mL_law pc = some (.invokevirtual idx)) (hm : pm_mm mL_law idx = some (1, id9, n, ci)) (hh : pm_mh mL_law pc E = none) (hn : As.length = n) (ho : pm_obj z b = some (ci, fs)) (hc : (z'.2.1 = z.2.1 ∨ (pm_okL z.2.1 L = true ∧ rest.all (pm_okv z.2.1) = true)) ∧ pm_cat rest ≤ 8) (hv : lw_cv sc id9 (.ref b :: As) z (.inr E, z')) : lw_go sc (pc, L, As.reverse ++ .ref b :: rest) z (.inr E, z') := by
  obtain ⟨B, hB⟩ := hv
  refine lw_go.fin ⟨B, fun N hN => pm_step_inv hi (Or.inr (Or.inl ⟨_, rfl⟩)) ?_⟩
  unfold pm_hi
  simp only [hm]
  rw [pm_pop_app hn]
  simp only [ho, Option.bind_some, if_true]
  rw [hB N hN, pm_beh_thr hh hc]
theorem lw_go.rl {a : Nat} {i : Int32} {v : Int64} (hi : pm_mi mL_law pc = some .laload) (h : lf_rl w a i = some v) (k : lw_go sc (pc + 1, L, .long v :: rest) (lf_em w) r) : lw_go sc (pc, L, .int i :: .ref a :: rest) (lf_em w) r := by
  obtain ⟨o, ho, h9⟩ := Option.bind_eq_some_iff.mp h
  split at h9
  · next hc =>
    cases h9
    refine lw_go.step ⟨0, fun N _ => pm_step_ha hi rfl ?_⟩ k
    show ((pm_la (lf_em w) a).bind fun o => if pm_in i o.1 = true then some (pc + 1, L, .long (o.2 i.toNatClampNeg) :: rest) else none) = _
    rw [ho, Option.bind_some, if_pos hc]
  · cases h9
theorem lw_go.rs {i v : Int32} (hi : pm_mi mL_law pc = some .iaload) (h : lf_sc sc i = some v) (k : lw_go sc (pc + 1, L, .int v :: rest) z r) : lw_go sc (pc, L, .int i :: .ref 1000000 :: rest) z r := by
  unfold lf_sc at h
  split at h
  · next hc =>
    cases h
    refine lw_go.step ⟨0, fun N _ => pm_step_ha hi rfl ?_⟩ k
    simp only [pm_ha, pm_at, if_true, hc]
  · cases h
end LWG
