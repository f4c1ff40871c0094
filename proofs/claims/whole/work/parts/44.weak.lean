/-! PM: what is forgotten of the variables does no harm -/
def pm_ext : List (Option Value) → List (Option Value) → Prop
  | [], [] => True
  | none :: a, _ :: b => pm_ext a b
  | some v :: a, w :: b => w = some v ∧ pm_ext a b
  | _, _ => False
theorem pm_ext.len : ∀ {a b : List (Option Value)}, pm_ext a b → a.length = b.length
  | [], [], _ => rfl
  | none :: a, _ :: b, h => congrArg (· + 1) (pm_ext.len (a := a) (b := b) h)
  | some _ :: _, _ :: _, h => congrArg (· + 1) (pm_ext.len h.2)
  | [], _ :: _, h => h.elim
  | none :: _, [], h => h.elim
  | some _ :: _, [], h => h.elim
theorem pm_ext.get : ∀ {a b : List (Option Value)} {i : Nat} {v : Value}, pm_ext a b → a[i]? = some (some v) → b[i]? = some (some v)
  | [], [], _, _, _, e => by cases e
  | none :: a, _ :: b, 0, _, _, e => by cases e
  | none :: a, _ :: b, i + 1, v, h, e => pm_ext.get (a := a) (b := b) (i := i) h e
  | some _ :: _, _ :: _, 0, v, h, e => by cases e; rw [h.1]; rfl
  | some _ :: a, _ :: b, i + 1, v, h, e => pm_ext.get (a := a) (b := b) (i := i) h.2 e
  | [], _ :: _, _, _, h, _ => h.elim
  | none :: _, [], _, _, h, _ => h.elim
  | some _ :: _, [], _, _, h, _ => h.elim
theorem pm_ext.hd : ∀ {o w : Option Value} {a b : List (Option Value)}, (o = none ∨ o = w) → pm_ext a b → pm_ext (o :: a) (w :: b)
  | none, _, _, _, _, h => h
  | some v, w, _, _, e, h => ⟨by rcases e with e | e; cases e; exact e.symm, h⟩
theorem pm_ext.set (o : Option Value) : ∀ {a b : List (Option Value)} {i : Nat}, pm_ext a b → pm_ext (a.set i o) (b.set i o)
  | [], [], _, h => h
  | none :: a, _ :: b, 0, h => pm_ext.hd (Or.inr rfl) h
  | none :: a, _ :: b, i + 1, h => pm_ext.set o (a := a) (b := b) (i := i) h
  | some _ :: a, _ :: b, 0, h => pm_ext.hd (Or.inr rfl) h.2
  | some _ :: a, _ :: b, i + 1, h => ⟨h.1, pm_ext.set o (a := a) (b := b) (i := i) h.2⟩
  | [], _ :: _, _, h => h.elim
  | none :: _, [], _, h => h.elim
  | some _ :: _, [], _, h => h.elim
theorem pm_ext.setR (o : Option Value) : ∀ {a b : List (Option Value)} {i : Nat}, pm_ext a b → a[i]? = some none → pm_ext a (b.set i o)
  | [], [], _, h, _ => h
  | none :: a, _ :: b, 0, h, _ => h
  | none :: a, _ :: b, i + 1, h, e => pm_ext.setR o (a := a) (b := b) (i := i) h e
  | some _ :: a, _ :: b, 0, h, e => by cases e
  | some _ :: a, _ :: b, i + 1, h, e => ⟨h.1, pm_ext.setR o (a := a) (b := b) (i := i) h.2 e⟩
  | [], _ :: _, _, h, _ => h.elim
  | none :: _, [], _, h, _ => h.elim
  | some _ :: _, [], _, h, _ => h.elim
theorem pm_ext.kill {a b : List (Option Value)} {i : Nat} (h : pm_ext a b) : pm_ext (pm_kill a i) (pm_kill b i) := by
  cases i with
  | zero => exact h
  | succ j =>
    rcases ha : a[j]? with _ | _ | v
    · have hb : b[j]? = none := by
        rw [List.getElem?_eq_none_iff] at ha ⊢
        rw [← h.len]; exact ha
      simp only [pm_kill, ha, hb]
      exact h
    · have e1 : pm_kill a (j + 1) = a := by simp only [pm_kill, ha]
      rw [e1]
      unfold pm_kill
      simp only
      split
      · exact h.setR none ha
      · exact h.setR none ha
      · exact h
    · have hb := h.get ha
      simp only [pm_kill, ha, hb]
      cases v <;> first | exact h | exact h.set none
section PMV
variable {i : Instr} {pc : Nat} {L0 L : List (Option Value)} {st : List Value} {z : pm_Z} {t : pm_T}
theorem pm_ldi_ext {k : Nat} {v : Value} (h : pm_ext L0 L) (e : pm_ldi L0 k = some v) : pm_ldi L k = some v := by
  unfold pm_ldi at e ⊢
  split at e
  · next x hx => rw [h.get hx]; exact e
  · cases e
theorem pm_ldl_ext {k : Nat} {v : Value} (h : pm_ext L0 L) (e : pm_ldl L0 k = some v) : pm_ldl L k = some v := by
  unfold pm_ldl at e ⊢
  split at e
  · next x hx => rw [h.get hx]; exact e
  · cases e
theorem pm_lda_ext {k : Nat} {v : Value} (h : pm_ext L0 L) (e : pm_lda L0 k = some v) : pm_lda L k = some v := by
  unfold pm_lda at e ⊢
  split at e
  · next x hx => rw [h.get hx]; exact e
  · cases e
theorem pm_ld_ext {f : List (Option Value) → Option Value} {n : Nat} (hf : ∀ v, f L0 = some v → f L = some v) (h : pm_ext L0 L) (e : (f L0).map (fun v => (n, L0, v :: st)) = some t) : ∃ L', (f L).map (fun v => (n, L, v :: st)) = some (t.1, L', t.2.2) ∧ pm_ext t.2.1 L' := by
  obtain ⟨v, hv, rfl⟩ := Option.map_eq_some_iff.mp e
  exact ⟨L, by rw [hf v hv]; rfl, h⟩
theorem pm_sti_ext {k n : Nat} (h : pm_ext L0 L) (e : pm_sti L0 k st n = some t) : ∃ L', pm_sti L k st n = some (t.1, L', t.2.2) ∧ pm_ext t.2.1 L' := by
  unfold pm_sti at e ⊢
  obtain ⟨x, r, rfl, e⟩ := pm_i1_some e
  split at e
  · next hl =>
    cases e
    exact ⟨pm_sto1 L k (.int x), by show (if k < L.length then _ else _) = _; rw [if_pos (by rw [← h.len]; exact hl)], h.kill.set _⟩
  · cases e
theorem pm_stl_ext {k n : Nat} (h : pm_ext L0 L) (e : pm_stl L0 k st n = some t) : ∃ L', pm_stl L k st n = some (t.1, L', t.2.2) ∧ pm_ext t.2.1 L' := by
  unfold pm_stl at e ⊢
  obtain ⟨x, r, rfl, e⟩ := pm_l1_some e
  split at e
  · next hl =>
    cases e
    exact ⟨pm_sto2 L k (.long x), by show (if k + 1 < L.length then _ else _) = _; rw [if_pos (by rw [← h.len]; exact hl)], (h.kill.set _).set _⟩
  · cases e
theorem pm_sta_ext {k n : Nat} (h : pm_ext L0 L) (e : pm_sta L0 k st n = some t) : ∃ L', pm_sta L k st n = some (t.1, L', t.2.2) ∧ pm_ext t.2.1 L' := by
  unfold pm_sta at e ⊢
  split at e
  · next x r =>
    split at e
    · next hl =>
      cases e
      exact ⟨pm_sto1 L k (.ref x), by show (if k < L.length then _ else _) = _; rw [if_pos (by rw [← h.len]; exact hl)], h.kill.set _⟩
    · cases e
  · cases e
theorem pm_pa_ext (h : pm_ext L0 L) (e : pm_pa i pc L0 st = some t) : ∃ L', pm_pa i pc L st = some (t.1, L', t.2.2) ∧ pm_ext t.2.1 L' := by
  unfold pm_pa at e
  split at e
  · cases e; exact ⟨L, rfl, h⟩
  · cases e; exact ⟨L, rfl, h⟩
  · cases e; exact ⟨L, rfl, h⟩
  · cases e; exact ⟨L, rfl, h⟩
  · exact pm_ld_ext (f := fun L => pm_ldi L _) (fun v => pm_ldi_ext h) h e
  · exact pm_ld_ext (f := fun L => pm_ldi L _) (fun v => pm_ldi_ext h) h e
  · exact pm_ld_ext (f := fun L => pm_ldl L _) (fun v => pm_ldl_ext h) h e
  · exact pm_ld_ext (f := fun L => pm_ldl L _) (fun v => pm_ldl_ext h) h e
  · exact pm_ld_ext (f := fun L => pm_lda L _) (fun v => pm_lda_ext h) h e
  · exact pm_ld_ext (f := fun L => pm_lda L _) (fun v => pm_lda_ext h) h e
  · exact pm_sti_ext h e
  · exact pm_sti_ext h e
  · exact pm_stl_ext h e
  · exact pm_stl_ext h e
  · exact pm_sta_ext h e
  · exact pm_sta_ext h e
  · next k n =>
    split at e
    · next x hx =>
      cases e
      refine ⟨pm_sto1 L k (.int (x + Int32.ofInt n)), ?_, h.kill.set _⟩
      unfold pm_pa
      simp only [h.get hx]
    · cases e
  · obtain ⟨v, r, rfl, h9⟩ := pm_v1_some e
    split at h9
    · next hc => cases h9; exact ⟨L, by show (if _ then _ else _) = _; rw [if_pos hc], h⟩
    · cases h9
  · obtain ⟨v, r, rfl, h9⟩ := pm_v1_some e
    split at h9
    · next hc => cases h9; exact ⟨L, by show (if _ then _ else _) = _; rw [if_pos hc], h⟩
    · cases h9
  · split at e
    · cases e; exact ⟨L, rfl, h⟩
    · cases e; exact ⟨L, rfl, h⟩
    · cases e; exact ⟨L, rfl, h⟩
    · cases e
  · cases e
theorem pm_pb_ext (e : pm_pb i pc L0 st = some t) : (∀ L, pm_pb i pc L st = some (t.1, L, t.2.2)) ∧ t.2.1 = L0 ∧ ∀ L, pm_pa i pc L st = none := by
  unfold pm_pb at e
  split at e
  all_goals first
    | (obtain ⟨x, y, r, rfl, e⟩ := pm_i2_some e; cases e; exact ⟨fun _ => rfl, rfl, fun _ => rfl⟩)
    | (obtain ⟨x, r, rfl, e⟩ := pm_i1_some e; cases e; exact ⟨fun _ => rfl, rfl, fun _ => rfl⟩)
    | (obtain ⟨x, y, r, rfl, h9⟩ := pm_i2_some e
       split at h9
       · cases h9
       · next hc => cases h9; exact ⟨fun _ => (by show (if _ then _ else _) = _; rw [if_neg hc]), rfl, fun _ => rfl⟩)
    | cases e
theorem pm_pc_ext (e : pm_pc i pc L0 st = some t) : (∀ L, pm_pc i pc L st = some (t.1, L, t.2.2)) ∧ t.2.1 = L0 ∧ (∀ L, pm_pa i pc L st = none) ∧ ∀ L, pm_pb i pc L st = none := by
  unfold pm_pc at e
  split at e
  all_goals first
    | (obtain ⟨x, y, r, rfl, e⟩ := pm_l2_some e; cases e; exact ⟨fun _ => rfl, rfl, fun _ => rfl, fun _ => rfl⟩)
    | (obtain ⟨x, r, rfl, e⟩ := pm_l1_some e; cases e; exact ⟨fun _ => rfl, rfl, fun _ => rfl, fun _ => rfl⟩)
    | (obtain ⟨x, y, r, rfl, e⟩ := pm_li_some e; cases e; exact ⟨fun _ => rfl, rfl, fun _ => rfl, fun _ => rfl⟩)
    | (obtain ⟨x, y, r, rfl, h9⟩ := pm_l2_some e
       split at h9
       · cases h9
       · next hc => cases h9; exact ⟨fun _ => (by show (if _ then _ else _) = _; rw [if_neg hc]), rfl, fun _ => rfl, fun _ => rfl⟩)
    | cases e
theorem pm_pd_ext (e : pm_pd i pc L0 st = some t) : (∀ L, pm_pd i pc L st = some (t.1, L, t.2.2)) ∧ t.2.1 = L0 ∧ (∀ L, pm_pa i pc L st = none) ∧ (∀ L, pm_pb i pc L st = none) ∧ ∀ L, pm_pc i pc L st = none := by
  unfold pm_pd at e
  split at e
  · obtain ⟨u, hu, rfl⟩ := Option.map_eq_some_iff.mp e
    exact ⟨fun _ => by show (pm_to pc _).map _ = _; rw [hu]; rfl, rfl, fun _ => rfl, fun _ => rfl, fun _ => rfl⟩
  · obtain ⟨x, r, rfl, e⟩ := pm_i1_some e
    obtain ⟨u, hu, e⟩ := Option.bind_eq_some_iff.mp e
    refine ⟨fun L => ?_, ?_, fun _ => rfl, fun _ => rfl, fun _ => rfl⟩
    · show ((pm_to pc _).bind fun t => _) = _
      rw [hu]
      simp only [Option.bind_some]
      cases hb : pm_c0 _ x <;> rw [hb] at e <;> cases e <;> rfl
    · cases hb : pm_c0 _ x <;> rw [hb] at e <;> cases e <;> rfl
  · obtain ⟨x, y, r, rfl, e⟩ := pm_i2_some e
    obtain ⟨u, hu, e⟩ := Option.bind_eq_some_iff.mp e
    refine ⟨fun L => ?_, ?_, fun _ => rfl, fun _ => rfl, fun _ => rfl⟩
    · show ((pm_to pc _).bind fun t => _) = _
      rw [hu]
      simp only [Option.bind_some]
      cases hb : pm_c2 _ x y <;> rw [hb] at e <;> cases e <;> rfl
    · cases hb : pm_c2 _ x y <;> rw [hb] at e <;> cases e <;> rfl
  · next dd lo hi offs =>
    obtain ⟨x, r, rfl, h9⟩ := pm_i1_some e
    cases hb : (decide (x.toInt < lo) || decide (hi < x.toInt)) with
    | true =>
      rw [hb] at h9
      obtain ⟨u, hu, rfl⟩ := Option.map_eq_some_iff.mp (show (pm_to pc dd).map (fun t => (t, L0, r)) = some t from h9)
      exact ⟨fun L => by show (bif (decide (x.toInt < lo) || decide (hi < x.toInt)) then (pm_to pc dd).map (fun t => (t, L, r)) else _) = _; rw [hb, hu]; rfl, rfl, fun _ => rfl, fun _ => rfl, fun _ => rfl⟩
    | false =>
      rw [hb] at h9
      simp only [cond_false] at h9
      split at h9
      · next off ho =>
        obtain ⟨u, hu, rfl⟩ := Option.map_eq_some_iff.mp h9
        refine ⟨fun L => ?_, rfl, fun _ => rfl, fun _ => rfl, fun _ => rfl⟩
        show (bif (decide (x.toInt < lo) || decide (hi < x.toInt)) then _ else match offs[(x.toInt - lo).toNat]? with
          | some off => (pm_to pc off).map fun t => (t, L, r)
          | none => none) = _
        rw [hb, ho]
        simp only [cond_false]
        rw [hu]; rfl
      · cases h9
  · cases e
theorem pm_pure_ext (h : pm_ext L0 L) (e : pm_pure i pc L0 st = some t) : ∃ L', pm_pure i pc L st = some (t.1, L', t.2.2) ∧ pm_ext t.2.1 L' := by
  unfold pm_pure at e ⊢
  split at e
  · next u hu =>
    cases e
    obtain ⟨L', h1, h2⟩ := pm_pa_ext h hu
    exact ⟨L', by rw [h1], h2⟩
  · split at e
    · next u hu =>
      cases e
      obtain ⟨h1, h2, h3⟩ := pm_pb_ext hu
      exact ⟨L, by rw [h3 L, h1 L], by rw [h2]; exact h⟩
    · split at e
      · next u hu =>
        cases e
        obtain ⟨h1, h2, h3, h4⟩ := pm_pc_ext hu
        exact ⟨L, by rw [h3 L, h4 L, h1 L], by rw [h2]; exact h⟩
      · obtain ⟨h1, h2, h3, h4, h5⟩ := pm_pd_ext e
        exact ⟨L, by rw [h3 L, h4 L, h5 L]; exact h1 L, by rw [h2]; exact h⟩
end PMV
