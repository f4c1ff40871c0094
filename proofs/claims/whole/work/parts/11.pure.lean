theorem pm_i1_some {α : Type} {st : List Value} {k : Int32 → List Value → Option α} {r : α} (h : pm_i1 st k = some r) : ∃ x t, st = .int x :: t ∧ k x t = some r := by
  unfold pm_i1 at h
  split at h
  · exact ⟨_, _, rfl, h⟩
  · cases h
theorem pm_i2_some {α : Type} {st : List Value} {k : Int32 → Int32 → List Value → Option α} {r : α} (h : pm_i2 st k = some r) : ∃ x y t, st = .int y :: .int x :: t ∧ k x y t = some r := by
  unfold pm_i2 at h
  split at h
  · exact ⟨_, _, _, rfl, h⟩
  · cases h
theorem pm_l1_some {α : Type} {st : List Value} {k : Int64 → List Value → Option α} {r : α} (h : pm_l1 st k = some r) : ∃ x t, st = .long x :: t ∧ k x t = some r := by
  unfold pm_l1 at h
  split at h
  · exact ⟨_, _, rfl, h⟩
  · cases h
theorem pm_l2_some {α : Type} {st : List Value} {k : Int64 → Int64 → List Value → Option α} {r : α} (h : pm_l2 st k = some r) : ∃ x y t, st = .long y :: .long x :: t ∧ k x y t = some r := by
  unfold pm_l2 at h
  split at h
  · exact ⟨_, _, _, rfl, h⟩
  · cases h
theorem pm_li_some {α : Type} {st : List Value} {k : Int64 → Int32 → List Value → Option α} {r : α} (h : pm_li st k = some r) : ∃ x y t, st = .int y :: .long x :: t ∧ k x y t = some r := by
  unfold pm_li at h
  split at h
  · exact ⟨_, _, _, rfl, h⟩
  · cases h
theorem pm_v1_some {α : Type} {st : List Value} {k : Value → List Value → Option α} {r : α} (h : pm_v1 st k = some r) : ∃ x t, st = x :: t ∧ k x t = some r := by
  unfold pm_v1 at h
  split at h
  · exact ⟨_, _, rfl, h⟩
  · cases h
theorem pm_ldi_some {L : List (Option Value)} {i : Nat} {v : Value} (h : pm_ldi L i = some v) : ∃ x, v = .int x ∧ L[i]? = some (some (.int x)) := by
  unfold pm_ldi at h
  split at h
  · next x e => exact ⟨x, (Option.some.inj h).symm, e⟩
  · cases h
theorem pm_ldl_some {L : List (Option Value)} {i : Nat} {v : Value} (h : pm_ldl L i = some v) : ∃ x, v = .long x ∧ L[i]? = some (some (.long x)) := by
  unfold pm_ldl at h
  split at h
  · next x e => exact ⟨x, (Option.some.inj h).symm, e⟩
  · cases h
theorem pm_lda_some {L : List (Option Value)} {i : Nat} {v : Value} (h : pm_lda L i = some v) : ∃ x, v = .ref x ∧ L[i]? = some (some (.ref x)) := by
  unfold pm_lda at h
  split at h
  · next x e => exact ⟨x, (Option.some.inj h).symm, e⟩
  · cases h
theorem pm_to_some {pc t : Nat} {off : Int} (h : pm_to pc off = some t) : (pc : Int) + off = (t : Int) := by
  unfold pm_to at h
  split at h
  · next a e => cases h; exact e
  · cases h
theorem pm_v_cat (ad : Nat → Nat) (v : Value) : (pm_v ad v).category = v.category := by cases v <;> rfl
theorem pm_kill_len (L : List (Option Value)) (i : Nat) : (pm_kill L i).length = L.length := by
  unfold pm_kill
  split
  · rfl
  · split <;> simp
theorem pm_kill_get {L : List (Option Value)} {i j : Nat} {w : Value} (h : (pm_kill L i)[j]? = some (some w)) : L[j]? = some (some w) ∧ ¬ (j + 1 = i ∧ w.category = 2) := by
  unfold pm_kill at h
  split at h
  · exact ⟨h, fun q => by omega⟩
  · next a =>
    split at h
    · next x e =>
      by_cases hj : a = j
      · subst hj
        rw [List.getElem?_set_self (List.getElem?_eq_some_iff.mp e).1] at h
        cases h
      · rw [List.getElem?_set_ne hj] at h
        exact ⟨h, fun q => hj (by omega)⟩
    · next x e =>
      by_cases hj : a = j
      · subst hj
        rw [List.getElem?_set_self (List.getElem?_eq_some_iff.mp e).1] at h
        cases h
      · rw [List.getElem?_set_ne hj] at h
        exact ⟨h, fun q => hj (by omega)⟩
    · next h1 h2 =>
      refine ⟨h, fun q => ?_⟩
      have hj : j = a := by omega
      subst hj
      cases w with
      | long x => exact h1 x h
      | double x => exact h2 x h
      | _ => exact absurd q.2 (by simp [Value.category])
theorem pm_sto1_get {L : List (Option Value)} {i j : Nat} {v w : Value} (h : (pm_sto1 L i v)[j]? = some (some w)) : (j = i ∧ w = v) ∨ (j ≠ i ∧ L[j]? = some (some w) ∧ ¬ (j + 1 = i ∧ w.category = 2)) := by
  unfold pm_sto1 at h
  by_cases hj : i = j
  · subst hj
    left
    rw [List.getElem?_set] at h
    simp only [if_true] at h
    split at h
    · cases h; exact ⟨rfl, rfl⟩
    · cases h
  · right
    rw [List.getElem?_set_ne hj] at h
    exact ⟨fun q => hj q.symm, pm_kill_get h⟩
theorem pm_sto2_get {L : List (Option Value)} {i j : Nat} {v w : Value} (h : (pm_sto2 L i v)[j]? = some (some w)) : (j = i ∧ w = v) ∨ (j ≠ i ∧ j ≠ i + 1 ∧ L[j]? = some (some w) ∧ ¬ (j + 1 = i ∧ w.category = 2)) := by
  unfold pm_sto2 at h
  by_cases hk : i + 1 = j
  · subst hk
    rw [List.getElem?_set] at h
    simp only [if_true] at h
    split at h <;> cases h
  · rw [List.getElem?_set_ne hk] at h
    rcases pm_sto1_get (v := v) h with q | ⟨q1, q2, q3⟩
    · exact Or.inl q
    · exact Or.inr ⟨q1, fun z => hk z.symm, q2, q3⟩
/-- the listed variables, as the kit has them -/
def pm_as (ad : Nat → Nat) (L : List (Option Value)) : List (Nat × Value) := (List.range L.length).filterMap fun i => match L[i]? with
  | some (some v) => some (i, pm_v ad v)
  | _ => none
theorem pm_as_in {ad : Nat → Nat} {L : List (Option Value)} {i : Nat} {v : Value} (h : L[i]? = some (some v)) : (i, pm_v ad v) ∈ pm_as ad L := by
  refine List.mem_filterMap.mpr ⟨i, List.mem_range.mpr (List.getElem?_eq_some_iff.mp h).1, ?_⟩
  rw [h]
theorem pm_as_of {ad : Nat → Nat} {L : List (Option Value)} {q : Nat × Value} (h : q ∈ pm_as ad L) : ∃ v, L[q.1]? = some (some v) ∧ q.2 = pm_v ad v := by
  obtain ⟨i, -, hi⟩ := List.mem_filterMap.mp h
  split at hi
  · next v e => cases hi; exact ⟨v, e, rfl⟩
  · cases hi
theorem pm_L.has {ad : Nat → Nat} {nL : Nat} {L : List (Option Value)} {ls : Array Slot} (h : pm_L ad nL L ls) : lv_has ls nL (pm_as ad L) := by
  refine ⟨h.1, h.2.2.1, fun q hq => ?_⟩
  obtain ⟨v, h1, h2⟩ := pm_as_of hq
  rw [h2]
  exact h.2.2.2 _ _ h1
theorem pm_L.sto1 {ad : Nat → Nat} {nL i : Nat} {L : List (Option Value)} {ls ls' : Array Slot} {v : Value} (h : pm_L ad nL L ls) (h' : lv_has ls' nL ((i, pm_v ad v) :: (pm_as ad L).filter (fun q => !(q.1 == i) && !(q.1 + 1 == i && q.2.category == 2)))) : pm_L ad nL (pm_sto1 L i v) ls' := by
  refine ⟨h'.1, by unfold pm_sto1; rw [List.length_set, pm_kill_len]; exact h.2.1, h'.2.1, fun j w hj => ?_⟩
  rcases pm_sto1_get hj with ⟨rfl, rfl⟩ | ⟨h1, h2, h3⟩
  · exact h'.2.2 (j, pm_v ad w) List.mem_cons_self
  · refine h'.2.2 (j, pm_v ad w) (List.mem_cons_of_mem _ (List.mem_filter.mpr ⟨pm_as_in h2, ?_⟩))
    simp only [Bool.and_eq_true, Bool.not_eq_true', beq_eq_false_iff_ne, ne_eq, Bool.and_eq_false_iff, pm_v_cat]
    refine ⟨h1, ?_⟩
    by_cases q : j + 1 = i
    · exact Or.inr fun z => h3 ⟨q, z⟩
    · exact Or.inl q
theorem pm_L.sto2 {ad : Nat → Nat} {nL i : Nat} {L : List (Option Value)} {ls ls' : Array Slot} {v : Value} (h : pm_L ad nL L ls) (h' : lv_has ls' nL ((i, pm_v ad v) :: (pm_as ad L).filter (fun q => !(q.1 == i) && (!(q.1 == i + 1) && !(q.1 + 1 == i && q.2.category == 2))))) : pm_L ad nL (pm_sto2 L i v) ls' := by
  refine ⟨h'.1, by unfold pm_sto2; rw [List.length_set, List.length_set, pm_kill_len]; exact h.2.1, h'.2.1, fun j w hj => ?_⟩
  rcases pm_sto2_get hj with ⟨rfl, rfl⟩ | ⟨h1, h2, h3, h4⟩
  · exact h'.2.2 (j, pm_v ad w) List.mem_cons_self
  · refine h'.2.2 (j, pm_v ad w) (List.mem_cons_of_mem _ (List.mem_filter.mpr ⟨pm_as_in h3, ?_⟩))
    simp only [Bool.and_eq_true, Bool.not_eq_true', beq_eq_false_iff_ne, ne_eq, Bool.and_eq_false_iff, pm_v_cat]
    refine ⟨h1, h2, ?_⟩
    by_cases q : j + 1 = i
    · exact Or.inr fun z => h4 ⟨q, z⟩
    · exact Or.inl q
theorem pm_dec.of {cc : ByteArray} {pc : Nat} {i : Instr} (h : pm_dec cc pc i) (hl : pm_len i ≠ 0) : decode cc pc = .ok (i, pm_len i) := by
  obtain ⟨len, h1, h2⟩ := h
  rcases h2 with h2 | h2
  · exact absurd h2 hl
  · rw [← h2]; exact h1
