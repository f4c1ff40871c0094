theorem pm_hb_z {fldp : Nat → Option (Nat × Nat × Nat)} {net : Nat} {i : Instr} {pc : Nat} {L : List (Option Value)} {st : List Value} {z : pm_Z} {r : pm_T × pm_Z} (h : pm_hb fldp net i pc L st z = some r) : r.2.2 = z.2 ∧ r.1.2.1 = L := by
  unfold pm_hb at h
  split at h
  · split at h
    · obtain ⟨q, hq, h⟩ := Option.bind_eq_some_iff.mp h
      obtain ⟨o, ho, h⟩ := Option.bind_eq_some_iff.mp h
      split at h
      · cases h; exact ⟨rfl, rfl⟩
      · cases h
    · cases h
  · split at h
    · obtain ⟨o, ho, h⟩ := Option.bind_eq_some_iff.mp h
      split at h
      · cases h; exact ⟨rfl, rfl⟩
      · cases h
    · cases h
  · split at h
    · obtain ⟨o, ho, h⟩ := Option.bind_eq_some_iff.mp h
      split at h
      · cases h; exact ⟨rfl, rfl⟩
      · cases h
    · cases h
  · split at h
    · obtain ⟨o, ho, h⟩ := Option.bind_eq_some_iff.mp h
      split at h
      · cases h; exact ⟨rfl, rfl⟩
      · cases h
    · cases h
  · split at h
    · obtain ⟨o, ho, h⟩ := Option.bind_eq_some_iff.mp h
      obtain ⟨w, hw, h⟩ := Option.bind_eq_some_iff.mp h
      split at h
      · cases h; exact ⟨rfl, rfl⟩
      · cases h
    · cases h
  · cases h
theorem pm_ha_L {fld : Nat → Option (Nat × Nat × Nat)} {cst : Nat → Option Int32} {csl : Nat → Option Int64} {csr : Nat → Option Nat} {sc : Nat × (Nat → Int32)} {i : Instr} {pc : Nat} {L : List (Option Value)} {st : List Value} {z : pm_Z} {r : pm_T} (h : pm_ha fld cst csl csr sc i pc L st z = some r) : r.2.1 = L := by
  unfold pm_ha at h
  split at h
  · split at h
    · cases h; rfl
    · obtain ⟨a, ha, e⟩ := Option.map_eq_some_iff.mp h
      cases e; rfl
  · obtain ⟨a, ha, e⟩ := Option.map_eq_some_iff.mp h
    cases e; rfl
  · obtain ⟨a, ha, e⟩ := Option.map_eq_some_iff.mp h
    cases e; rfl
  · obtain ⟨a, t, rfl, h9⟩ := pm_rf_some h
    obtain ⟨q, hq, h9⟩ := Option.bind_eq_some_iff.mp h9
    obtain ⟨o, ho, h9⟩ := Option.bind_eq_some_iff.mp h9
    split at h9
    · obtain ⟨a, ha, e⟩ := Option.map_eq_some_iff.mp h9
      cases e; rfl
    · cases h9
  · obtain ⟨a, t, rfl, h9⟩ := pm_rf_some h
    split at h9
    · cases h9; rfl
    · obtain ⟨a, ha, e⟩ := Option.map_eq_some_iff.mp h9
      cases e; rfl
  · obtain ⟨j, a, t, rfl, h9⟩ := pm_at_some h
    split at h9
    · split at h9
      · cases h9; rfl
      · cases h9
    · obtain ⟨o, ho, h9⟩ := Option.bind_eq_some_iff.mp h9
      split at h9
      · cases h9; rfl
      · cases h9
  · obtain ⟨j, a, t, rfl, h9⟩ := pm_at_some h
    obtain ⟨o, ho, h9⟩ := Option.bind_eq_some_iff.mp h9
    split at h9
    · cases h9; rfl
    · cases h9
  · obtain ⟨j, a, t, rfl, h9⟩ := pm_at_some h
    obtain ⟨o, ho, h9⟩ := Option.bind_eq_some_iff.mp h9
    split at h9
    · cases h9; rfl
    · cases h9
  · obtain ⟨j, a, t, rfl, h9⟩ := pm_at_some h
    obtain ⟨o, ho, h9⟩ := Option.bind_eq_some_iff.mp h9
    split at h9
    · split at h9
      · cases h9; rfl
      · cases h9
    · cases h9
  · cases h
theorem pm_hc_z {cnw : Nat → Option (Nat × List Value)} {anw : Nat → Bool} {i : Instr} {pc : Nat} {L : List (Option Value)} {st : List Value} {z : pm_Z} {r : pm_T × pm_Z} (h : pm_hc cnw anw i pc L st z = some r) : ∃ x k, r.2 = pm_new z x k := by
  replace h := pm_hc_some h
  unfold pm_hc0 at h
  split at h
  · split at h
    · split at h
      · split at h
        · cases h
        · split at h
          · cases h; exact ⟨_, _, rfl⟩
          · cases h; exact ⟨_, _, rfl⟩
          · cases h; exact ⟨_, _, rfl⟩
          · cases h
      · cases h
    · split at h
      · split at h
        · cases h
        · cases h; exact ⟨_, _, rfl⟩
      · cases h
    · obtain ⟨a, ha, e⟩ := Option.map_eq_some_iff.mp h
      cases e; exact ⟨_, _, rfl⟩
    · cases h
  · cases h
theorem pm_pop_some {α : Type} {n : Nat} {st : List Value} {k : List Value → List Value → Option α} {r : α} (h : pm_pop n st k = some r) : n ≤ st.length ∧ k (st.take n).reverse (st.drop n) = some r := by
  unfold pm_pop at h
  split at h
  · next hn => exact ⟨hn, h⟩
  · cases h
/-- what a call gives, in one form -/
theorem pm_beh_some {M : pm_M} {pc : Nat} {L : List (Option Value)} {rest : List Value} {z : pm_Z} {r : Option (pm_O × pm_Z)} {g : pm_G} (h : pm_beh M pc L rest z r = some g) : ∃ o z', r = some (o, z') ∧ (z'.2.1 = z.2.1 ∨ (pm_okL z.2.1 L = true ∧ rest.all (pm_okv z.2.1) = true)) ∧ pm_cat rest ≤ 8 ∧
    ((∃ v, o = .inl v ∧ g = .inl ((pc + 3, L, v.toList ++ rest), z')) ∨ (∃ E x, o = .inr E ∧ pm_mh M pc E = some x ∧ g = .inr (.inl (some (.int x)), z')) ∨ (∃ E, o = .inr E ∧ pm_mh M pc E = none ∧ g = .inr (.inr E, z'))) := by
  unfold pm_beh at h
  split at h
  · cases h
  · next o z' =>
    split at h
    · next hc =>
      refine ⟨o, z', rfl, hc.1, hc.2, ?_⟩
      split at h
      · cases h; exact Or.inl ⟨none, rfl, rfl⟩
      · next v => cases h; exact Or.inl ⟨some v, rfl, rfl⟩
      · next E =>
        split at h
        · next x hx => cases h; exact Or.inr (Or.inl ⟨E, x, rfl, hx, rfl⟩)
        · next hx => cases h; exact Or.inr (Or.inr ⟨E, rfl, hx, rfl⟩)
    · cases h
theorem pm_beh_le {F : pm_F} (hF : pm_Fle F) {M : pm_M} {pc id : Nat} {L : List (Option Value)} {rest vs : List Value} {z : pm_Z} {g : pm_G} (h : pm_beh M pc L rest z (F id vs z) = some g) : pm_le z (pm_gz g) := by
  obtain ⟨o, z', h1, -, -, h4⟩ := pm_beh_some h
  have hl := hF _ _ _ _ _ h1
  rcases h4 with ⟨v, -, rfl⟩ | ⟨E, x, -, -, rfl⟩ | ⟨E, -, -, rfl⟩ <;> exact hl
theorem pm_only_some {r : Option (pm_O × pm_Z)} {o : pm_O} {z : pm_Z} (h : pm_only r = some (o, z)) : r = some (o, z) ∧ ∃ v, o = .inl v := by
  unfold pm_only at h
  split at h
  · next v z1 => cases h; exact ⟨rfl, v, rfl⟩
  · cases h
theorem pm_beh_le2 {F : pm_F} (hF : pm_Fle F) {M : pm_M} {pc id : Nat} {L : List (Option Value)} {rest vs : List Value} {z : pm_Z} {g : pm_G} (h : pm_beh M pc L rest z (pm_only (F id vs z)) = some g) : pm_le z (pm_gz g) := by
  obtain ⟨o, z', h1, -, -, h4⟩ := pm_beh_some h
  have hl := hF _ _ _ _ _ (pm_only_some h1).1
  rcases h4 with ⟨v, -, rfl⟩ | ⟨E, x, -, -, rfl⟩ | ⟨E, -, -, rfl⟩ <;> exact hl
theorem pm_hi_le {F : pm_F} (hF : pm_Fle F) {M : pm_M} {i : Instr} {pc : Nat} {L : List (Option Value)} {st : List Value} {z : pm_Z} {g : pm_G} (h : pm_hi F M i pc L st z = some g) : pm_le z (pm_gz g) := by
  unfold pm_hi at h
  split at h
  · split at h
    · exact pm_beh_le hF (pm_pop_some h).2
    · exact pm_beh_le2 hF (pm_pop_some h).2
    · exact pm_beh_le2 hF (pm_pop_some h).2
    · obtain ⟨x, y, t, rfl, h9⟩ := pm_i2_some h
      split at h9
      · cases h9; exact pm_le.rf z
      · cases h9
    · obtain ⟨x, y, t, rfl, h9⟩ := pm_i2_some h
      split at h9
      · cases h9; exact pm_le.rf z
      · cases h9
    · obtain ⟨x, t, rfl, h9⟩ := pm_i1_some h
      split at h9
      · cases h9; exact pm_le.rf z
      · cases h9
    · obtain ⟨x, y, t, rfl, h9⟩ := pm_l2_some h
      split at h9
      · cases h9; exact pm_le.rf z
      · cases h9
    · split at h
      · obtain ⟨f, hf, h⟩ := Option.bind_eq_some_iff.mp h
        obtain ⟨g2, hg, h⟩ := Option.bind_eq_some_iff.mp h
        split at h
        · cases h; exact pm_le.rf z
        · cases h
      · cases h
    · cases h
  · split at h
    · have h9 := (pm_pop_some h).2
      split at h9
      · obtain ⟨o, ho, h9⟩ := Option.bind_eq_some_iff.mp h9
        split at h9
        · exact pm_beh_le hF h9
        · cases h9
      · cases h9
    · split at h
      · split at h
        · cases h; exact pm_le.rf z
        · cases h
      · cases h
    · split at h
      · split at h
        · cases h; exact pm_le.rf z
        · cases h
      · cases h
    · cases h
  · split at h
    · have h9 := (pm_pop_some h).2
      split at h9
      · exact pm_beh_le2 hF h9
      · cases h9
    · have h9 := (pm_pop_some h).2
      split at h9
      · exact pm_beh_le2 hF h9
      · cases h9
    · obtain ⟨a, t, rfl, h9⟩ := pm_rf_some h
      split at h9
      · cases h9; exact pm_le.rf z
      · cases h9
    · cases h
  · cases h
theorem pm_ht_some {M : pm_M} {i : Instr} {pc : Nat} {st : List Value} {z : pm_Z} {g : pm_G} (h : pm_ht M i pc st z = some g) : ∃ idx q, i = .new idx ∧ pm_mx M idx = some q ∧ st = [] ∧ pm_mi M (pc + 3) = some .dup ∧ pm_mi M (pc + 4) = some (.invokespecial q.2) ∧ pm_mi M (pc + 7) = some .athrow ∧ g = .inr (.inr q.1, (z.1, z.2.1, z.2.2.1 + 1, z.2.2.2 + 6)) := by
  unfold pm_ht at h
  split at h
  · next idx =>
    split at h
    · next q hq =>
      split at h
      · next hc => cases h; exact ⟨idx, q, rfl, hq, hc.1, hc.2.1, hc.2.2.1, hc.2.2.2, rfl⟩
      · cases h
    · cases h
  · cases h
theorem pm_hr_some {M : pm_M} {i : Instr} {st : List Value} {z : pm_Z} {g : pm_G} (h : pm_hr M i st z = some g) : ∃ v, g = .inr (.inl v, z) ∧ ((∃ x, i = .ireturn ∧ pm_mt M = 1 ∧ st = [.int x] ∧ v = some (.int x)) ∨ (∃ x : Int32, i = .ireturn ∧ pm_mt M = 2 ∧ st = [.int x] ∧ v = some (.int x) ∧ (x = 0 ∨ x = 1)) ∨ (∃ x, i = .lreturn ∧ pm_mt M = 3 ∧ st = [.long x] ∧ v = some (.long x)) ∨ (∃ x, i = .areturn ∧ pm_mt M = 4 ∧ st = [.ref x] ∧ v = some (.ref x)) ∨ (i = .return_ ∧ pm_mt M = 0 ∧ st = [] ∧ v = none)) := by
  unfold pm_hr at h
  split at h
  · next x e1 => cases h; exact ⟨_, rfl, Or.inl ⟨x, rfl, e1, rfl, rfl⟩⟩
  · next x e1 =>
    split at h
    · next hx => cases h; exact ⟨_, rfl, Or.inr (Or.inl ⟨x, rfl, e1, rfl, rfl, hx⟩)⟩
    · cases h
  · next x e1 => cases h; exact ⟨_, rfl, Or.inr (Or.inr (Or.inl ⟨x, rfl, e1, rfl, rfl⟩))⟩
  · next x e1 => cases h; exact ⟨_, rfl, Or.inr (Or.inr (Or.inr (Or.inl ⟨x, rfl, e1, rfl, rfl⟩)))⟩
  · next e1 => cases h; exact ⟨_, rfl, Or.inr (Or.inr (Or.inr (Or.inr ⟨rfl, e1, rfl, rfl⟩)))⟩
  · cases h
/-- a step is one of these -/
theorem pm_step_some {sc : Nat × (Nat → Int32)} {net : Nat} {F : pm_F} {M : pm_M} {pc : Nat} {L : List (Option Value)} {st : List Value} {z : pm_Z} {g : pm_G} (h : pm_step sc net F M pc L st z = some g) : ∃ i, pm_mi M pc = some i ∧
    ((∃ t, pm_pure i pc L st = some t ∧ g = .inl (t, z)) ∨ (∃ t, pm_ha (pm_mf M) (pm_mk M) (pm_ml M) (pm_mr M) sc i pc L st z = some t ∧ g = .inl (t, z)) ∨ (∃ r, pm_hb (pm_mp M) net i pc L st z = some r ∧ g = .inl r) ∨ pm_ht M i pc st z = some g ∨ (∃ r, pm_hc (pm_mn M) (pm_ma M) i pc L st z = some r ∧ g = .inl r) ∨ pm_hi F M i pc L st z = some g ∨ pm_hr M i st z = some g) := by
  unfold pm_step at h
  split at h
  · cases h
  · next i hi =>
    refine ⟨i, hi, ?_⟩
    split at h
    · next t ht => cases h; exact Or.inl ⟨t, ht, rfl⟩
    · split at h
      · next t ht => cases h; exact Or.inr (Or.inl ⟨t, ht, rfl⟩)
      · split at h
        · next r hr => cases h; exact Or.inr (Or.inr (Or.inl ⟨r, hr, rfl⟩))
        · split at h
          · next r hr => cases h; exact Or.inr (Or.inr (Or.inr (Or.inl hr)))
          · split at h
            · next r hr => cases h; exact Or.inr (Or.inr (Or.inr (Or.inr (Or.inl ⟨r, hr, rfl⟩))))
            · split at h
              · next r hr => cases h; exact Or.inr (Or.inr (Or.inr (Or.inr (Or.inr (Or.inl hr)))))
              · exact Or.inr (Or.inr (Or.inr (Or.inr (Or.inr (Or.inr h)))))
theorem pm_step_le {sc : Nat × (Nat → Int32)} {net : Nat} {F : pm_F} (hF : pm_Fle F) {M : pm_M} {pc : Nat} {L : List (Option Value)} {st : List Value} {z : pm_Z} {g : pm_G} (h : pm_step sc net F M pc L st z = some g) : pm_le z (pm_gz g) := by
  obtain ⟨i, -, h | h | h | h | h | h | h⟩ := pm_step_some h
  · obtain ⟨t, -, rfl⟩ := h; exact pm_le.rf z
  · obtain ⟨t, -, rfl⟩ := h; exact pm_le.rf z
  · obtain ⟨r, h2, rfl⟩ := h
    have h1 := (pm_hb_z h2).1
    show pm_le z r.2
    unfold pm_le
    rw [h1]
    exact pm_le.rf z
  · obtain ⟨idx, q, -, -, -, -, -, -, rfl⟩ := pm_ht_some h
    exact ⟨Nat.le_refl _, Nat.le_succ _, Nat.le_add_right _ _⟩
  · obtain ⟨r, h2, rfl⟩ := h
    obtain ⟨x, k, e⟩ := pm_hc_z h2
    show pm_le z r.2
    rw [e]
    exact ⟨Nat.le_succ _, Nat.le_succ _, Nat.le_add_right _ _⟩
  · exact pm_hi_le hF h
  · obtain ⟨v, rfl, -⟩ := pm_hr_some h
    exact pm_le.rf z
theorem pm_run_le {sc : Nat × (Nat → Int32)} {net : Nat} {F : pm_F} (hF : pm_Fle F) {M : pm_M} : ∀ (n : Nat) (t : pm_T) (z : pm_Z) (o : pm_O) (z' : pm_Z), pm_run sc net F M n t z = some (o, z') → pm_le z z' := by
  intro n
  induction n with
  | zero => intro t z o z' h; cases h
  | succ n ih =>
    intro t z o z' h
    obtain ⟨pc, L, st⟩ := t
    unfold pm_run at h
    split at h
    · cases h
    · next r hr => exact (pm_step_le hF hr).tr (ih _ _ _ _ h)
    · next r hr => cases h; exact pm_step_le hF hr
theorem pm_call_le (sc : Nat × (Nat → Int32)) (net : Nat) (P : Nat → Option pm_M) (N : Nat) : ∀ d, pm_Fle (pm_call sc net P N d) := by
  intro d
  induction d with
  | zero => intro y vs z o z' h; cases h
  | succ d ih =>
    intro y vs z o z' h
    unfold pm_call at h
    split at h
    · cases h
    · split at h
      · exact pm_run_le ih _ _ _ _ _ h
      · cases h
