section PMV2
variable {sc : Nat × (Nat → Int32)} {net : Nat} {F : pm_F} {M : pm_M} {i : Instr} {pc : Nat} {L0 L : List (Option Value)} {st : List Value} {z : pm_Z} {t : pm_T}
theorem pm_ha_ext {fld : Nat → Option (Nat × Nat × Nat)} {cst : Nat → Option Int32} {csl : Nat → Option Int64} {csr : Nat → Option Nat} (h : pm_ha fld cst csl csr sc i pc L0 st z = some t) : (∀ L, pm_ha fld cst csl csr sc i pc L st z = some (t.1, L, t.2.2)) ∧ ∀ L, pm_pure i pc L st = none := by
  unfold pm_ha at h
  split at h
  · split at h
    · next e1 => cases h; exact ⟨fun _ => by simp only [pm_ha, e1], fun _ => rfl⟩
    · next e1 =>
      obtain ⟨a, ha, e⟩ := Option.map_eq_some_iff.mp h
      cases e; exact ⟨fun _ => by simp only [pm_ha, e1, ha]; rfl, fun _ => rfl⟩
  · obtain ⟨a, ha, e⟩ := Option.map_eq_some_iff.mp h
    cases e; exact ⟨fun _ => by simp only [pm_ha, ha]; rfl, fun _ => rfl⟩
  · obtain ⟨a, ha, e⟩ := Option.map_eq_some_iff.mp h
    cases e; exact ⟨fun _ => by simp only [pm_ha, ha]; rfl, fun _ => rfl⟩
  · obtain ⟨a, t, rfl, h9⟩ := pm_rf_some h
    obtain ⟨q, hq, h9⟩ := Option.bind_eq_some_iff.mp h9
    obtain ⟨o, ho, h9⟩ := Option.bind_eq_some_iff.mp h9
    split at h9
    · next hc =>
      obtain ⟨a, ha, e⟩ := Option.map_eq_some_iff.mp h9
      cases e; exact ⟨fun _ => by simp only [pm_ha, pm_rf, hq, ho, Option.bind_some, hc, if_true, ha]; rfl, fun _ => rfl⟩
    · cases h9
  · obtain ⟨a, t, rfl, h9⟩ := pm_rf_some h
    split at h9
    · next hc => cases h9; exact ⟨fun _ => by simp only [pm_ha, pm_rf, hc, if_true], fun _ => rfl⟩
    · next hc =>
      obtain ⟨a, ha, e⟩ := Option.map_eq_some_iff.mp h9
      cases e; exact ⟨fun _ => by simp only [pm_ha, pm_rf, hc, if_false, ha]; rfl, fun _ => rfl⟩
  · obtain ⟨j, a, t, rfl, h9⟩ := pm_at_some h
    split at h9
    · next hc =>
      split at h9
      · next hd => cases h9; exact ⟨fun _ => by simp only [pm_ha, pm_at, hc, hd, if_true], fun _ => rfl⟩
      · cases h9
    · next hc =>
      obtain ⟨o, ho, h9⟩ := Option.bind_eq_some_iff.mp h9
      split at h9
      · next hd => cases h9; exact ⟨fun _ => by simp only [pm_ha, pm_at, hc, hd, if_true, if_false, ho, Option.bind_some], fun _ => rfl⟩
      · cases h9
  · obtain ⟨j, a, t, rfl, h9⟩ := pm_at_some h
    obtain ⟨o, ho, h9⟩ := Option.bind_eq_some_iff.mp h9
    split at h9
    · next hd => cases h9; exact ⟨fun _ => by simp only [pm_ha, pm_at, hd, if_true, ho, Option.bind_some], fun _ => rfl⟩
    · cases h9
  · obtain ⟨j, a, t, rfl, h9⟩ := pm_at_some h
    obtain ⟨o, ho, h9⟩ := Option.bind_eq_some_iff.mp h9
    split at h9
    · next hd => cases h9; exact ⟨fun _ => by simp only [pm_ha, pm_at, hd, if_true, ho, Option.bind_some], fun _ => rfl⟩
    · cases h9
  · obtain ⟨j, a, t, rfl, h9⟩ := pm_at_some h
    obtain ⟨o, ho, h9⟩ := Option.bind_eq_some_iff.mp h9
    split at h9
    · next hd =>
      split at h9
      · next e1 => cases h9; exact ⟨fun _ => by simp only [pm_ha, pm_at, hd, if_true, ho, Option.bind_some, e1], fun _ => rfl⟩
      · cases h9
    · cases h9
  · cases h
theorem pm_hb_ext {fld : Nat → Option (Nat × Nat × Nat)} {fld0 : Nat → Option (Nat × Nat × Nat)} {cst : Nat → Option Int32} {csl : Nat → Option Int64} {csr : Nat → Option Nat} {r : pm_T × pm_Z} (h : pm_hb fld net i pc L0 st z = some r) : (∀ L, pm_hb fld net i pc L st z = some ((r.1.1, L, r.1.2.2), r.2)) ∧ (∀ L, pm_pure i pc L st = none) ∧ ∀ L, pm_ha fld0 cst csl csr sc i pc L st z = none := by
  unfold pm_hb at h
  split at h
  · split at h
    · next v a t =>
      obtain ⟨q, hq, h9⟩ := Option.bind_eq_some_iff.mp h
      obtain ⟨o, ho, h9⟩ := Option.bind_eq_some_iff.mp h9
      split at h9
      · next hc => cases h9; exact ⟨fun _ => by simp only [pm_hb, hq, ho, Option.bind_some]; rw [if_pos hc], fun _ => rfl, fun _ => rfl⟩
      · cases h9
    · cases h
  · split at h
    · obtain ⟨o, ho, h9⟩ := Option.bind_eq_some_iff.mp h
      split at h9
      · next hc => cases h9; exact ⟨fun _ => by simp only [pm_hb, ho, Option.bind_some]; rw [if_pos hc], fun _ => rfl, fun _ => rfl⟩
      · cases h9
    · cases h
  · split at h
    · obtain ⟨o, ho, h9⟩ := Option.bind_eq_some_iff.mp h
      split at h9
      · next hc => cases h9; exact ⟨fun _ => by simp only [pm_hb, ho, Option.bind_some]; rw [if_pos hc], fun _ => rfl, fun _ => rfl⟩
      · cases h9
    · cases h
  · split at h
    · obtain ⟨o, ho, h9⟩ := Option.bind_eq_some_iff.mp h
      split at h9
      · next hc => cases h9; exact ⟨fun _ => by simp only [pm_hb, ho, Option.bind_some]; rw [if_pos hc], fun _ => rfl, fun _ => rfl⟩
      · cases h9
    · cases h
  · split at h
    · obtain ⟨o, ho, h9⟩ := Option.bind_eq_some_iff.mp h
      obtain ⟨w, hw, h9⟩ := Option.bind_eq_some_iff.mp h9
      split at h9
      · next hc => cases h9; exact ⟨fun _ => by simp only [pm_hb, ho, hw, Option.bind_some]; rw [if_pos hc], fun _ => rfl, fun _ => rfl⟩
      · cases h9
    · cases h
  · cases h
def pm_gx (L : List (Option Value)) : pm_G → pm_G
  | .inl q => .inl ((q.1.1, L, q.1.2.2), q.2)
  | .inr r => .inr r
theorem pm_beh_ext {rest : List Value} {r : Option (pm_O × pm_Z)} {g : pm_G} (h : pm_beh M pc L0 rest z r = some g) (hz : (pm_gz g).2.1 = z.2.1) : pm_beh M pc L rest z r = some (pm_gx L g) ∧ ∀ q, g = .inl q → q.1.2.1 = L0 := by
  cases r with
  | none => cases h
  | some q =>
    obtain ⟨o, z'⟩ := q
    unfold pm_beh at h ⊢
    simp only at h ⊢
    split at h
    · next hc =>
      have h2 : z'.2.1 = z.2.1 := by
        cases o with
        | inl v => cases v <;> (cases h; exact hz)
        | inr E =>
          simp only at h
          split at h <;> (cases h; exact hz)
      rw [if_pos ⟨Or.inl h2, hc.2⟩]
      cases o with
      | inl v => cases v <;> (cases h; exact ⟨rfl, fun q e => by cases e; rfl⟩)
      | inr E =>
        simp only at h ⊢
        split at h
        · next e1 => cases h; exact ⟨by rfl, fun q e => by cases e⟩
        · next e1 => cases h; exact ⟨by rfl, fun q e => by cases e⟩
    · cases h
theorem pm_hi_ext {g : pm_G} (h : pm_hi F M i pc L0 st z = some g) (hz : (pm_gz g).2.1 = z.2.1) : (pm_hi F M i pc L st z = some (pm_gx L g) ∧ ∀ q, g = .inl q → q.1.2.1 = L0) ∧ ((∃ q, i = .invokestatic q) ∨ (∃ q, i = .invokevirtual q) ∨ ∃ q, i = .invokespecial q) := by
  unfold pm_hi at h ⊢
  split at h
  · refine ⟨?_, Or.inl ⟨_, rfl⟩⟩
    split at h
    · next e1 =>
      obtain ⟨h1, h2⟩ := pm_pop_some h
      unfold pm_pop
      rw [if_pos h1]
      exact pm_beh_ext h2 hz
    · next e1 =>
      obtain ⟨h1, h2⟩ := pm_pop_some h
      unfold pm_pop
      rw [if_pos h1]
      exact pm_beh_ext h2 hz
    · next e1 =>
      obtain ⟨h1, h2⟩ := pm_pop_some h
      unfold pm_pop
      rw [if_pos h1]
      exact pm_beh_ext h2 hz
    · next e1 =>
      obtain ⟨x, y, t, rfl, h9⟩ := pm_i2_some h
      split at h9
      · next hc => cases h9; exact ⟨by show (if _ then _ else _) = _; rw [if_pos hc]; rfl, fun q e => by cases e; rfl⟩
      · cases h9
    · next e1 =>
      obtain ⟨x, y, t, rfl, h9⟩ := pm_i2_some h
      split at h9
      · next hc => cases h9; exact ⟨by show (if _ then _ else _) = _; rw [if_pos hc]; rfl, fun q e => by cases e; rfl⟩
      · cases h9
    · next e1 =>
      obtain ⟨x, t, rfl, h9⟩ := pm_i1_some h
      split at h9
      · next hc => cases h9; exact ⟨by show (if _ then _ else _) = _; rw [if_pos hc]; rfl, fun q e => by cases e; rfl⟩
      · cases h9
    · next e1 =>
      obtain ⟨x, y, t, rfl, h9⟩ := pm_l2_some h
      split at h9
      · next hc => cases h9; exact ⟨by show (if _ then _ else _) = _; rw [if_pos hc]; rfl, fun q e => by cases e; rfl⟩
      · cases h9
    · next e1 =>
      split at h
      · obtain ⟨f, hf, h⟩ := Option.bind_eq_some_iff.mp h
        obtain ⟨g2, hg, h⟩ := Option.bind_eq_some_iff.mp h
        split at h
        · next hc => cases h; exact ⟨by simp only [hf, hg, Option.bind_some]; rw [if_pos hc]; rfl, fun q e => by cases e; rfl⟩
        · cases h
      · cases h
    · cases h
  · refine ⟨?_, Or.inr (Or.inl ⟨_, rfl⟩)⟩
    split at h
    · next e1 =>
      obtain ⟨h1, h2⟩ := pm_pop_some h
      unfold pm_pop
      rw [if_pos h1]
      split at h2
      · next b r9 e2 =>
        obtain ⟨o, ho, h9⟩ := Option.bind_eq_some_iff.mp h2
        split at h9
        · next hc =>
          rw [e2]
          simp only [ho, Option.bind_some]
          rw [if_pos hc]
          exact pm_beh_ext h9 hz
        · cases h9
      · cases h2
    · next e1 =>
      split at h
      · split at h
        · next hc => cases h; exact ⟨by show (if _ then _ else _) = _; rw [if_pos hc]; rfl, fun q e => by cases e; rfl⟩
        · cases h
      · cases h
    · next e1 =>
      split at h
      · split at h
        · next hc => cases h; exact ⟨by show (if _ then _ else _) = _; rw [if_pos hc]; rfl, fun q e => by cases e; rfl⟩
        · cases h
      · cases h
    · cases h
  · refine ⟨?_, Or.inr (Or.inr ⟨_, rfl⟩)⟩
    split at h
    · next e1 =>
      obtain ⟨h1, h2⟩ := pm_pop_some h
      unfold pm_pop
      rw [if_pos h1]
      split at h2
      · next b r9 e2 =>
        rw [e2]
        exact pm_beh_ext h2 hz
      · cases h2
    · next e1 =>
      obtain ⟨h1, h2⟩ := pm_pop_some h
      unfold pm_pop
      rw [if_pos h1]
      split at h2
      · next b r9 e2 =>
        rw [e2]
        exact pm_beh_ext h2 hz
      · cases h2
    · next e1 =>
      obtain ⟨a, t, rfl, h9⟩ := pm_rf_some h
      split at h9
      · next hc => cases h9; exact ⟨by show (if _ then _ else _) = _; rw [if_pos hc]; rfl, fun q e => by cases e; rfl⟩
      · cases h9
    · cases h
  · cases h
theorem pm_step_ext {g : pm_G} (hx : pm_ext L0 L) (h : pm_step sc net F M pc L0 st z = some g) (hz : (pm_gz g).2.1 = z.2.1) : (∃ q L', g = .inl q ∧ pm_ext q.1.2.1 L' ∧ pm_step sc net F M pc L st z = some (.inl ((q.1.1, L', q.1.2.2), q.2))) ∨ (∃ r, g = .inr r ∧ pm_step sc net F M pc L st z = some (.inr r)) := by
  obtain ⟨i, hi, h7⟩ := pm_step_some h
  rcases h7 with ⟨t, h7, rfl⟩ | ⟨t, h7, rfl⟩ | ⟨r7, h7, rfl⟩ | h7 | ⟨r7, h7, rfl⟩ | h7 | h7
  · obtain ⟨L', h1, h2⟩ := pm_pure_ext hx h7
    refine Or.inl ⟨_, L', rfl, h2, ?_⟩
    unfold pm_step
    rw [hi]
    simp only [h1]
  · obtain ⟨h1, h2⟩ := pm_ha_ext h7
    have h3 := pm_ha_L h7
    exact Or.inl ⟨_, L, rfl, by show pm_ext t.2.1 L; rw [h3]; exact hx, pm_step_ha hi (h2 L) (h1 L)⟩
  · obtain ⟨h1, h2, h3⟩ := pm_hb_ext (sc := sc) (fld0 := pm_mf M) (cst := pm_mk M) (csl := pm_ml M) (csr := pm_mr M) h7
    have h4 := (pm_hb_z h7).2
    exact Or.inl ⟨_, L, rfl, by rw [h4]; exact hx, pm_step_hb hi (h2 L) (h3 L) (h1 L)⟩
  · obtain ⟨idx, q, rfl, -, -, -, -, -, rfl⟩ := pm_ht_some h7
    refine Or.inr ⟨_, rfl, ?_⟩
    unfold pm_step
    rw [hi]
    show (match pm_ht M (.new idx) pc st z with
      | some r => some r
      | none => _) = _
    rw [h7]
  · obtain ⟨x, k, e⟩ := pm_hc_z h7
    exfalso
    have h1 : r7.2.2.1 = z.2.1 := hz
    rw [e] at h1
    simp [pm_new] at h1
  · obtain ⟨⟨h1, h2⟩, h3⟩ := pm_hi_ext (L := L) h7 hz
    have h4 := pm_step_inv (sc := sc) (net := net) hi h3 h1
    cases g with
    | inl q => exact Or.inl ⟨q, L, rfl, by rw [h2 q rfl]; exact hx, h4⟩
    | inr r => exact Or.inr ⟨r, rfl, h4⟩
  · obtain ⟨v, rfl, h8⟩ := pm_hr_some h7
    refine Or.inr ⟨_, rfl, ?_⟩
    unfold pm_step
    rw [hi]
    obtain ⟨x, rfl, -, rfl, -⟩ | ⟨x, rfl, -, rfl, -⟩ | ⟨x, rfl, -, rfl, -⟩ | ⟨x, rfl, -, rfl, -⟩ | ⟨rfl, -, rfl, -⟩ := h8
    all_goals exact h7
theorem pm_run_ext (hF : pm_Fle F) : ∀ (n : Nat) {pc : Nat} {L0 L : List (Option Value)} {st : List Value} {z : pm_Z} {r : pm_O × pm_Z}, pm_ext L0 L → pm_run sc net F M n (pc, L0, st) z = some r → r.2.2.1 = z.2.1 → pm_run sc net F M n (pc, L, st) z = some r := by
  intro n
  induction n with
  | zero => intro pc L0 L st z r _ h; cases h
  | succ n ih =>
    intro pc L0 L st z r hx h hz
    unfold pm_run at h ⊢
    split at h
    · cases h
    · next q hq =>
      have l1 : pm_le z q.2 := pm_step_le hF hq
      have l2 : pm_le q.2 r.2 := pm_run_le hF _ _ _ _ _ h
      have e1 : q.2.2.1 = z.2.1 := by have := l1.1; have := l2.1; omega
      rcases pm_step_ext hx hq e1 with ⟨q2, L', e2, h2, h3⟩ | ⟨r2, e2, h3⟩
      · cases e2
        rw [h3]
        exact ih h2 h (by rw [e1]; exact hz)
      · cases e2
    · next q hq =>
      cases h
      rcases pm_step_ext hx hq hz with ⟨q2, L', e2, h2, h3⟩ | ⟨r2, e2, h3⟩
      · cases e2
      · cases e2; rw [h3]
theorem pm_go.weak {P : Nat → Option pm_M} {d : Nat} {r : pm_O × pm_Z} (hx : pm_ext L0 L) (hz : r.2.2.1 = z.2.1) (h : pm_go sc net P d M (pc, L0, st) z r) : pm_go sc net P d M (pc, L, st) z r := by
  obtain ⟨B, hB⟩ := h
  exact ⟨B, fun N hN n hn d' hd => pm_run_ext (pm_call_le _ _ _ _ _) n hx (hB N hN n hn d' hd) hz⟩
end PMV2
