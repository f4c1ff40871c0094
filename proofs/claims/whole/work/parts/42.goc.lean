section PMK
variable {sc : Nat × (Nat → Int32)} {net : Nat} {P : Nat → Option pm_M} {d : Nat} {M : pm_M} {pc : Nat} {L : List (Option Value)} {z z' : pm_Z} {r : pm_O × pm_Z} {idx id9 n ci : Nat} {As rest : List Value}
theorem pm_pop_app {α : Type} {k : List Value → List Value → Option α} (hn : As.length = n) : pm_pop n (As.reverse ++ rest) k = k As rest := by
  unfold pm_pop
  rw [if_pos (by rw [List.length_append, List.length_reverse]; omega)]
  have e1 : (As.reverse ++ rest).take n = As.reverse := by rw [← hn, ← List.length_reverse (as := As), List.take_left]
  have e2 : (As.reverse ++ rest).drop n = rest := by rw [← hn, ← List.length_reverse (as := As), List.drop_left]
  rw [e1, e2, List.reverse_reverse]
theorem pm_beh_ret {v : Option Value} (hc : (z'.2.1 = z.2.1 ∨ (pm_okL z.2.1 L = true ∧ rest.all (pm_okv z.2.1) = true)) ∧ pm_cat rest ≤ 8) : pm_beh M pc L rest z (some (.inl v, z')) = some (.inl ((pc + 3, L, v.toList ++ rest), z')) := by
  unfold pm_beh
  simp only
  rw [if_pos hc]
  cases v <;> rfl
theorem pm_beh_thr {E : String} (hh : pm_mh M pc E = none) (hc : (z'.2.1 = z.2.1 ∨ (pm_okL z.2.1 L = true ∧ rest.all (pm_okv z.2.1) = true)) ∧ pm_cat rest ≤ 8) : pm_beh M pc L rest z (some (.inr E, z')) = some (.inr (.inr E, z')) := by
  unfold pm_beh
  simp only
  rw [if_pos hc, hh]
/-- an invoking instruction's step is pm_hi's -/
theorem pm_step_inv {F : pm_F} {st : List Value} {i : Instr} (hi : pm_mi M pc = some i) (hk : (∃ q, i = .invokestatic q) ∨ (∃ q, i = .invokevirtual q) ∨ ∃ q, i = .invokespecial q) {g : pm_G} (h : pm_hi F M i pc L st z = some g) : pm_step sc net F M pc L st z = some g := by
  unfold pm_step
  rw [hi]
  rcases hk with ⟨q, rfl⟩ | ⟨q, rfl⟩ | ⟨q, rfl⟩
  · show (match pm_hi F M (.invokestatic q) pc L st z with
      | some r => some r
      | none => pm_hr M (.invokestatic q) st z) = _
    rw [h]
  · show (match pm_hi F M (.invokevirtual q) pc L st z with
      | some r => some r
      | none => pm_hr M (.invokevirtual q) st z) = _
    rw [h]
  · show (match pm_hi F M (.invokespecial q) pc L st z with
      | some r => some r
      | none => pm_hr M (.invokespecial q) st z) = _
    rw [h]
theorem pm_go.cS {v : Option Value} (hi : pm_mi M pc = some (.invokestatic idx)) (hm : pm_mm M idx = some (0, id9, n, ci)) (hn : As.length = n) (hc : (z'.2.1 = z.2.1 ∨ (pm_okL z.2.1 L = true ∧ rest.all (pm_okv z.2.1) = true)) ∧ pm_cat rest ≤ 8) (hv : pm_cv sc net P d id9 As z (.inl v, z')) (k : pm_go sc net P d M (pc + 3, L, v.toList ++ rest) z' r) : pm_go sc net P d M (pc, L, As.reverse ++ rest) z r := by
  obtain ⟨B, hB⟩ := hv
  refine pm_go.step ⟨B, fun N hN d' hd => pm_step_inv hi (Or.inl ⟨_, rfl⟩) ?_⟩ k
  unfold pm_hi
  simp only [hm]
  rw [pm_pop_app hn, hB N hN d' hd, pm_beh_ret hc]
theorem pm_go.cSN {v : Option Value} (hi : pm_mi M pc = some (.invokestatic idx)) (hm : pm_mm M idx = some (5, id9, n, ci)) (hn : As.length = n) (hc : (z'.2.1 = z.2.1 ∨ (pm_okL z.2.1 L = true ∧ rest.all (pm_okv z.2.1) = true)) ∧ pm_cat rest ≤ 8) (hv : pm_cv sc net P d id9 As z (.inl v, z')) (k : pm_go sc net P d M (pc + 3, L, v.toList ++ rest) z' r) : pm_go sc net P d M (pc, L, As.reverse ++ rest) z r := by
  obtain ⟨B, hB⟩ := hv
  refine pm_go.step ⟨B, fun N hN d' hd => pm_step_inv hi (Or.inl ⟨_, rfl⟩) ?_⟩ k
  unfold pm_hi
  simp only [hm]
  rw [pm_pop_app hn, hB N hN d' hd]
  exact pm_beh_ret hc
theorem pm_go.cV {v : Option Value} {b : Nat} {fs : List Value} (hi : pm_mi M pc = some (.invokevirtual idx)) (hm : pm_mm M idx = some (1, id9, n, ci)) (hn : As.length = n) (ho : pm_obj z b = some (ci, fs)) (hc : (z'.2.1 = z.2.1 ∨ (pm_okL z.2.1 L = true ∧ rest.all (pm_okv z.2.1) = true)) ∧ pm_cat rest ≤ 8) (hv : pm_cv sc net P d id9 (.ref b :: As) z (.inl v, z')) (k : pm_go sc net P d M (pc + 3, L, v.toList ++ rest) z' r) : pm_go sc net P d M (pc, L, As.reverse ++ .ref b :: rest) z r := by
  obtain ⟨B, hB⟩ := hv
  refine pm_go.step ⟨B, fun N hN d' hd => pm_step_inv hi (Or.inr (Or.inl ⟨_, rfl⟩)) ?_⟩ k
  unfold pm_hi
  simp only [hm]
  rw [pm_pop_app hn]
  simp only [ho, Option.bind_some, if_true]
  rw [hB N hN d' hd, pm_beh_ret hc]
theorem pm_go.cVX {E : String} {b : Nat} {fs : List Value} (hi : pm_mi M pc = some (.invokevirtual idx)) (hm : pm_mm M idx = some (1, id9, n, ci)) (hh : pm_mh M pc E = none) (hn : As.length = n) (ho : pm_obj z b = some (ci, fs)) (hc : (z'.2.1 = z.2.1 ∨ (pm_okL z.2.1 L = true ∧ rest.all (pm_okv z.2.1) = true)) ∧ pm_cat rest ≤ 8) (hv : pm_cv sc net P d id9 (.ref b :: As) z (.inr E, z')) : pm_go sc net P d M (pc, L, As.reverse ++ .ref b :: rest) z (.inr E, z') := by
  obtain ⟨B, hB⟩ := hv
  refine pm_go.fin ⟨B, fun N hN d' hd => pm_step_inv hi (Or.inr (Or.inl ⟨_, rfl⟩)) ?_⟩
  unfold pm_hi
  simp only [hm]
  rw [pm_pop_app hn]
  simp only [ho, Option.bind_some, if_true]
  rw [hB N hN d' hd, pm_beh_thr hh hc]
theorem pm_go.cI {v : Option Value} {b : Nat} (hi : pm_mi M pc = some (.invokespecial idx)) (hm : pm_mm M idx = some (2, id9, n, ci)) (hn : As.length = n) (hc : (z'.2.1 = z.2.1 ∨ (pm_okL z.2.1 L = true ∧ rest.all (pm_okv z.2.1) = true)) ∧ pm_cat rest ≤ 8) (hv : pm_cv sc net P d id9 (.ref b :: As) z (.inl v, z')) (k : pm_go sc net P d M (pc + 3, L, v.toList ++ rest) z' r) : pm_go sc net P d M (pc, L, As.reverse ++ .ref b :: rest) z r := by
  obtain ⟨B, hB⟩ := hv
  refine pm_go.step ⟨B, fun N hN d' hd => pm_step_inv hi (Or.inr (Or.inr ⟨_, rfl⟩)) ?_⟩ k
  unfold pm_hi
  simp only [hm]
  rw [pm_pop_app hn]
  simp only
  rw [hB N hN d' hd]
  exact pm_beh_ret hc
theorem pm_go.cIN {v : Option Value} {b : Nat} (hi : pm_mi M pc = some (.invokespecial idx)) (hm : pm_mm M idx = some (3, id9, n, ci)) (hn : As.length = n) (hc : (z'.2.1 = z.2.1 ∨ (pm_okL z.2.1 L = true ∧ rest.all (pm_okv z.2.1) = true)) ∧ pm_cat rest ≤ 8) (hv : pm_cv sc net P d id9 (.ref b :: As) z (.inl v, z')) (k : pm_go sc net P d M (pc + 3, L, v.toList ++ rest) z' r) : pm_go sc net P d M (pc, L, As.reverse ++ .ref b :: rest) z r := by
  obtain ⟨B, hB⟩ := hv
  refine pm_go.step ⟨B, fun N hN d' hd => pm_step_inv hi (Or.inr (Or.inr ⟨_, rfl⟩)) ?_⟩ k
  unfold pm_hi
  simp only [hm]
  rw [pm_pop_app hn]
  simp only
  rw [hB N hN d' hd]
  exact pm_beh_ret hc
end PMK
