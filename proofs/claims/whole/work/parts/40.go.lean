/-! rules for proofs about PM: it comes to an end -/
def pm_F0 : pm_F := fun _ _ _ => none
def pm_go (sc : Nat × (Nat → Int32)) (net : Nat) (P : Nat → Option pm_M) (d : Nat) (M : pm_M) (t : pm_T) (z : pm_Z) (r : pm_O × pm_Z) : Prop := ∃ B, ∀ N, B ≤ N → ∀ n, B ≤ n → ∀ d', d ≤ d' → pm_run sc net (pm_call sc net P N d') M n t z = some r
def pm_cv (sc : Nat × (Nat → Int32)) (net : Nat) (P : Nat → Option pm_M) (d y : Nat) (vs : List Value) (z : pm_Z) (r : pm_O × pm_Z) : Prop := ∃ B, ∀ N, B ≤ N → ∀ d', d ≤ d' → pm_call sc net P N d' y vs z = some r
section PMG
variable {sc : Nat × (Nat → Int32)} {net : Nat} {P : Nat → Option pm_M} {d : Nat} {M : pm_M} {pc : Nat} {L : List (Option Value)} {st : List Value} {z : pm_Z} {r : pm_O × pm_Z}
theorem pm_cv.of {y : Nat} {vs : List Value} (hy : P y = some M) (hl : (pm_arg vs).length ≤ pm_mL M ∧ pm_mL M ≤ 30) (h : pm_go sc net P d M (0, pm_ini (pm_mL M) vs, []) z r) : pm_cv sc net P (d + 1) y vs z r := by
  obtain ⟨B, hB⟩ := h
  refine ⟨B, fun N hN d' hd => ?_⟩
  obtain ⟨d2, rfl⟩ : ∃ d2, d' = d2 + 1 := ⟨d' - 1, by omega⟩
  unfold pm_call
  rw [hy]
  simp only
  rw [if_pos hl]
  exact hB N hN N hN d2 (by omega)
theorem pm_cv.mono {y : Nat} {vs : List Value} {d2 : Nat} (hd : d ≤ d2) (h : pm_cv sc net P d y vs z r) : pm_cv sc net P d2 y vs z r := by
  obtain ⟨B, hB⟩ := h
  exact ⟨B, fun N hN d' hd' => hB N hN d' (Nat.le_trans hd hd')⟩
theorem pm_go.step {t' : pm_T} {z' : pm_Z} (h : ∃ B, ∀ N, B ≤ N → ∀ d', d ≤ d' → pm_step sc net (pm_call sc net P N d') M pc L st z = some (.inl (t', z'))) (k : pm_go sc net P d M t' z' r) : pm_go sc net P d M (pc, L, st) z r := by
  obtain ⟨B, hB⟩ := h
  obtain ⟨B2, hB2⟩ := k
  refine ⟨B + B2 + 1, fun N hN n hn d' hd => ?_⟩
  obtain ⟨n2, rfl⟩ : ∃ n2, n = n2 + 1 := ⟨n - 1, by omega⟩
  unfold pm_run
  rw [hB N (by omega) d' hd]
  exact hB2 N (by omega) n2 (by omega) d' hd
theorem pm_go.fin (h : ∃ B, ∀ N, B ≤ N → ∀ d', d ≤ d' → pm_step sc net (pm_call sc net P N d') M pc L st z = some (.inr r)) : pm_go sc net P d M (pc, L, st) z r := by
  obtain ⟨B, hB⟩ := h
  refine ⟨B + 1, fun N hN n hn d' hd => ?_⟩
  obtain ⟨n2, rfl⟩ : ∃ n2, n = n2 + 1 := ⟨n - 1, by omega⟩
  unfold pm_run
  rw [hB N (by omega) d' hd]
theorem pm_beh_none {rest : List Value} : pm_beh M pc L rest z none = none := rfl
theorem pm_hi_F0 {F : pm_F} {i : Instr} {g : pm_G} (h : pm_hi pm_F0 M i pc L st z = some g) : pm_hi F M i pc L st z = some g := by
  unfold pm_hi at h ⊢
  split at h
  · split at h
    · have h9 := (pm_pop_some h).2; cases h9
    · have h9 := (pm_pop_some h).2; cases h9
    · have h9 := (pm_pop_some h).2; cases h9
    all_goals exact h
  · split at h
    · have h9 := (pm_pop_some h).2
      split at h9
      · obtain ⟨o, ho, h8⟩ := Option.bind_eq_some_iff.mp h9
        split at h8 <;> cases h8
      · cases h9
    all_goals exact h
  · split at h
    · have h9 := (pm_pop_some h).2
      split at h9 <;> cases h9
    · have h9 := (pm_pop_some h).2
      split at h9 <;> cases h9
    all_goals exact h
  · cases h
theorem pm_hr_hi {F : pm_F} {i : Instr} {g : pm_G} (h : pm_hr M i st z = some g) : pm_hi F M i pc L st z = none := by
  obtain ⟨v, -, h | h | h | h | h⟩ := pm_hr_some h
  · obtain ⟨x, rfl, -⟩ := h; rfl
  · obtain ⟨x, rfl, -⟩ := h; rfl
  · obtain ⟨x, rfl, -⟩ := h; rfl
  · obtain ⟨x, rfl, -⟩ := h; rfl
  · obtain ⟨rfl, -⟩ := h; rfl
theorem pm_step_F0 {F : pm_F} {g : pm_G} (h : pm_step sc net pm_F0 M pc L st z = some g) : pm_step sc net F M pc L st z = some g := by
  unfold pm_step at h ⊢
  split at h
  · cases h
  · split at h
    · exact h
    · split at h
      · exact h
      · split at h
        · exact h
        · split at h
          · exact h
          · split at h
            · exact h
            · split at h
              · next r hr => rw [pm_hi_F0 hr]; exact h
              · rw [pm_hr_hi h]; exact h
/-- so many steps without a call -/
def pm_wk (sc : Nat × (Nat → Int32)) (net : Nat) (M : pm_M) : Nat → pm_T → pm_Z → Option pm_G
  | 0, t, z => some (.inl (t, z))
  | k + 1, (pc, L, st), z => match pm_step sc net pm_F0 M pc L st z with
    | some (.inl r) => pm_wk sc net M k r.1 r.2
    | some (.inr r) => some (.inr r)
    | none => none
theorem pm_go.wk : ∀ (n : Nat) {t t' : pm_T} {z z' : pm_Z}, pm_wk sc net M n t z = some (.inl (t', z')) → pm_go sc net P d M t' z' r → pm_go sc net P d M t z r := by
  intro n
  induction n with
  | zero => intro t t' z z' h k; cases h; exact k
  | succ n ih =>
    intro t t' z z' h k
    obtain ⟨pc, L, st⟩ := t
    unfold pm_wk at h
    split at h
    · next q hq => exact pm_go.step (t' := q.1) (z' := q.2) ⟨0, fun N _ d' _ => pm_step_F0 hq⟩ (ih h k)
    · cases h
    · cases h
theorem pm_go.wf : ∀ (n : Nat) {t : pm_T} {z : pm_Z}, pm_wk sc net M n t z = some (.inr r) → pm_go sc net P d M t z r := by
  intro n
  induction n with
  | zero => intro t z h; cases h
  | succ n ih =>
    intro t z h
    obtain ⟨pc, L, st⟩ := t
    unfold pm_wk at h
    split at h
    · next q hq => exact pm_go.step (t' := q.1) (z' := q.2) ⟨0, fun N _ d' _ => pm_step_F0 hq⟩ (ih h)
    · next q hq => cases h; exact pm_go.fin ⟨0, fun N _ d' _ => pm_step_F0 hq⟩
    · cases h
/-- a branch -/
theorem pm_go.ifc {c : ClassFile.Cond} {off : Int} {t : Nat} {x : Int32} {rest : List Value} (hi : pm_mi M pc = some (.ifCond c off)) (ht : pm_to pc off = some t) (kt : pm_c0 c x = true → pm_go sc net P d M (t, L, rest) z r) (kf : pm_c0 c x = false → pm_go sc net P d M (pc + 3, L, rest) z r) : pm_go sc net P d M (pc, L, .int x :: rest) z r := by
  have hs : ∀ F, pm_step sc net F M pc L (.int x :: rest) z = some (.inl (((bif pm_c0 c x then t else pc + 3), L, rest), z)) := fun F => by
    unfold pm_step
    rw [hi]
    have e1 : pm_pure (.ifCond c off) pc L (.int x :: rest) = some ((bif pm_c0 c x then t else pc + 3), L, rest) := by
      show pm_pd (.ifCond c off) pc L (.int x :: rest) = _
      show ((pm_to pc off).bind fun t => bif pm_c0 c x then some (t, L, rest) else some (pc + 3, L, rest)) = _
      rw [ht]
      cases pm_c0 c x <;> rfl
    simp only [e1]
  cases hc : pm_c0 c x with
  | true => exact pm_go.step ⟨0, fun N _ d' _ => by rw [hs, hc]; rfl⟩ (kt hc)
  | false => exact pm_go.step ⟨0, fun N _ d' _ => by rw [hs, hc]; rfl⟩ (kf hc)
theorem pm_go.icmp {c : ClassFile.Cond} {off : Int} {t : Nat} {x y : Int32} {rest : List Value} (hi : pm_mi M pc = some (.if_icmp c off)) (ht : pm_to pc off = some t) (kt : pm_c2 c x y = true → pm_go sc net P d M (t, L, rest) z r) (kf : pm_c2 c x y = false → pm_go sc net P d M (pc + 3, L, rest) z r) : pm_go sc net P d M (pc, L, .int y :: .int x :: rest) z r := by
  have hs : ∀ F, pm_step sc net F M pc L (.int y :: .int x :: rest) z = some (.inl (((bif pm_c2 c x y then t else pc + 3), L, rest), z)) := fun F => by
    unfold pm_step
    rw [hi]
    have e1 : pm_pure (.if_icmp c off) pc L (.int y :: .int x :: rest) = some ((bif pm_c2 c x y then t else pc + 3), L, rest) := by
      show pm_pd (.if_icmp c off) pc L (.int y :: .int x :: rest) = _
      show ((pm_to pc off).bind fun t => bif pm_c2 c x y then some (t, L, rest) else some (pc + 3, L, rest)) = _
      rw [ht]
      cases pm_c2 c x y <;> rfl
    simp only [e1]
  cases hc : pm_c2 c x y with
  | true => exact pm_go.step ⟨0, fun N _ d' _ => by rw [hs, hc]; rfl⟩ (kt hc)
  | false => exact pm_go.step ⟨0, fun N _ d' _ => by rw [hs, hc]; rfl⟩ (kf hc)
end PMG
