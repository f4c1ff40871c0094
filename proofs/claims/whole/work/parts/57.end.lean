/-- what is left to show: the lifted law answers 1 from the start's heap, within the room -/
def lf_LAW : Prop := ∀ sc : Nat × (Nat → Int32), sc.1 ≤ 3072 → ∃ (rd : Nat → Int32 → Int32 → Nat → lf_W → lf_R) (N : Nat) (w' : lf_W), (∀ {a0 : Nat} {a1 a2 : Int32} {a3 : Nat} {w : lf_W} {r : pm_O × lf_W}, rd a0 a1 a2 a3 w = some r → lw_cv sc 295 [.ref a0, .int a1, .int a2, .ref a3] (lf_em w) (lf_er r)) ∧ g327_23 sc rd N N 0 w0 = some (.inl (some (.int 1)), w') ∧ w'.2.1 ≤ 601024 ∧ w'.2.2 ≤ 7293034
theorem lf_law (h : lf_LAW) : lw_LAW := by
  intro sc hs
  obtain ⟨rd, N, w', hrd, h1, h2, h3⟩ := h sc hs
  have h4 := lw_start (by rw [w0_em]; exact G327_23 hrd h1)
  obtain ⟨B, hB⟩ := h4
  exact ⟨B, B, lf_em w', hB B (Nat.le_refl _) B (Nat.le_refl _), h2, h3⟩
theorem lf_all (h : lf_LAW) : Claimed_1_1 ∧ Claimed_1_2 := lw_all (lf_law h)
