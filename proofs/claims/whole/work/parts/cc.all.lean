/-! all cases but that of reading -/
def jA (c : Nat → Nat → Int32) : Prop := (∀ j, c 116 j = 0) ∧ jS c ∧ (∀ n, 1 ≤ n → n ≤ 6 → jK c n) ∧ jM c
theorem jN : iv_N 1000000000 := Nat.le_refl _
theorem up90 {c : Nat → Nat → Int32} {i : Nat} {x : Int32} {a : Nat} (h : a ≠ 90) : hp_up c 90 i x a = c a := hp_up_ne h
theorem jA_seek : ∀ (c : Nat → Nat → Int32) (i : Nat) (x : Int32), jA c → jS (hp_up c 90 i x) → jA (hp_up c 90 i x) := by
  rintro c i x ⟨h1, h2, h3, h4⟩ h
  refine ⟨fun j => ?_, h, fun n n1 n6 => ?_, fun n d k a1 a2 a3 a4 a5 => ?_⟩
  · rw [up90 (by decide)]
    exact h1 j
  · unfold jK
    rw [up90 (by decide), up90 (by decide), up90 (by decide)]
    exact h3 n n1 n6
  · unfold MCy
    rw [up90 (by decide), up90 (by decide), up90 (by decide), up90 (by decide)]
    exact h4 n d k a1 a2 a3 a4 a5
theorem jA_small : ∀ (c c' : Nat → Nat → Int32), jA c → c' 90 = c 90 → c' 116 = c 116 → (∀ n, 1 ≤ n → n ≤ 6 → jK c' n) → jM c' → jA c' := by
  rintro c c' ⟨h1, h2, h3, h4⟩ e1 e2 h5 h6
  refine ⟨fun j => by rw [e2]; exact h1 j, ?_, h5, h6⟩
  unfold jS
  rw [e1]
  exact h2
theorem jA_0 : jA (iv_cs σ0) := by
  refine ⟨fun j => rfl, fun K a b d _ _ _ => Or.inl rfl, fun n _ _ => Or.inl rfl, fun n d k _ _ _ _ _ => Or.inl rfl⟩
theorem law_read {rd : iv_rd} (hrd : ∀ (sc : Nat × (Nat → Int32)) {a0 : Nat} {a1 a2 : Int32} {a3 : Nat} {w : lf_W} {r : pm_O × lf_W}, rd a0 a1 a2 a3 w = some r → lw_cv sc 295 [.ref a0, .int a1, .int a2, .ref a3] (lf_em w) (lf_er r)) (h4 : iv_caseN jA rd 1000000000 g327_504) : Claimed_1_1 ∧ Claimed_1_2 := iv_law hrd jA_0 (case_net.to jN) (case_line.to jN) (case_off.to jN) (case_feed.to jN) h4 (case_fault.to jN) (case_turned jN) (case_glued jN) (case_copy.to jN) (case_about jN) (case_lineAt jN) (case_distance jN) (case_far jN) (case_apart jN) (case_poly jN) (case_above jN) (case_walks jN) (case_change jN) (case_better jN) (case_cool jN) (case_seek jN (fun _ h => h.2.1) jA_seek) (case_small jN (fun _ h => ⟨h.2.2.1, h.2.2.2⟩) jA_small) (case_found.to jN) (case_bound.to jN) (case_falls jN) (case_fallen.to jN) (case_halves jN) (case_lay jN) (case_laid.to jN) (case_hop jN) (case_locks jN) (case_load jN) (case_heavy2 jN) (case_upward jN) (case_tell jN (fun _ h => h.1)) (case_grow jN) (case_missing jN) (case_count.to jN)
