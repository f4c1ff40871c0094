section TE
variable {cs : Nat × Nat} {N n : Nat} {f : Nat → Int32} {K S : Int32}
theorem m_t4 : ∀ (m v u : Nat) (σ : hp_S), v + m = 24 → m < u → ∃ τ, fr [110] [] σ τ ∧ g284_4 N u 72 K 0 (nI v) (hp σ, cs) = g284_25 N N 72 K 0 0 (hp τ, cs) := by
  intro m
  induction m with
  | zero =>
    intro v u σ hv hu
    obtain ⟨u, rfl⟩ : ∃ q, u = q + 1 := ⟨u - 1, by omega⟩
    refine ⟨σ, fr.rf, ?_⟩
    unfold g284_4
    rw [if_pos (show (24 : Int32) ≤ nI v from nI_le (a := 24) (by omega) (by omega))]
  | succ m ih =>
    intro v u σ hv hu
    obtain ⟨u, rfl⟩ : ∃ q, u = q + 1 := ⟨u - 1, by omega⟩
    obtain ⟨τ, q1, q2⟩ := ih (v + 1) u (hp_wi σ 110 v 0) (by omega) (by omega)
    refine ⟨τ, (fr.wi (by decide)).tr q1, ?_⟩
    unfold g284_4
    rw [if_neg (show ¬ (24 : Int32) ≤ nI v from nI_ge (b := 24) (by omega) (by omega)), r72_68, b110 (by omega), nI_1]
    exact q2
theorem m_t5 : ∀ (m v u : Nat) (σ : hp_S), v + m = 24 → m < u → ∃ τ, fr [110] [] σ τ ∧ g283_5 N u 72 K S 0 (nI v) (hp σ, cs) = g283_29 N N 72 K S 0 0 (hp τ, cs) := by
  intro m
  induction m with
  | zero =>
    intro v u σ hv hu
    obtain ⟨u, rfl⟩ : ∃ q, u = q + 1 := ⟨u - 1, by omega⟩
    refine ⟨σ, fr.rf, ?_⟩
    unfold g283_5
    rw [if_pos (show (24 : Int32) ≤ nI v from nI_le (a := 24) (by omega) (by omega))]
  | succ m ih =>
    intro v u σ hv hu
    obtain ⟨u, rfl⟩ : ∃ q, u = q + 1 := ⟨u - 1, by omega⟩
    obtain ⟨τ, q1, q2⟩ := ih (v + 1) u (hp_wi σ 110 v 0) (by omega) (by omega)
    refine ⟨τ, (fr.wi (by decide)).tr q1, ?_⟩
    unfold g283_5
    rw [if_neg (show ¬ (24 : Int32) ≤ nI v from nI_ge (b := 24) (by omega) (by omega)), r72_68, b110 (by omega), nI_1]
    exact q2
/-- who can tell the i-th of a list -/
def tE (f : Nat → Int32) (K : Int32) (L : List Nat) : Nat → Nat → Bool := fun i y => bt (if i < L.length then f (L.getD i 0) &&& K else 0) y
theorem tE_i {L : List Nat} {i y : Nat} : tE f K L i y = true ↔ i < L.length ∧ bt (f (L.getD i 0)) y = true ∧ bt K y = true := by
  unfold tE
  by_cases c : i < L.length
  · rw [if_pos c, b_and_iff]
    exact ⟨fun z => ⟨c, z⟩, fun z => z.2⟩
  · rw [if_neg c, b_0]
    exact ⟨fun z => absurd z (by decide), fun z => absurd z.1 c⟩
/-- matches of a list's goals -/
theorem m_gl {σ : hp_S} {L : List Nat} (hL24 : L.length ≤ 24) (hN : iv_N N) (h : GL σ f K L) : ∃ τ k, fr [111, 112, 113] [] σ τ ∧ MT (tE f K L) k ∧ VC (tE f K L) k ∧ f276 N 72 (nI L.length) (hp σ, cs) = some (.inl (some (.int (nI k))), (hp τ, cs)) := by
  exact m_matches (N := N) (cs := cs) (m0 := L.length) (G := fun i => if i < L.length then f (L.getD i 0) &&& K else 0) (σ := σ) hL24 hN (fun i y z => by
    apply Classical.byContradiction
    intro c
    have z' : bt (if i < L.length then f (L.getD i 0) &&& K else 0) y = true := z
    rw [if_neg c, b_0] at z'
    cases z') (fun i hi => by
    show σ.1 110 i = if i < L.length then f (L.getD i 0) &&& K else 0
    rw [if_pos hi]
    exact h i hi)
/-- toldAtMost -/
theorem m_told {σ : hp_S} (hn : n ≤ 24) (hN : iv_N N) (e : σ.2.2.1 72 4 = nI n) (ef : ∀ j, j < 24 → σ.1 76 j = f j) : ∃ τ k, fr [110, 111, 112, 113] [] σ τ ∧ MT (tE f K (pkL (fun j => !bt K j) n)) k ∧ VC (tE f K (pkL (fun j => !bt K j) n)) k ∧ f284 N 72 K (hp σ, cs) = some (.inl (some (.int (nI k))), (hp τ, cs)) := by
  have hle := pkL_le (P := fun j => !bt K j) (v := n)
  obtain ⟨σ1, a1, a2⟩ := m_t4 (N := N) (cs := cs) (K := K) 24 0 N σ (by omega) (by unfold iv_N at hN; omega)
  obtain ⟨σ2, b1, b2, b3⟩ := m_t25 (N := N) (cs := cs) (f := f) (K := K) hn n 0 N σ1 (by omega) (by unfold iv_N at hN; omega) (by rw [a1.f List.not_mem_nil]; exact e) (fun j hj => by rw [a1.r (by decide)]; exact ef j hj) (fun i hi => absurd hi (Nat.not_lt_zero _))
  obtain ⟨τ, k, r1, r2, r3, r4⟩ := m_gl (N := N) (cs := cs) (show (pkL (fun j => !bt K j) n).length ≤ 24 by omega) hN b2
  refine ⟨τ, k, ((a1.tr b1).wk (fun _ z => by simp at z; simp [z]) (fun _ z => z)).tr (r1.wk (fun _ z => by simp at z; rcases z with z | z | z <;> simp [z]) (fun _ z => z)), r2, r3, ?_⟩
  unfold f284
  rw [show g284_4 N N 72 K 0 0 (hp σ, cs) = _ from a2]
  rw [show g284_25 N N 72 K 0 0 (hp σ1, cs) = _ from b3, r4, lf_ci_r]
/-- areTold -/
theorem m_areT {σ : hp_S} (hn : n ≤ 24) (hN : iv_N N) (e : σ.2.2.1 72 4 = nI n) (ef : ∀ j, j < 24 → σ.1 76 j = f j) : ∃ τ k, fr [110, 111, 112, 113] [] σ τ ∧ MT (tE f K (pkL (fun j => bt S j) n)) k ∧ VC (tE f K (pkL (fun j => bt S j) n)) k ∧ f283 N 72 K S (hp σ, cs) = some (.inl (some (.int (if k = (pkL (fun j => bt S j) n).length then 1 else 0))), (hp τ, cs)) := by
  have hle := pkL_le (P := fun j => bt S j) (v := n)
  obtain ⟨σ1, a1, a2⟩ := m_t5 (N := N) (cs := cs) (K := K) (S := S) 24 0 N σ (by omega) (by unfold iv_N at hN; omega)
  obtain ⟨σ2, b1, b2, b3⟩ := m_t29 (N := N) (cs := cs) (f := f) (K := K) (S := S) hn n 0 N σ1 (by omega) (by unfold iv_N at hN; omega) (by rw [a1.f List.not_mem_nil]; exact e) (fun j hj => by rw [a1.r (by decide)]; exact ef j hj) (fun i hi => absurd hi (Nat.not_lt_zero _))
  obtain ⟨τ, k, r1, r2, r3, r4⟩ := m_gl (N := N) (cs := cs) (show (pkL (fun j => bt S j) n).length ≤ 24 by omega) hN b2
  have hk : k ≤ 24 := by
    refine mt_vc r2 ⟨fun _ => true, fun _ => false, ?_, fun _ _ _ _ _ => Or.inl rfl⟩
    have e1 : sm (fun x => if (fun _ : Nat => true) x = true then 1 else 0) 24 = 24 := rfl
    have e2 : sm (fun y => if (fun _ : Nat => false) y = true then 1 else 0) 24 = 0 := rfl
    rw [e1, e2]
    omega
  refine ⟨τ, k, ((a1.tr b1).wk (fun _ z => by simp at z; simp [z]) (fun _ z => z)).tr (r1.wk (fun _ z => by simp at z; rcases z with z | z | z <;> simp [z]) (fun _ z => z)), r2, r3, ?_⟩
  unfold f283
  rw [show g283_5 N N 72 K S 0 0 (hp σ, cs) = _ from a2]
  rw [show g283_29 N N 72 K S 0 0 (hp σ1, cs) = _ from b3, r4, lf_ci_r]
  by_cases c : k = (pkL (fun j => bt S j) n).length
  · rw [if_neg (fun z => z (by rw [c])), if_pos c]
  · rw [if_pos (by rw [q_eq (by omega) (by omega)]; exact c), if_neg c]
end TE
