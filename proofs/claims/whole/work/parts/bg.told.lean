/-! tell, the model: how many can be told at most; can these be told -/
section TD
variable {cs : Nat × Nat} {N n : Nat} {f : Nat → Int32} {K S : Int32}
def pkL (P : Nat → Bool) (v : Nat) : List Nat := (List.range v).filter P
theorem pkL_s {P : Nat → Bool} {v : Nat} : pkL P (v + 1) = if P v = true then pkL P v ++ [v] else pkL P v := by
  unfold pkL
  rw [List.range_succ, List.filter_append]
  by_cases c : P v = true
  · rw [if_pos c]
    simp only [List.filter, c]
  · rw [if_neg c]
    have c' : P v = false := by
      cases h : P v with
      | false => rfl
      | true => exact absurd h c
    simp only [List.filter, c']
    exact List.append_nil _
theorem pkL_le {P : Nat → Bool} {v : Nat} : (pkL P v).length ≤ v := by
  unfold pkL
  have := List.length_filter_le P (List.range v)
  rw [List.length_range] at this
  exact this
/-- goals: the neighbours that know, of those with P, in order -/
def GL (σ : hp_S) (f : Nat → Int32) (K : Int32) (L : List Nat) : Prop := ∀ i, i < L.length → σ.1 110 i = f (L.getD i 0) &&& K
theorem GL.add {σ : hp_S} {L : List Nat} {v : Nat} (h : GL σ f K L) : GL (hp_wi σ 110 L.length (f v &&& K)) f K (L ++ [v]) := by
  intro i hi
  rw [List.length_append, List.length_singleton] at hi
  by_cases c : i = L.length
  · subst c
    rw [hp_wi_at]
    congr 2
    rw [List.getD_eq_getElem?_getD, List.getElem?_append_right (Nat.le_refl _), Nat.sub_self]
    rfl
  · rw [hp_wi_nj c, h i (by omega)]
    congr 2
    rw [List.getD_eq_getElem?_getD, List.getD_eq_getElem?_getD, List.getElem?_append_left (by omega)]
theorem m_t25 (hn : n ≤ 24) : ∀ (m v u : Nat) (σ : hp_S), v + m = n → m < u → σ.2.2.1 72 4 = nI n → (∀ j, j < 24 → σ.1 76 j = f j) → GL σ f K (pkL (fun j => !bt K j) v) → ∃ τ, fr [110] [] σ τ ∧ GL τ f K (pkL (fun j => !bt K j) n) ∧ g284_25 N u 72 K (nI (pkL (fun j => !bt K j) v).length) (nI v) (hp σ, cs) = lf_ci (f276 N 72 (nI (pkL (fun j => !bt K j) n).length) (hp τ, cs)) fun v10 w4 => some (.inl (some (.int v10)), w4) := by
  intro m
  induction m with
  | zero =>
    intro v u σ hv hu e ef hL
    obtain ⟨u, rfl⟩ : ∃ q, u = q + 1 := ⟨u - 1, by omega⟩
    have : v = n := by omega
    subst this
    refine ⟨σ, fr.rf, hL, ?_⟩
    unfold g284_25
    rw [i72_4, e, if_pos (nI_le (by omega) (by omega)), o72]
  | succ m ih =>
    intro v u σ hv hu e ef hL
    obtain ⟨u, rfl⟩ : ∃ q, u = q + 1 := ⟨u - 1, by omega⟩
    have hle := pkL_le (P := fun j => !bt K j) (v := v)
    unfold g284_25 g284_62
    rw [i72_4, e, if_neg (nI_ge (by omega) (by omega)), sh_bit (by omega)]
    by_cases c : bt K v = true
    · have ep : pkL (fun j => !bt K j) (v + 1) = pkL (fun j => !bt K j) v := by
        rw [pkL_s, if_neg (by rw [c]; decide)]
      obtain ⟨τ, q1, q2, q3⟩ := ih (v + 1) u σ (by omega) (by omega) e ef (by rw [ep]; exact hL)
      refine ⟨τ, q1, q2, ?_⟩
      rw [ep] at q3
      rw [if_pos c, if_neg (fun z => z rfl), nI_1]
      exact q3
    · have c' : bt K v = false := ts_nt c
      have ep : pkL (fun j => !bt K j) (v + 1) = pkL (fun j => !bt K j) v ++ [v] := by
        rw [pkL_s, if_pos (by rw [c']; rfl)]
      obtain ⟨τ, q1, q2, q3⟩ := ih (v + 1) u (hp_wi σ 110 (pkL (fun j => !bt K j) v).length (f v &&& K)) (by omega) (by omega) e (fun j hj => by rw [hp_wi_ne (by decide)]; exact ef j hj) (by rw [ep]; exact hL.add)
      refine ⟨τ, (fr.wi (by decide)).tr q1, q2, ?_⟩
      rw [ep, List.length_append, List.length_singleton] at q3
      rw [if_neg c, if_pos (by decide), r72_68, r72_6, a76 (by omega), ef v (by omega), b110 (by omega), nI_1, nI_1]
      exact q3
theorem m_t29 (hn : n ≤ 24) : ∀ (m v u : Nat) (σ : hp_S), v + m = n → m < u → σ.2.2.1 72 4 = nI n → (∀ j, j < 24 → σ.1 76 j = f j) → GL σ f K (pkL (fun j => bt S j) v) → ∃ τ, fr [110] [] σ τ ∧ GL τ f K (pkL (fun j => bt S j) n) ∧ g283_29 N u 72 K S (nI (pkL (fun j => bt S j) v).length) (nI v) (hp σ, cs) = lf_ci (f276 N 72 (nI (pkL (fun j => bt S j) n).length) (hp τ, cs)) fun v10 w4 => if ¬ v10 = nI (pkL (fun j => bt S j) n).length then (some (.inl (some (.int 0)), w4)) else (some (.inl (some (.int 1)), w4)) := by
  intro m
  induction m with
  | zero =>
    intro v u σ hv hu e ef hL
    obtain ⟨u, rfl⟩ : ∃ q, u = q + 1 := ⟨u - 1, by omega⟩
    have : v = n := by omega
    subst this
    refine ⟨σ, fr.rf, hL, ?_⟩
    unfold g283_29
    rw [i72_4, e, if_pos (nI_le (by omega) (by omega)), o72]
  | succ m ih =>
    intro v u σ hv hu e ef hL
    obtain ⟨u, rfl⟩ : ∃ q, u = q + 1 := ⟨u - 1, by omega⟩
    have hle := pkL_le (P := fun j => bt S j) (v := v)
    unfold g283_29 g283_68
    rw [i72_4, e, if_neg (nI_ge (by omega) (by omega)), sh_bit (by omega)]
    by_cases c : bt S v = true
    · have ep : pkL (fun j => bt S j) (v + 1) = pkL (fun j => bt S j) v ++ [v] := by
        rw [pkL_s, if_pos c]
      obtain ⟨τ, q1, q2, q3⟩ := ih (v + 1) u (hp_wi σ 110 (pkL (fun j => bt S j) v).length (f v &&& K)) (by omega) (by omega) e (fun j hj => by rw [hp_wi_ne (by decide)]; exact ef j hj) (by rw [ep]; exact hL.add)
      refine ⟨τ, (fr.wi (by decide)).tr q1, q2, ?_⟩
      rw [ep, List.length_append, List.length_singleton] at q3
      rw [if_pos c, if_pos (by decide), r72_68, r72_6, a76 (by omega), ef v (by omega), b110 (by omega), nI_1, nI_1]
      exact q3
    · have ep : pkL (fun j => bt S j) (v + 1) = pkL (fun j => bt S j) v := by
        rw [pkL_s, if_neg c]
      obtain ⟨τ, q1, q2, q3⟩ := ih (v + 1) u σ (by omega) (by omega) e ef (by rw [ep]; exact hL)
      refine ⟨τ, q1, q2, ?_⟩
      rw [ep] at q3
      rw [if_neg c, if_neg (fun z => z rfl), nI_1]
      exact q3
end TD
