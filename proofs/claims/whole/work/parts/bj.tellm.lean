/-! tell, the model: its rows of sets -/
section TM
variable {cs : Nat × Nat} {N : Nat}
theorem m_k43 {x2 : Int32} : ∀ (m v u : Nat) (σ : hp_S), v + m = 1024 → m < u → ∃ τ, fr [115] [] σ τ ∧ (∀ j, j < 1024 → τ.1 115 j = if v ≤ j then 0 else σ.1 115 j) ∧ g285_43 N u 72 x2 (nI v) (hp σ, cs) = ((lf_fr (hp τ, cs) 72 12 73).bind fun v2 => (lf_wz (hp τ, cs) v2 (lf_shl 1 x2) 1).bind fun w4 => g285_74 N N 72 0 w4) := by
  intro m
  induction m with
  | zero =>
    intro v u σ hv hu
    obtain ⟨u, rfl⟩ : ∃ q, u = q + 1 := ⟨u - 1, by omega⟩
    refine ⟨σ, fr.rf, fun j hj => by rw [if_neg (by omega)], ?_⟩
    unfold g285_43
    rw [if_pos (show (1024 : Int32) ≤ nI v from nI_le (a := 1024) (by omega) (by omega))]
  | succ m ih =>
    intro v u σ hv hu
    obtain ⟨u, rfl⟩ : ∃ q, u = q + 1 := ⟨u - 1, by omega⟩
    obtain ⟨τ, q1, q2, q3⟩ := ih (v + 1) u (hp_wi σ 115 v 0) (by omega) (by omega)
    refine ⟨τ, (fr.wi (by decide)).tr q1, fun j hj => ?_, ?_⟩
    · rw [q2 j hj]
      by_cases c : j = v
      · rw [c, hp_wi_at, if_neg (by omega), if_pos (by omega)]
      · rw [hp_wi_nj c]
        by_cases d : v ≤ j
        · rw [if_pos d, if_pos (by omega)]
        · rw [if_neg d, if_neg (by omega)]
    · unfold g285_43
      rw [if_neg (show ¬ (1024 : Int32) ≤ nI v from nI_ge (b := 1024) (by omega) (by omega)), r72_73, b115 (by omega), nI_1]
      exact q3
theorem m_k202 {x3 : Int32} {k74 : Nat → Int32 → lf_W → lf_R} : ∀ (m v u : Nat) (σ : hp_S), v + m = 1024 → m < u → (∀ j, j < 1024 → σ.1 116 j = 0 ∨ σ.1 116 j = 1) → ∃ τ, fr [115, 116] [] σ τ ∧ (∀ j, j < 1024 → τ.1 115 j = if v ≤ j then σ.1 116 j else σ.1 115 j) ∧ (∀ j, j < 1024 → τ.1 116 j = if v ≤ j then 0 else σ.1 116 j) ∧ g285_202 N k74 u 72 x3 (nI v) (hp σ, cs) = k74 72 x3 (hp τ, cs) := by
  intro m
  induction m with
  | zero =>
    intro v u σ hv hu h01
    obtain ⟨u, rfl⟩ : ∃ q, u = q + 1 := ⟨u - 1, by omega⟩
    refine ⟨σ, fr.rf, fun j hj => by rw [if_neg (by omega)], fun j hj => by rw [if_neg (by omega)], ?_⟩
    unfold g285_202
    rw [if_pos (show (1024 : Int32) ≤ nI v from nI_le (a := 1024) (by omega) (by omega))]
  | succ m ih =>
    intro v u σ hv hu h01
    obtain ⟨u, rfl⟩ : ∃ q, u = q + 1 := ⟨u - 1, by omega⟩
    obtain ⟨τ, q1, q2, q3, q4⟩ := ih (v + 1) u (hp_wi (hp_wi σ 115 v (σ.1 116 v)) 116 v 0) (by omega) (by omega) (fun j hj => by
      by_cases c : j = v
      · rw [c, hp_wi_at]; exact Or.inl rfl
      · rw [hp_wi_nj c, hp_wi_ne (by decide)]; exact h01 j hj)
    refine ⟨τ, ((fr.wi (by decide)).tr (fr.wi (by decide))).tr q1, fun j hj => ?_, fun j hj => ?_, ?_⟩
    · rw [q2 j hj, hp_wi_ne (a := 116) (b := 115) (by decide)]
      by_cases c : j = v
      · rw [c, if_neg (by omega), if_pos (by omega), hp_wi_at]
      · rw [hp_wi_nj (a := 116) c, hp_wi_ne (by decide), hp_wi_nj c]
        by_cases d : v ≤ j
        · rw [if_pos d, if_pos (by omega)]
        · rw [if_neg d, if_neg (by omega)]
    · rw [q3 j hj]
      by_cases c : j = v
      · rw [c, if_neg (by omega), if_pos (by omega), hp_wi_at]
      · rw [hp_wi_nj c, hp_wi_ne (by decide)]
        by_cases d : v ≤ j
        · rw [if_pos d, if_pos (by omega)]
        · rw [if_neg d, if_neg (by omega)]
    · have en : vp_nar .boolean (σ.1 116 v) = σ.1 116 v := by
        rcases h01 v (by omega) with h | h
        · rw [h]; rfl
        · rw [h]; rfl
      unfold g285_202
      rw [if_neg (show ¬ (1024 : Int32) ≤ nI v from nI_ge (b := 1024) (by omega) (by omega)), r72_73, r72_74, a116 (by omega), b115 (by omega), r72_74, b116 (by omega), nI_1, en]
      exact q4
end TM
