theorem bd_or (d k : Int32) : (d < 1 ∨ 8 < d ∨ k < 0 ∨ 24 < k) ∨ ∃ a b, a < 8 ∧ b < 25 ∧ d = nI (a + 1) ∧ k = nI b := by
  by_cases h : d < 1 ∨ 8 < d ∨ k < 0 ∨ 24 < k
  · exact Or.inl h
  · simp only [not_or] at h
    obtain ⟨h1, h2, h3, h4⟩ := h
    rw [fa_lt] at h1 h2 h3 h4
    have e1 : (1 : Int32).toInt = 1 := rfl
    have e8 : (8 : Int32).toInt = 8 := rfl
    have e0 : (0 : Int32).toInt = 0 := rfl
    have e24 : (24 : Int32).toInt = 24 := rfl
    refine Or.inr ⟨d.toInt.toNat - 1, k.toInt.toNat, by omega, by omega, ?_, ?_⟩
    · apply Int32.toInt_inj.mp
      rw [nI_toInt (by omega)]
      omega
    · apply Int32.toInt_inj.mp
      rw [nI_toInt (by omega)]
      omega
/-- case 23: bound -/
theorem case_bound {J : iv_J} {rd : iv_rd} : iv_case J rd g327_1889 := by
  intro sc i σ cs hs hi hI
  have key : ∃ (τ : hp_S) (ds : Nat × Nat), iv J τ ∧ ds.1 ≤ cs.1 + 1 ∧ ds.2 ≤ cs.2 + 6 ∧ ∀ N, iv_N N → ∀ k : lf_W → lf_R, tl_I (tc_I [("java/lang/IllegalArgumentException", 1)] (f153 N 0 (sc.2 (i + 1)) (sc.2 (i + 2)) (hp σ, cs))) (fun w => f255 N 72 (sc.2 (i + 1)) (sc.2 (i + 2)) w) k = k (hp τ, ds) := by
    refine iv_askI hI ?_
    generalize sc.2 (i + 1) = d
    generalize sc.2 (i + 2) = k
    rcases bd_or d k with h | ⟨a, b, ha, hb, rfl, rfl⟩
    · refine Or.inr ⟨"java/lang/IllegalArgumentException", 1, σ, iv_kept.rf σ, by decide, rfl, fun N _ => ?_, fun σ' ds hI' hk => ⟨hp_wf (hp_wf σ' 72 0 0) 72 0 1, 0, iv_k0.tr iv_k0, hp_wf_at, fun N _ => ?_⟩⟩
      · unfold f153
        by_cases c1 : d < 1
        · rw [if_pos c1]
        rw [if_neg c1]
        by_cases c2 : 8 < d
        · rw [if_pos c2]
        rw [if_neg c2]
        by_cases c3 : k < 0
        · rw [if_pos c3]
        rw [if_neg c3, if_neg (fun q => ?_)]
        rcases h with h | h | h | h
        · exact c1 h
        · exact c2 h
        · exact c3 h
        · rw [fa_lt] at h
          rw [fa_le] at q
          omega
      · unfold f255 g255_30 g255_31
        rw [m_w0, Option.bind_some]
        by_cases c1 : d < 1
        · rw [m_within_lo c1, lf_ci_r, if_pos rfl, if_pos hp_m, m_rf hp_wf_at (by decide), lf_ci_r, if_neg (fun q => q rfl)]
        by_cases c2 : 8 < d
        · rw [m_within_hi c2, lf_ci_r, if_pos rfl, if_pos hp_m, m_rf hp_wf_at (by decide), lf_ci_r, if_neg (fun q => q rfl)]
        rw [m_within_in c1 c2, lf_ci_r, if_neg (by decide)]
        by_cases c3 : k < 0
        · rw [m_within_lo c3, lf_ci_r, if_pos rfl, if_pos hp_m, m_rf hp_wf_at (by decide), lf_ci_r, if_neg (fun q => q rfl)]
        have c4 : 24 < k := by
          rcases h with h | h | h | h
          · exact absurd h c1
          · exact absurd h c2
          · exact absurd h c3
          · exact h
        rw [m_within_hi c4, lf_ci_r, if_pos rfl, if_pos hp_m, m_rf hp_wf_at (by decide), lf_ci_r, if_neg (fun q => q rfl)]
    · obtain ⟨e1, e2⟩ := bd_all a ha b hb
      cases ev : bdC 30 (nI (a + 1)) (nI b) 1 (nI (a + 1)).toInt64 0 with
      | none => rw [ev] at e1; cases e1
      | some v =>
        refine Or.inl ⟨v, σ, iv_kept.rf σ, fun N hN => ?_, fun σ' hI' hk => ⟨hp_wf σ' 72 0 0, iv_k0, rfl, hp_wf_at, fun N hN => ?_⟩⟩
        · unfold f153
          rw [if_neg (nI_nlt1 (by omega) (by omega)), if_neg (show ¬ (8 : Int32) < nI (a + 1) from nI_nlt (a := 8) (by omega) (by omega)), if_neg (nI_pos (by omega)), if_pos (show nI b ≤ 24 from nI_le (b := 24) (by omega) (by omega))]
          exact bdC_ok 30 N _ _ _ _ (by unfold iv_N at hN; omega) ev
        · unfold f255 g255_31
          rw [m_w0, Option.bind_some, m_within_in (nI_nlt1 (by omega) (by omega)) (show ¬ (8 : Int32) < nI (a + 1) from nI_nlt (a := 8) (by omega) (by omega)), lf_ci_r, if_neg (by decide), m_within_in (show ¬ nI b < 0 from nI_pos (by omega)) (show ¬ (24 : Int32) < nI b from nI_nlt (a := 24) (by omega) (by omega)), lf_ci_r, if_neg (by decide), if_pos hp_m, m_rt hp_wf_at (by decide), lf_ci_r, if_pos (by decide)]
          exact bdM_ok 30 N _ _ _ _ (by unfold iv_N at hN; omega) (e2.symm.trans ev)
  obtain ⟨τ, ds, q1, q2, q3, q4⟩ := key
  refine ⟨τ, ds, q1, q2, q3, fun N hN k23 => ?_⟩
  rw [← q4 N hN (k23 (nI i + 6))]
  unfold g327_1889 h312 f312
  simp only [iv_s1 hs hi, iv_s2 hs hi, Option.bind_some, if_pos hp_x]
  rfl
