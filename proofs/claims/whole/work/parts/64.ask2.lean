/-- case 28: laid -/
theorem case_laid {J : iv_J} {rd : iv_rd} : iv_case J rd g327_2217 := by
  intro sc i σ cs hs hi hI
  have key : ∃ (τ : hp_S) (ds : Nat × Nat), iv J τ ∧ ds.1 ≤ cs.1 + 1 ∧ ds.2 ≤ cs.2 + 6 ∧ ∀ N, iv_N N → ∀ k : lf_W → lf_R, tl_I (tc_I [("java/util/NoSuchElementException", 1)] (f158 N 0 (sc.2 (i + 1)) (hp σ, cs))) (fun w => f268 N 72 (sc.2 (i + 1)) w) k = k (hp τ, ds) := by
    refine iv_askI hI ?_
    generalize sc.2 (i + 1) = x
    obtain ⟨m, hm, e1, e2, e3⟩ := hI.2.2.2.2.2.1
    rcases pk_ix x (n := m) (by omega) with h | h | ⟨j, hj, rfl⟩
    · refine Or.inr ⟨"java/util/NoSuchElementException", 1, σ, iv_kept.rf σ, by decide, rfl, fun N _ => ?_, fun σ' ds hI' hk => ⟨hp_wf (hp_wf σ' 72 0 0) 72 0 1, 0, iv_k0.tr iv_k0, hp_wf_at, fun N _ => ?_⟩⟩
      · unfold f158
        rw [if_pos h]
      · unfold f268 g268_22 g268_23
        rw [m_w0, Option.bind_some, if_pos h, if_pos hp_m, m_rf hp_wf_at (by decide), lf_ci_r, if_pos rfl]
    · have h9 : ¬ x < 0 := by
        rw [fa_lt]
        rw [fa_le, nI_toInt (by omega)] at h
        show ¬ x.toInt < 0
        omega
      refine Or.inr ⟨"java/util/NoSuchElementException", 1, σ, iv_kept.rf σ, by decide, rfl, fun N _ => ?_, fun σ' ds hI' hk => ⟨hp_wf (hp_wf σ' 72 0 0) 72 0 1, 0, iv_k0.tr iv_k0, hp_wf_at, fun N _ => ?_⟩⟩
      · unfold f158
        rw [if_neg h9, hp_fr (a := 0) (b := 57) rfl rfl, Option.bind_some, hp_fi (a := 57) rfl rfl, Option.bind_some, e1, if_pos h]
      · unfold f268 g268_22 g268_23
        rw [m_w0, Option.bind_some, if_neg h9, hp_fi (a := 72) (k := 60) rfl rfl, Option.bind_some, hp_wf_ne (by decide), hk.2.2.2.2.2.2.2.1 60 (by omega), e2, if_pos h, if_pos hp_m, m_rf hp_wf_at (by decide), lf_ci_r, if_pos rfl]
    · refine Or.inl ⟨σ.1 58 j, σ, iv_kept.rf σ, fun N _ => ?_, fun σ' hI' hk => ⟨hp_wf σ' 72 0 0, iv_k0, rfl, hp_wf_at, fun N _ => ?_⟩⟩
      · unfold f158
        rw [if_neg (nI_pos (by omega)), hp_fr (a := 0) (b := 57) rfl rfl, Option.bind_some, hp_fi (a := 57) rfl rfl, Option.bind_some, e1, if_neg (nI_ge hj (by omega)), if_pos (show nI j < 24 from nI_lt (b := 24) (by omega) (by omega)), Option.bind_some, hp_fr (a := 57) (b := 58) rfl rfl, Option.bind_some, hp_ri (a := 58) (n := 24) rfl (pm_in_iff.mpr (vp_in_nI (by omega) (by omega))), Option.bind_some, nI_clamp (by omega)]
      · unfold f268 g268_22 g268_23
        rw [m_w0, Option.bind_some, if_neg (nI_pos (by omega)), hp_fi (a := 72) (k := 60) rfl rfl, Option.bind_some, hp_wf_ne (by decide), hk.2.2.2.2.2.2.2.1 60 (by omega), e2, if_neg (nI_ge hj (by omega)), if_pos hp_m, m_rt hp_wf_at (by decide), lf_ci_r, if_neg (by decide), hp_fr (a := 72) (b := 104) rfl rfl, Option.bind_some, hp_ri (a := 104) (n := 24) rfl (pm_in_iff.mpr (vp_in_nI (by omega) (by omega))), Option.bind_some, nI_clamp (by omega)]
        show some (Sum.inl (some (Value.int (σ'.1 104 j))), _) = _
        rw [hk.1 104 (by omega), ← e3 j hj]
  obtain ⟨τ, ds, q1, q2, q3, q4⟩ := key
  refine ⟨τ, ds, q1, q2, q3, fun N hN k23 => ?_⟩
  rw [← q4 N hN (k23 (nI i + 6))]
  unfold g327_2217 h317 f317
  simp only [iv_s1 hs hi, Option.bind_some, if_pos hp_x]
  rfl
theorem m_thr {σ : hp_S} {x : Int32} : (hp_wf σ 72 0 x).2.2.1 72 0 = x := hp_wf_at
/-- case 22: found -/
theorem case_found {J : iv_J} {rd : iv_rd} : iv_case J rd g327_1833 := by
  intro sc i σ cs hs hi hI
  have key : ∃ (τ : hp_S) (ds : Nat × Nat), iv J τ ∧ ds.1 ≤ cs.1 + 1 ∧ ds.2 ≤ cs.2 + 6 ∧ ∀ N, iv_N N → ∀ k : lf_W → lf_R, tl_I (tc_I [("java/util/NoSuchElementException", 1)] (f152 N 0 (sc.2 (i + 1)) (hp σ, cs))) (fun w => f254 N 72 (sc.2 (i + 1)) w) k = k (hp τ, ds) := by
    refine iv_askI hI ?_
    generalize sc.2 (i + 1) = x
    obtain ⟨e0, e1, e2⟩ := hI.2.2.2.1
    rcases e0 with e0 | e0
    · refine Or.inr ⟨"java/util/NoSuchElementException", 1, σ, iv_kept.rf σ, by decide, rfl, fun N _ => ?_, fun σ' ds hI' hk => ⟨hp_wf (hp_wf σ' 72 0 0) 72 0 1, 0, iv_k0.tr iv_k0, hp_wf_at, fun N _ => ?_⟩⟩
      · unfold f152
        rw [hp_fr (a := 0) (b := 44) rfl rfl, Option.bind_some, hp_fi (a := 44) rfl rfl, Option.bind_some, e0, if_neg (fun q => q rfl)]
      · unfold f254 g254_26 g254_27
        rw [m_w0, Option.bind_some, hp_fi (a := 72) (k := 45) rfl rfl, Option.bind_some, hp_wf_ne (by decide), hk.2.2.2.2.2.2.2.1 45 (by omega), ← e1, e0, if_pos rfl, if_pos hp_m, m_rf hp_wf_at (by decide), lf_ci_r, if_neg (fun q => q rfl)]
    · obtain ⟨u1, u2, u3, u4⟩ := e2 e0
      have ec : ∀ N, f152 N 0 x (hp σ, cs) = if x = 0 then some (.inl (some (.int (σ.2.2.1 44 1))), (hp σ, cs)) else if x = 1 then some (.inl (some (.int (σ.2.2.1 44 2))), (hp σ, cs)) else if x = 2 then some (.inl (some (.int (σ.2.2.1 44 3))), (hp σ, cs)) else if x = 3 then some (.inl (some (.int (σ.2.2.1 44 4))), (hp σ, cs)) else lf_thr "java/util/NoSuchElementException" (hp σ, cs) := by
        intro N
        unfold f152
        rw [hp_fr (a := 0) (b := 44) rfl rfl, Option.bind_some, hp_fi (a := 44) (k := 0) rfl rfl, Option.bind_some, e0, if_pos (by decide), Option.bind_some, hp_fi (a := 44) (k := 1) rfl rfl, Option.bind_some, Option.bind_some, hp_fi (a := 44) (k := 2) rfl rfl, Option.bind_some, Option.bind_some, hp_fi (a := 44) (k := 3) rfl rfl, Option.bind_some, Option.bind_some, hp_fi (a := 44) (k := 4) rfl rfl, Option.bind_some]
      have em : ∀ N σ' ds, iv_kept σ σ' → ¬ x < 0 → ¬ 3 < x → f254 N 72 x (hp σ', ds) = some (.inl (some (.int (if ¬ x = 0 then (if ¬ x = 1 then (if ¬ x = 2 then σ.2.2.1 72 49 else σ.2.2.1 72 48) else σ.2.2.1 72 47) else σ.2.2.1 72 46))), (hp (hp_wf σ' 72 0 0), ds)) := by
        intro N σ' ds hk q1 q2
        unfold f254 g254_27
        rw [m_w0, Option.bind_some, hp_fi (a := 72) (k := 45) rfl rfl, Option.bind_some, hp_wf_ne (by decide), hk.2.2.2.2.2.2.2.1 45 (by omega), ← e1, e0, if_neg (by decide), if_neg q1, if_neg q2, if_pos hp_m, m_rt hp_wf_at (by decide), lf_ci_r, if_pos (by decide), hp_fi (a := 72) (k := 49) rfl rfl, Option.bind_some, hp_fi (a := 72) (k := 48) rfl rfl, Option.bind_some, hp_fi (a := 72) (k := 47) rfl rfl, Option.bind_some, hp_fi (a := 72) (k := 46) rfl rfl, Option.bind_some, hp_wf_ne (by decide), hp_wf_ne (by decide), hp_wf_ne (by decide), hp_wf_ne (by decide), hk.2.2.2.2.2.2.2.1 49 (by omega), hk.2.2.2.2.2.2.2.1 48 (by omega), hk.2.2.2.2.2.2.2.1 47 (by omega), hk.2.2.2.2.2.2.2.1 46 (by omega)]
        by_cases c0 : x = 0
        · rw [if_neg (fun q => q c0), if_neg (fun q => q c0)]
        · rw [if_pos c0, if_pos c0]
          by_cases c1 : x = 1
          · rw [if_neg (fun q => q c1), if_neg (fun q => q c1)]
          · rw [if_pos c1, if_pos c1]
            by_cases c2 : x = 2
            · rw [if_neg (fun q => q c2), if_neg (fun q => q c2)]
            · rw [if_pos c2, if_pos c2]
      by_cases c0 : x = 0
      · refine Or.inl ⟨σ.2.2.1 44 1, σ, iv_kept.rf σ, fun N _ => by rw [ec, if_pos c0], fun σ' hI' hk => ⟨hp_wf σ' 72 0 0, iv_k0, rfl, hp_wf_at, fun N _ => ?_⟩⟩
        rw [em N σ' cs hk (by rw [c0]; decide) (by rw [c0]; decide), if_neg (fun q => q c0), u1]
      · by_cases c1 : x = 1
        · refine Or.inl ⟨σ.2.2.1 44 2, σ, iv_kept.rf σ, fun N _ => by rw [ec, if_neg c0, if_pos c1], fun σ' hI' hk => ⟨hp_wf σ' 72 0 0, iv_k0, rfl, hp_wf_at, fun N _ => ?_⟩⟩
          rw [em N σ' cs hk (by rw [c1]; decide) (by rw [c1]; decide), if_pos c0, if_neg (fun q => q c1), u2]
        · by_cases c2 : x = 2
          · refine Or.inl ⟨σ.2.2.1 44 3, σ, iv_kept.rf σ, fun N _ => by rw [ec, if_neg c0, if_neg c1, if_pos c2], fun σ' hI' hk => ⟨hp_wf σ' 72 0 0, iv_k0, rfl, hp_wf_at, fun N _ => ?_⟩⟩
            rw [em N σ' cs hk (by rw [c2]; decide) (by rw [c2]; decide), if_pos c0, if_pos c1, if_neg (fun q => q c2), u3]
          · by_cases c3 : x = 3
            · refine Or.inl ⟨σ.2.2.1 44 4, σ, iv_kept.rf σ, fun N _ => by rw [ec, if_neg c0, if_neg c1, if_neg c2, if_pos c3], fun σ' hI' hk => ⟨hp_wf σ' 72 0 0, iv_k0, rfl, hp_wf_at, fun N _ => ?_⟩⟩
              rw [em N σ' cs hk (by rw [c3]; decide) (by rw [c3]; decide), if_pos c0, if_pos c1, if_pos c2, u4]
            · refine Or.inr ⟨"java/util/NoSuchElementException", 1, σ, iv_kept.rf σ, by decide, rfl, fun N _ => by rw [ec, if_neg c0, if_neg c1, if_neg c2, if_neg c3], fun σ' ds hI' hk => ⟨hp_wf (hp_wf σ' 72 0 0) 72 0 1, 0, iv_k0.tr iv_k0, hp_wf_at, fun N _ => ?_⟩⟩
              unfold f254 g254_26 g254_27
              rw [m_w0, Option.bind_some, hp_fi (a := 72) (k := 45) rfl rfl, Option.bind_some, hp_wf_ne (by decide), hk.2.2.2.2.2.2.2.1 45 (by omega), ← e1, e0, if_neg (by decide)]
              rcases lf_sw0_3 c0 c1 c2 c3 with q | q
              · rw [if_pos (show x < 0 by rw [fa_lt]; exact q), if_pos hp_m, m_rf hp_wf_at (by decide), lf_ci_r, if_neg (fun q => q rfl)]
              · rw [if_neg (show ¬ x < 0 by rw [fa_lt]; show ¬ x.toInt < 0; omega), if_pos (show 3 < x by rw [fa_lt]; exact q), if_pos hp_m, m_rf hp_wf_at (by decide), lf_ci_r, if_neg (fun q => q rfl)]
  obtain ⟨τ, ds, q1, q2, q3, q4⟩ := key
  refine ⟨τ, ds, q1, q2, q3, fun N hN k23 => ?_⟩
  rw [← q4 N hN (k23 (nI i + 6))]
  unfold g327_1833 h311 f311
  simp only [iv_s1 hs hi, Option.bind_some, if_pos hp_x]
  rfl
