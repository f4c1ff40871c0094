/-! case grow -/
theorem case_grow {J : iv_J} {rd : iv_rd} {N : Nat} (hN : iv_N N) : iv_caseN J rd N g327_2712 := by
  intro sc i σ cs hs hi hI
  have key : ∃ (τ : hp_S) (ds : Nat × Nat), iv J τ ∧ ds.1 ≤ cs.1 + 1 ∧ ds.2 ≤ cs.2 + 6 ∧ ∀ k : lf_W → lf_R, tl_I (tc_I [("java/util/NoSuchElementException", 1), ("java/lang/IllegalArgumentException", 2)] (f165 N 0 (sc.2 (i + 1)) (sc.2 (i + 2)) (hp σ, cs))) (fun w => f288 N 72 (sc.2 (i + 1)) (sc.2 (i + 2)) w) k = k (hp τ, ds) := by
    generalize sc.2 (i + 1) = x
    generalize sc.2 (i + 2) = y
    refine putI (x := x) hI hN rfl (fun h => ?_) (fun σ' ds w h => ?_) (fun s n d f hs8 hx hg hv => ?_)
    · unfold f165
      rw [o0, c_held_no h]
      rfl
    · unfold f288
      rw [o72, h, lf_ci_r, if_pos rfl]
    · subst hx
      have hn1 := hg.1
      have hn := hg.2.1
      have h96 := hg.l96
      have hne : ¬ σ.2.2.1 (2 + 2 * s) 1 = 0 := by rw [hv.1]; exact nI_ne0 (by omega) (by omega)
      have hsw := hI.2.2.2.2.2.2.2
      by_cases good : ∃ M, (M = 1 ∨ M = 2) ∧ y = nI M
      · obtain ⟨M, hM, rfl⟩ := good
        have hc1 : ¬ nI M < 1 := by rcases hM with rfl | rfl <;> decide
        have hc2 : nI M ≤ 2 := by rcases hM with rfl | rfl <;> decide
        have prm : ∀ (σ' μ : hp_S) (ds : Nat × Nat), MV μ n d f → f178 N 72 (nI s) (hp σ', ds) = some (.inl (some (.int 1)), (hp μ, ds)) → f288 N 72 (nI s) (nI M) (hp σ', ds) = g288_24 N 72 (nI s) (nI M) 1 72 (hp μ, ds) := by
          intro σ' μ ds hm hl
          unfold f288 g288_19
          rw [o72, hl, lf_ci_r, if_neg (by decide)]
          rcases hM with rfl | rfl
          · rw [if_pos (show nI 1 = 1 from rfl)]
          · rw [if_neg nI2_1, if_neg (fun z => z rfl)]
        by_cases h24 : n = 24
        · refine Or.inl (Or.inl ⟨-1, σ, iv_kept.rf σ, ?_, fun σ' μ ds hm hl => ⟨μ, iv_kept.rf μ, rfl, hm.2.2.1, ?_⟩⟩)
          · unfold f165
            rw [o0, c_held hs8 hne, lf_cr_r, if_neg hc1, if_pos hc2, sN_1 hs8, hv.1, h24, if_neg (by decide)]
          · show f288 N 72 (nI s) (nI M) (hp σ', ds) = _
            rw [prm σ' μ ds hm hl]
            unfold g288_24
            rw [o72, m_rt hm.2.2.1 (by decide), lf_ci_r, if_pos (by decide), i72_4, hm.1, h24, if_neg (fun z => z rfl)]
        · have hn23 : n ≤ 23 := by omega
          have prC : f165 N 0 (nI s) (nI M) (hp σ, cs) = lf_ci (f11 N 42 (2 + 2 * s) (nI M) (hp σ, cs)) fun v21 w15 => some (.inl (some (.int v21)), w15) := by
            unfold f165
            rw [o0, c_held hs8 hne, lf_cr_r, if_neg hc1, if_pos hc2, sN_1 hs8, hv.1, if_pos (show nI n < 24 from nI_lt (b := 24) (by omega) (by omega)), r0_7, o42]
          have prM : ∀ (μ : hp_S) (ds : Nat × Nat), MV μ n d f → ∃ τ, fr [76, 79, 80] [(72, 4), (72, 20)] μ τ ∧ MW τ n d f ∧ (∀ k, k < 24 → τ.1 76 k = f k) ∧ g288_24 N 72 (nI s) (nI M) 1 72 (hp μ, ds) = g288_81 N N 72 (nI s) (nI M) (-1) (-1) (-1) 0 (hp τ, ds) := by
            intro μ ds hm
            obtain ⟨τ, q1, q2, q3⟩ := m_lists (σ := μ) (N := N) (cs := ds) (f := f) hn hN hm.1 (fun k hk => hm.2.2.2 k (by omega)) h96
            have hm2 := hm.kept q1 (by decide) (by decide) (by decide) (by decide)
            have w1 : fr [76, 79, 80] [(72, 4), (72, 20)] τ (hp_wi (hp_wf τ 72 4 (nI (n + 1))) 76 n 0) := (fr.wf (by decide)).tr (fr.wi (by decide))
            refine ⟨hp_wi (hp_wf τ 72 4 (nI (n + 1))) 76 n 0, (q1.wk (fun _ z => by simp at z; rcases z with z | z <;> simp [z]) (fun _ z => by simp at z; simp [z])).tr w1, ⟨?_, ?_, ?_, ?_, ?_⟩, ?_, ?_⟩
            · show (hp_wf τ 72 4 (nI (n + 1))).2.2.1 72 4 = _
              rw [hp_wf_at]
            · show (hp_wf τ 72 4 (nI (n + 1))).2.2.1 72 5 = _
              rw [hp_wf_ne (by decide)]; exact hm2.2.1
            · show (hp_wf τ 72 4 (nI (n + 1))).2.2.1 72 0 = _
              rw [hp_wf_ne (by decide)]; exact hm2.2.2.1
            · show (hp_wf τ 72 4 (nI (n + 1))).2.2.1 72 20 = _
              rw [hp_wf_ne (by decide)]; exact q2.1
            · intro i a b z
              rw [hp_wi_ne (by decide), hp_wi_ne (by decide)]
              exact q2.2 i a b z
            · intro k hk
              by_cases c : k = n
              · rw [c, hp_wi_at, f_n0 hg hn23]
              · rw [hp_wi_nj c]
                exact hm2.2.2.2 k hk
            · unfold g288_24
              rw [o72, m_rt hm.2.2.1 (by decide), lf_ci_r, if_pos (by decide), i72_4, hm.1, if_pos (show ¬ nI n = 24 by rw [show (24 : Int32) = nI 24 from rfl, q_eq (by omega) (by omega)]; exact h24), o72, q3, lf_cv_r, i72_4, hm2.1, nI_1, w72_4, r72_6, i72_4, hp_wf_at, nI_m1, b76 (by omega)]
          obtain ⟨c1, c2, c3⟩ := c_add (σ := σ) (cs := cs) (N := N) hM hs8 hg hn23 hN hv hsw.1
          cases hb : (gst M f n).2 with
          | none =>
            obtain ⟨τ, t1, t2, t3⟩ := c2 hb
            refine Or.inl (Or.inl ⟨-1, τ, t1.keptS rfl rfl (fun h => h.of t1 t2 (by decide) (by decide) (by decide) (by decide)), ?_, fun σ' μ ds hm hl => ?_⟩)
            · rw [prC, t3, lf_ci_r]
            · obtain ⟨υ, v1, v2, v3, v4⟩ := prM μ ds hm
              obtain ⟨ω, w1, w2, w3⟩ := (m_add (cs := ds) (N := N) (x1 := nI s) hM hg hn23 hN v2 v3).1 hb
              refine ⟨ω, (v1.kept rfl rfl).tr (w1.kept rfl rfl), by rw [w1.l (by decide), v1.l (by decide)], w2, ?_⟩
              show f288 N 72 (nI s) (nI M) (hp σ', ds) = _
              rw [prm σ' μ ds hm hl, v4, w3]
          | some r =>
            obtain ⟨i1, j1⟩ := r
            obtain ⟨τ, t1, t2, t3, t4⟩ := c3 i1 j1 hb
            rcases c1 with z | ⟨i', j', z1, z2, z3, z4, z5⟩
            · rw [hb] at z; cases z.1
            rw [hb] at z1
            cases z1
            refine Or.inr ⟨nI (gst M f n).1, τ, n + 1, dM d M, fG M f n (lq f n 0 n) i1 j1, fG_GW hM hg hn23 z2 z3 z4, CP.of (A := [30, 31, 43]) (F := F29) t1 rfl rfl (fun h => h.of t1 t2 ?_ ?_ ?_ ?_), t3, ?_, fun σ' μ ds hm hl => ?_⟩
            · simp [F29] <;> omega
            · simp [F29] <;> omega
            · simp [F29] <;> omega
            · simp [F29] <;> omega
            · rw [prC, t4, lf_ci_r]
            · obtain ⟨υ, v1, v2, v3, v4⟩ := prM μ ds hm
              obtain ⟨ω, w1, w2, w3⟩ := (m_add (cs := ds) (N := N) (x1 := nI s) hM hg hn23 hN v2 v3).2 i1 j1 hb
              refine ⟨ω, (v1.kept rfl rfl).tr (w1.kept rfl rfl), by rw [w1.l (by decide), v1.l (by decide)], w2, ?_⟩
              show f288 N 72 (nI s) (nI M) (hp σ', ds) = _
              rw [prm σ' μ ds hm hl, v4, w3, m_keeps hs8 hN, lf_cv_r]
      · have b1 : ¬ y = 1 := fun z => good ⟨1, Or.inl rfl, z⟩
        have b2 : ¬ y = 2 := fun z => good ⟨2, Or.inr rfl, z⟩
        refine Or.inl (Or.inr ⟨"java/lang/IllegalArgumentException", 2, σ, iv_kept.rf σ, by decide, rfl, ?_, fun σ' μ ds hm hl => ⟨hp_wf μ 72 0 2, 0, iv_kept.wm (by omega), hp_wf_at, ?_⟩⟩)
        · unfold f165
          rw [o0, c_held hs8 hne, lf_cr_r]
          by_cases c1 : y < 1
          · rw [if_pos c1]
          · rw [if_neg c1]
            by_cases c2 : y ≤ 2
            · exfalso
              rw [fa_lt] at c1
              rw [fa_le] at c2
              have e1 : (1 : Int32).toInt = 1 := rfl
              have e2 : (2 : Int32).toInt = 2 := rfl
              rcases (show y.toInt = 1 ∨ y.toInt = 2 by omega) with z | z
              · exact b1 (Int32.toInt_inj.mp (z.trans e1.symm))
              · exact b2 (Int32.toInt_inj.mp (z.trans e2.symm))
            · rw [if_neg c2]
        · show f288 N 72 (nI s) y (hp σ', ds) = _
          unfold f288 g288_24
          rw [o72, hl, lf_ci_r, if_neg (by decide), if_neg b1, if_pos b2, o72, m_rf hm.2.2.1 (by decide), lf_ci_r, if_neg (fun z => z rfl)]
  obtain ⟨τ, ds, q1, q2, q3, q4⟩ := key
  refine ⟨τ, ds, q1, q2, q3, fun k23 => ?_⟩
  rw [← q4 (k23 (nI i + 6))]
  unfold g327_2712 h324 f324
  simp only [iv_s1 hs hi, iv_s2 hs hi, Option.bind_some, if_pos hp_x]
  rfl
