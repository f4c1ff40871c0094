theorem gPr_joined {f : Nat → Int32} {A : Int32} (h : dS f A 23 = 0) : gPr f A < 1000000 := by
  have h1 := gF_le (f := f) (A := A)
  have h2 : sm (dS f A) (gF f A) ≤ sm (fun _ => 576) (gF f A) := sm_le (fun k _ => dS_max)
  rw [sm_c] at h2
  unfold gPr
  rw [if_pos h]
  unfold gS
  omega
/-- what is asked: a number 0 to 5, or none of them -/
theorem what6 (y : Int32) : (¬ y = 0 ∧ ¬ y = 1 ∧ ¬ y = 2 ∧ ¬ y = 3 ∧ ¬ y = 4 ∧ ¬ y = 5 ∧ (y < 0 ∨ 5 < y)) ∨ (¬ y < 0 ∧ ¬ 5 < y ∧ (y = 0 ∨ y = 1 ∨ y = 2 ∨ y = 3 ∨ y = 4 ∨ y = 5)) := by
  by_cases c1 : y < 0
  · refine Or.inl ⟨?_, ?_, ?_, ?_, ?_, ?_, Or.inl c1⟩ <;> (rintro rfl; exact absurd c1 (by decide))
  · by_cases c2 : 5 < y
    · refine Or.inl ⟨?_, ?_, ?_, ?_, ?_, ?_, Or.inr c2⟩ <;> (rintro rfl; exact absurd c2 (by decide))
    · refine Or.inr ⟨c1, c2, ?_⟩
      rw [fa_lt] at c1 c2
      have h0 : (0 : Int32).toInt = 0 := rfl
      have h5 : (5 : Int32).toInt = 5 := rfl
      rw [h0] at c1
      rw [h5] at c2
      have : y.toInt = 0 ∨ y.toInt = 1 ∨ y.toInt = 2 ∨ y.toInt = 3 ∨ y.toInt = 4 ∨ y.toInt = 5 := by omega
      rcases this with h | h | h | h | h | h
      · exact Or.inl (fa_eq _ _ |>.mpr h)
      · exact Or.inr (Or.inl (fa_eq _ _ |>.mpr h))
      · exact Or.inr (Or.inr (Or.inl (fa_eq _ _ |>.mpr h)))
      · exact Or.inr (Or.inr (Or.inr (Or.inl (fa_eq _ _ |>.mpr h))))
      · exact Or.inr (Or.inr (Or.inr (Or.inr (Or.inl (fa_eq _ _ |>.mpr h)))))
      · exact Or.inr (Or.inr (Or.inr (Or.inr (Or.inr (fa_eq _ _ |>.mpr h)))))
theorem case_far {J : iv_J} {rd : iv_rd} {N : Nat} (hN : iv_N N) : iv_caseN J rd N g327_1048 := by
  intro sc i σ cs hs hi hI
  have key : ∃ (τ : hp_S) (ds : Nat × Nat), iv J τ ∧ ds.1 ≤ cs.1 + 1 ∧ ds.2 ≤ cs.2 + 6 ∧ ∀ k : lf_W → lf_R, tl_I (tc_I [("java/util/NoSuchElementException", 1)] (f142 N 0 (sc.2 (i + 1)) (sc.2 (i + 2)) (hp σ, cs))) (fun w => f231 N 72 (sc.2 (i + 1)) (sc.2 (i + 2)) w) k = k (hp τ, ds) := by
    generalize sc.2 (i + 1) = x
    generalize sc.2 (i + 2) = y
    refine askI (x := x) hI hN rfl (fun h => ?_) (fun σ' ds w h => ?_) (fun s n d f hs8 hx hg hv => ?_)
    · unfold f142
      rw [o0, c_held_no h]
      rfl
    · unfold f231
      rw [o72, h, lf_ci_r, if_pos rfl]
    · subst hx
      have hn1 := hg.1
      have hn := hg.2.1
      have hw := hg.2.2.2.2.1
      have hne : ¬ σ.2.2.1 (2 + 2 * s) 1 = 0 := by rw [hv.1]; exact nI_ne0 (by omega) (by omega)
      have hsw := hI.2.2.2.2.2.2.2
      rcases what6 y with ⟨y0, y1, y2, y3, y4, y5, hy⟩ | ⟨hy0, hy5, hy⟩
      · refine Or.inr ⟨"java/util/NoSuchElementException", 1, σ, iv_kept.rf σ, by decide, rfl, ?_, fun σ' μ ds hm hl => ⟨hp_wf μ 72 0 1, 0, iv_kept.wm (by omega), hp_wf_at, ?_⟩⟩
        · unfold f142
          rw [o0, c_held hs8 hne, lf_cr_r, if_neg y0, if_neg y1, if_neg y2, if_neg y3, if_neg y4, if_neg y5]
        · show f231 N 72 (nI s) y (hp σ', ds) = _
          have e : g231_23 N 72 y 0 72 (hp μ, ds) = some (.inl (some (.int 0)), (hp (hp_wf μ 72 0 1), ds)) := by
            unfold g231_23
            rw [o72, m_rf hm.2.2.1 (by decide), lf_ci_r, if_neg (fun q => q rfl)]
          unfold f231 g231_22
          rw [o72, hl, lf_ci_r, if_neg (by decide)]
          by_cases c : y < 0
          · rw [if_pos c]; exact e
          · rw [if_neg c, if_pos (hy.resolve_left c)]; exact e
      · have mpre : ∀ (σ' μ : hp_S) (ds : Nat × Nat), MV μ n d f → f178 N 72 (nI s) (hp σ', ds) = some (.inl (some (.int 1)), (hp μ, ds)) → f231 N 72 (nI s) y (hp σ', ds) = if ¬ y = 2 then (if ¬ y = 3 then (if ¬ y = 4 then (if ¬ y = 5 then (lf_ci (f222 N 72 (al n) (hp μ, ds)) fun v26 w20 => if ¬ v26 = 0 then (if ¬ y = 0 then ((lf_fi w20 72 12 25).bind fun v29 => some (.inl (some (.int v29)), w20)) else ((lf_fi w20 72 12 24).bind fun v31 => some (.inl (some (.int v31)), w20))) else (some (.inl (some (.int (-1))), w20))) else (lf_ci (f223 N 72 (hp μ, ds)) fun v39 w33 => some (.inl (some (.int v39)), w33))) else (lf_ci (f230 N 72 (hp μ, ds)) fun v46 w40 => some (.inl (some (.int v46)), w40))) else (lf_ci (f229 N 72 (hp μ, ds)) fun v53 w47 => some (.inl (some (.int v53)), w47))) else (lf_ci (f225 N 72 (hp μ, ds)) fun v60 w54 => some (.inl (some (.int v60)), w54)) := by
          intro σ' μ ds hm hl
          unfold f231 g231_23
          rw [o72, hl, lf_ci_r, if_neg (by decide), if_neg hy0, if_neg hy5, o72, m_rt hm.2.2.1 (by decide), lf_ci_r, if_pos (by decide), o72, o72, o72, o72, o72, m_all hm.1, lf_ci_r, o72]
          rfl
        have joined : ∃ τ, fr [30, 31] [(29, 0), (29, 1), (29, 3), (29, 4)] σ τ ∧ τ.2.2.2 29 0 = τ.2.2.2 29 1 ∧ (dS f (al n) 23 = 0 → τ.2.2.1 29 3 = nI (gF f (al n)) ∧ τ.2.2.1 29 4 = nI (gS f (al n))) ∧ f107 N 29 (3 + 2 * s) (al n) 2000000 (hp σ, cs) = some (.inl (some (.int (nI (gPr f (al n))))), (hp τ, cs)) := by
          obtain ⟨τ, p, t1, t2, t3, t4, t5, t6⟩ := c_priceS (σ := σ) (cs := cs) (N := N) (L := 2000000) hs8 hn1 hn hN (by omega) hv.2.2 hsw.1
          have hp := t3 (by have := gPr_max (f := f) (A := al n); omega)
          refine ⟨τ, t1, t2, fun q => hp.2 q, ?_⟩
          rw [← hp.1]
          exact t6
        obtain ⟨τ, j1, j2, j3, j4⟩ := joined
        have kJ : iv_kept σ τ := j1.keptS rfl rfl (fun h => h.of j1 j2 (by decide) (by decide) (by decide) (by decide))
        have j5 : f106 N 29 (2 + 2 * s) (hp σ, cs) = some (.inl (some (.int (if dS f (al n) 23 = 0 then 1 else 0))), (hp τ, cs)) := by
          unfold f106
          rw [sN_r hs8, sN_o hs8, c_all hs8 hv.1, lf_ci_r, o29, j4, lf_ci_r]
          by_cases c : dS f (al n) 23 = 0
          · have := gPr_joined c
            rw [if_pos c, if_neg (show ¬ nI (gPr f (al n)) = 1000000 from by rw [show (1000000 : Int32) = nI 1000000 from rfl, q_eq (by omega) (by omega)]; omega)]
          · rw [if_neg c, if_pos (show nI (gPr f (al n)) = 1000000 from by unfold gPr; rw [if_neg c]; rfl)]
        have whole : ∀ (μ : hp_S) (ds : Nat × Nat), MV μ n d f → ∃ ψ, fr [81] [(72, 24), (72, 25)] μ ψ ∧ (dS f (al n) 23 = 0 → ψ.2.2.1 72 24 = nI (gF f (al n)) ∧ ψ.2.2.1 72 25 = nI (gS f (al n))) ∧ f222 N 72 (al n) (hp μ, ds) = some (.inl (some (.int (if dS f (al n) 23 = 0 then 1 else 0))), (hp ψ, ds)) := fun μ ds hm => m_isWhole (σ := μ) (cs := ds) (N := N) (f := f) (A := al n) hn hN (fun i hi => (al_in hn).mp hi) (fun a b ha hb hab => (hw a (by have := (al_in hn).mp ha; omega) b hab).2.2.2) hm.1 hm.2.2.2
        rcases hy with rfl | rfl | rfl | rfl | rfl | rfl
        · by_cases c : dS f (al n) 23 = 0
          · refine Or.inl ⟨nI (gF f (al n)), τ, kJ, ?_, fun σ' μ ds hm hl => ?_⟩
            · unfold f142
              rw [o0, c_held hs8 hne, lf_cr_r, if_pos rfl, r0_4, o29, j5, lf_ci_r, if_pos c, if_neg (by decide), r0_4, i29_3, (j3 c).1]
            · obtain ⟨ψ, r1, r2, r3⟩ := whole μ ds hm
              refine ⟨ψ, r1.kept rfl rfl, r1.l (by decide), by rw [r1.f (by decide)]; exact hm.2.2.1, ?_⟩
              show f231 N 72 (nI s) 0 (hp σ', ds) = _
              rw [mpre σ' μ ds hm hl, if_pos (by decide), if_pos (by decide), if_pos (by decide), if_pos (by decide), r3, lf_ci_r, if_pos c, if_pos (by decide), if_neg (fun q => q rfl), i72_24, (r2 c).1]
          · refine Or.inl ⟨-1, τ, kJ, ?_, fun σ' μ ds hm hl => ?_⟩
            · unfold f142
              rw [o0, c_held hs8 hne, lf_cr_r, if_pos rfl, r0_4, o29, j5, lf_ci_r, if_neg c, if_pos rfl]
            · obtain ⟨ψ, r1, r2, r3⟩ := whole μ ds hm
              refine ⟨ψ, r1.kept rfl rfl, r1.l (by decide), by rw [r1.f (by decide)]; exact hm.2.2.1, ?_⟩
              show f231 N 72 (nI s) 0 (hp σ', ds) = _
              rw [mpre σ' μ ds hm hl, if_pos (by decide), if_pos (by decide), if_pos (by decide), if_pos (by decide), r3, lf_ci_r, if_neg c, if_neg (fun q => q rfl)]
        · by_cases c : dS f (al n) 23 = 0
          · refine Or.inl ⟨nI (gS f (al n)), τ, kJ, ?_, fun σ' μ ds hm hl => ?_⟩
            · unfold f142
              rw [o0, c_held hs8 hne, lf_cr_r, if_neg (by decide), if_pos rfl, r0_4, o29, j5, lf_ci_r, if_pos c, if_neg (by decide), r0_4, i29_4, (j3 c).2]
            · obtain ⟨ψ, r1, r2, r3⟩ := whole μ ds hm
              refine ⟨ψ, r1.kept rfl rfl, r1.l (by decide), by rw [r1.f (by decide)]; exact hm.2.2.1, ?_⟩
              show f231 N 72 (nI s) 1 (hp σ', ds) = _
              rw [mpre σ' μ ds hm hl, if_pos (by decide), if_pos (by decide), if_pos (by decide), if_pos (by decide), r3, lf_ci_r, if_pos c, if_pos (by decide), if_pos (by decide), i72_25, (r2 c).2]
          · refine Or.inl ⟨-1, τ, kJ, ?_, fun σ' μ ds hm hl => ?_⟩
            · unfold f142
              rw [o0, c_held hs8 hne, lf_cr_r, if_neg (by decide), if_pos rfl, r0_4, o29, j5, lf_ci_r, if_neg c, if_pos rfl]
            · obtain ⟨ψ, r1, r2, r3⟩ := whole μ ds hm
              refine ⟨ψ, r1.kept rfl rfl, r1.l (by decide), by rw [r1.f (by decide)]; exact hm.2.2.1, ?_⟩
              show f231 N 72 (nI s) 1 (hp σ', ds) = _
              rw [mpre σ' μ ds hm hl, if_pos (by decide), if_pos (by decide), if_pos (by decide), if_pos (by decide), r3, lf_ci_r, if_neg c, if_neg (fun q => q rfl)]
        · obtain ⟨υ, q1, q2⟩ := c_g2 (σ := σ) (cs := cs) (N := N) hs8 hg hN n 0 N 99 (by omega) (by unfold iv_N at hN; omega) (Or.inl rfl) hv
          refine Or.inl ⟨iG (gir f n (lq f n 0 n) 99), υ, q1.kept rfl rfl, ?_, fun σ' μ ds hm hl => ?_⟩
          · unfold f142 f105
            rw [o0, c_held hs8 hne, lf_cr_r, if_neg (by decide), if_neg (by decide), if_pos rfl]
            rw [show g105_4 N N (2 + 2 * s) (-1) 0 (hp σ, cs) = _ from q2, lf_ci_r]
          · obtain ⟨ψ, r1, r2, r3⟩ := m_lists (σ := μ) (cs := ds) (N := N) hn hN hm.1 (fun k hk => hm.2.2.2 k (by omega)) hg.l96
            have w4 : ψ.2.2.1 72 4 = nI n := by rw [r1.f (by decide)]; exact hm.1
            obtain ⟨ω, z1, z2⟩ := m_g (σ := ψ) (cs := ds) (N := N) hg hN (lq f n 0 n).length 0 N 99 (by omega) (by have := hg.l96; unfold iv_N at hN; omega) (Or.inl rfl) w4 (fun j hj => by rw [r1.r (by decide)]; exact hm.2.2.2 j hj) r2
            refine ⟨ω, (r1.kept rfl rfl).tr (z1.kept rfl rfl), by rw [z1.l (by decide), r1.l (by decide)], by rw [z1.f List.not_mem_nil, r1.f (by decide)]; exact hm.2.2.1, ?_⟩
            show f231 N 72 (nI s) 2 (hp σ', ds) = _
            rw [mpre σ' μ ds hm hl, if_neg (fun q => q rfl)]
            unfold f225
            rw [o72, r3, lf_cv_r]
            rw [show g225_8 N N 72 (-1) 0 (hp ψ, ds) = _ from z2, lf_ci_r]
            rfl
        · obtain ⟨υ, q1, q2⟩ := c_thin (σ := σ) (cs := cs) (N := N) hs8 hg hN hv
          refine Or.inl ⟨if n = 1 then -1 else nI (mnL f n (n - 1) 1 99), υ, q1.kept rfl rfl, ?_, fun σ' μ ds hm hl => ?_⟩
          · unfold f142
            rw [o0, c_held hs8 hne, lf_cr_r, if_neg (by decide), if_neg (by decide), if_neg (by decide), if_pos rfl, r0_5, o33, q2, lf_ci_r]
          · obtain ⟨ψ, r1, r2⟩ := m_thin (σ := μ) (cs := ds) (N := N) hg hN hm.1 hm.2.2.2
            refine ⟨ψ, r1.kept rfl rfl, r1.l (by decide), by rw [r1.f List.not_mem_nil]; exact hm.2.2.1, ?_⟩
            show f231 N 72 (nI s) 3 (hp σ', ds) = _
            rw [mpre σ' μ ds hm hl, if_pos (by decide), if_neg (fun q => q rfl), r2, lf_ci_r]
        · obtain ⟨K, kc, km⟩ := thinK (N := N) hs8 hg hN
          obtain ⟨υ, q1, q2⟩ := kc σ cs hv
          refine Or.inl ⟨nI K, υ, q1.kept rfl rfl, ?_, fun σ' μ ds hm hl => ?_⟩
          · unfold f142
            rw [o0, c_held hs8 hne, lf_cr_r, if_neg (by decide), if_neg (by decide), if_neg (by decide), if_neg (by decide), if_pos rfl, r0_5, o33, q2, lf_ci_r]
          · obtain ⟨ψ, r1, r2⟩ := km μ ds hm.1 hm.2.2.2
            refine ⟨ψ, r1.kept rfl rfl, r1.l (by decide), by rw [r1.f List.not_mem_nil]; exact hm.2.2.1, ?_⟩
            show f231 N 72 (nI s) 4 (hp σ', ds) = _
            rw [mpre σ' μ ds hm hl, if_pos (by decide), if_pos (by decide), if_neg (fun q => q rfl), r2, lf_ci_r]
        · refine Or.inl ⟨nI (gPr f (al n)), τ, kJ, ?_, fun σ' μ ds hm hl => ?_⟩
          · unfold f142
            rw [o0, c_held hs8 hne, lf_cr_r, if_neg (by decide), if_neg (by decide), if_neg (by decide), if_neg (by decide), if_neg (by decide), if_pos rfl, r0_4, sN_r hs8, sN_o hs8, c_all hs8 hv.1, lf_ci_r, o29, j4, lf_ci_r]
          · obtain ⟨ψ, r1, r2⟩ := m_price2 (σ := μ) (cs := ds) (N := N) hn hN hw hm.1 hm.2.2.2
            refine ⟨ψ, r1.kept rfl rfl, r1.l (by decide), by rw [r1.f (by decide)]; exact hm.2.2.1, ?_⟩
            show f231 N 72 (nI s) 5 (hp σ', ds) = _
            rw [mpre σ' μ ds hm hl, if_pos (by decide), if_pos (by decide), if_pos (by decide), if_neg (fun q => q rfl), r2, lf_ci_r]
  obtain ⟨τ, ds, q1, q2, q3, q4⟩ := key
  refine ⟨τ, ds, q1, q2, q3, fun k23 => ?_⟩
  rw [← q4 (k23 (nI i + 6))]
  unfold g327_1048 h301 f301
  simp only [iv_s1 hs hi, iv_s2 hs hi, Option.bind_some, if_pos hp_x]
  rfl
