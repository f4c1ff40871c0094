/-- what is still wanted for heavy: both find the same greatest pattern of a line -/
def Pat (N : Nat) : Prop := ∀ (n d : Nat) (f : Nat → Int32), GW n d f → dS f (al n) 23 = 0 → ∃ nu, PatC N n f nu ∧ PatM N n f nu ∧ ∀ a b, a < n → bt (f a) b = true → nu a b ≤ gL f n a b
theorem case_heavy {J : iv_J} {rd : iv_rd} {N : Nat} (hN : iv_N N) (hP : Pat N) : iv_caseN J rd N g327_2496 := by
  intro sc i σ cs hs hi hI
  have key : ∃ (τ : hp_S) (ds : Nat × Nat), iv J τ ∧ ds.1 ≤ cs.1 + 1 ∧ ds.2 ≤ cs.2 + 6 ∧ ∀ k : lf_W → lf_R, tl_I (tc_I [("java/util/NoSuchElementException", 1)] (f162 N 0 (sc.2 (i + 1)) (sc.2 (i + 2)) (hp σ, cs))) (fun w => f279 N 72 (sc.2 (i + 1)) (sc.2 (i + 2)) w) k = k (hp τ, ds) := by
    generalize sc.2 (i + 1) = x
    generalize sc.2 (i + 2) = y
    refine askI (x := x) hI hN rfl (fun h => ?_) (fun σ' ds w h => ?_) (fun s n d f hs8 hx hg hv => ?_)
    · unfold f162
      rw [o0, c_held_no h]
      rfl
    · unfold f279
      rw [o72, h, lf_ci_r, if_pos rfl]
    · subst hx
      have hn1 := hg.1
      have hn := hg.2.1
      have hw := hg.2.2.2.2.1
      have hne : ¬ σ.2.2.1 (2 + 2 * s) 1 = 0 := by rw [hv.1]; exact nI_ne0 (by omega) (by omega)
      have hwhat : ((y < 0 ∨ ¬ y ≤ 2) ∧ (y < 0 ∨ 2 < y)) ∨ ∃ W, W ≤ 2 ∧ y = nI W := by
        rcases pk_ix y (n := 3) (by omega) with h | h | ⟨M, hM, rfl⟩
        · exact Or.inl ⟨Or.inl h, Or.inl h⟩
        · rw [fa_le] at h
          have h3 : (nI 3).toInt = 3 := rfl
          have h2 : (2 : Int32).toInt = 2 := rfl
          refine Or.inl ⟨Or.inr (fun q => ?_), Or.inr ?_⟩
          · rw [fa_le, h2] at q
            rw [h3] at h
            omega
          · rw [fa_lt, h2]
            rw [h3] at h
            omega
        · exact Or.inr ⟨M, by omega, rfl⟩
      rcases hwhat with ⟨hy1, hy2⟩ | ⟨W, hW, rfl⟩
      · refine Or.inr ⟨"java/util/NoSuchElementException", 1, σ, iv_kept.rf σ, by decide, rfl, ?_, fun σ' μ ds hm hl => ⟨hp_wf μ 72 0 1, 0, iv_kept.wm (by omega), hp_wf_at, ?_⟩⟩
        · unfold f162
          rw [o0, c_held hs8 hne, lf_cr_r]
          by_cases c : y < 0
          · rw [if_pos c]
          · rw [if_neg c, if_neg (hy1.resolve_left c)]
        · show f279 N 72 (nI s) y (hp σ', ds) = _
          have e : g279_22 N 72 y 72 (hp μ, ds) = some (.inl (some (.int 0)), (hp (hp_wf μ 72 0 1), ds)) := by
            unfold g279_22 g279_23
            rw [o72, m_rf hm.2.2.1 (by decide), lf_ci_r, if_neg (fun q => q rfl)]
          unfold f279
          rw [o72, hl, lf_ci_r, if_neg (by decide)]
          by_cases c : y < 0
          · rw [if_pos c]; exact e
          · rw [if_neg c, if_pos (hy2.resolve_left c)]; exact e
      · have hW0 : ¬ nI W < 0 := nI_pos (by omega)
        have hW2 : nI W ≤ 2 := nI_le (b := 2) hW (by omega)
        have hW3 : ¬ 2 < nI W := nI_nlt (b := W) (a := 2) hW (by omega)
        obtain ⟨τ, q1, q2, q3, q4⟩ := c_fill (σ := σ) (cs := cs) (N := N) hs8 hn1 hn hw hN hv.1 hv.2.2 hI.2.2.2.2.2.2.2.2.2
        have kt : ∀ τ', fr [62, 63, 66, 67, 68, 69] [(61, 4), (61, 5), (61, 6), (61, 7), (61, 10)] σ τ' → τ'.2.2.2 61 4 = τ'.2.2.2 61 5 → iv_kept σ τ' := fun τ' w1 w2 => w1.keptS rfl rfl (fun h => h.of61 w1 w2 (by decide) (by decide) (by decide) (by decide))
        have w1 : fr [62, 63, 66, 67, 68, 69] [(61, 4), (61, 5), (61, 6), (61, 7), (61, 10)] σ τ := q1.wk (fun _ h => by simp at h; rcases h with h | h | h <;> simp [h]) (fun _ h => by simp at h; rcases h with h | h <;> simp [h])
        have hv1 := hv.fr w1 (by simp; omega) (by simp <;> omega) (by simp <;> omega)
        have mpre : ∀ (σ' μ ψ : hp_S) (ds : Nat × Nat) (v : Int32), MV μ n d f → f178 N 72 (nI s) (hp σ', ds) = some (.inl (some (.int 1)), (hp μ, ds)) → f269 N 72 (hp μ, ds) = some (.inl (some (.int v)), (hp ψ, ds)) → f279 N 72 (nI s) (nI W) (hp σ', ds) = if ¬ v = 0 then (lf_cv (f273 N 72 (hp ψ, ds)) fun w17 => g279_56 N N 72 (nI W) 0 (-1) 0 0 w17) else (some (.inl (some (.int (-1))), (hp ψ, ds))) := by
          intro σ' μ ψ ds v hm hl hr
          unfold f279 g279_23
          rw [o72, hl, lf_ci_r, if_neg (by decide), if_neg hW0, if_neg hW3, o72, m_rt hm.2.2.1 (by decide), lf_ci_r, if_pos (by decide), o72, hr, lf_ci_r, o72]
        by_cases c : dS f (al n) 23 = 0
        · rw [if_pos c] at q4
          obtain ⟨nu, hC, hM, hnu⟩ := hP n d f hg c
          have hmod : ∀ (σ' μ : hp_S) (ds : Nat × Nat), MV μ n d f → f178 N 72 (nI s) (hp σ', ds) = some (.inl (some (.int 1)), (hp μ, ds)) → ∃ τ, iv_kept μ τ ∧ τ.2.1 117 = μ.2.1 117 ∧ τ.2.2.1 72 0 = 0 ∧ f279 N 72 (nI s) (nI W) (hp σ', ds) = some (.inl (some (.int (if W = 0 then nI (hvo f n n 0 (0, -1)).1 else if W = 1 then (hvo f n n 0 (0, -1)).2 else nI (hpo f nu n 0 0)))), (hp τ, ds)) := by
            intro σ' μ ds hm hl
            obtain ⟨ψ, r1, r2, r3, r4⟩ := m_routes (σ := μ) (cs := ds) (N := N) hn hw hN hm.1 hm.2.2.2
            rw [if_pos c] at r4
            obtain ⟨ω, z1, z2, z3⟩ := m_counts (σ := ψ) (cs := ds) (N := N) hn hw c hN (by rw [r1.f List.not_mem_nil]; exact hm.1) r2
            obtain ⟨χ, y1, y2⟩ := m_hv2 (N := N) (cs := ds) (nu := nu) (W := W) hg hN c hW (fun _ => hM) hnu n 0 N 0 (0, -1) ω (by omega) (by unfold iv_N at hN; omega) ⟨by show 0 ≤ 576; omega, Or.inl ⟨rfl, rfl⟩⟩ (by omega) (by rw [z1.f List.not_mem_nil, r1.f List.not_mem_nil]; exact hm.1) (fun j hj => by rw [z1.r (by decide), r1.r (by decide)]; exact hm.2.2.2 j hj) z2 (fun x t hx ht => by rw [z1.r (by decide)]; exact r2 x t hx ht)
            refine ⟨χ, ((r1.kept rfl rfl).tr (z1.kept rfl rfl)).tr (y1.kept rfl rfl), by rw [y1.l (by decide), z1.l (by decide), r1.l (by decide)], by rw [y1.f List.not_mem_nil, z1.f List.not_mem_nil, r1.f List.not_mem_nil]; exact hm.2.2.1, ?_⟩
            rw [mpre σ' μ ψ ds 1 hm hl r4, if_pos (by decide), z3, lf_cv_r]
            exact y2
          by_cases cW : W = 2
          · subst cW
            obtain ⟨υ, p1, p2, p3⟩ := c_track (σ := τ) (cs := cs) (N := N) hn1 hn hw c hN q3
            have w2 : fr [62, 63, 66, 67, 68, 69] [(61, 4), (61, 5), (61, 6), (61, 7), (61, 10)] σ υ := w1.tr (p1.wk (fun _ h => by simp at h; simp [h]) (fun _ h => absurd h List.not_mem_nil))
            have hv2 := hv.fr w2 (by simp; omega) (by simp <;> omega) (by simp <;> omega)
            obtain ⟨ω, y1, y2⟩ := c_pt2 (N := N) (cs := cs) (nu := nu) hs8 hg hN c hC hnu n 0 N 0 υ (by omega) (by unfold iv_N at hN; omega) (by omega) hv2 (fun x t hx ht => by rw [p1.r (by decide)]; exact q3 x t hx ht) p2
            have w3 : fr [62, 63, 66, 67, 68, 69] [(61, 4), (61, 5), (61, 6), (61, 7), (61, 10)] σ ω := w2.tr (y1.wk (fun _ h => by simp at h; rcases h with h | h <;> simp [h]) (fun _ h => by simp at h; simp [h]))
            refine Or.inl ⟨nI (hpo f nu n 0 0), ω, kt ω w3 (by rw [y1.g (by decide), y1.g (by decide), p1.g List.not_mem_nil, p1.g List.not_mem_nil]; exact q2), ?_, fun σ' μ ds hm hl => ?_⟩
            · have ef : f123 N 61 (2 + 2 * s) (hp τ, cs) = some (.inl (some (.int (nI (hpo f nu n 0 0)))), (hp ω, cs)) := by
                unfold f123
                rw [sN_1 hs8, hv1.1, o61, p3, lf_cv_r]
                exact y2
              unfold f162
              rw [o0, c_held hs8 hne, lf_cr_r, if_neg hW0, if_pos hW2, r0_11, o61, q4, lf_ci_r, if_pos (by decide), if_neg (fun z => z rfl), r0_11, o61, ef, lf_ci_r]
            · obtain ⟨χ, k1, k2, k3, k4⟩ := hmod σ' μ ds hm hl
              exact ⟨χ, k1, k2, k3, k4⟩
          · obtain ⟨υ, p1, p2, p3, p4⟩ := c_heaviest (σ := τ) (cs := cs) (N := N) hs8 hg hN c hv1 q3
            have w2 : fr [62, 63, 66, 67, 68, 69] [(61, 4), (61, 5), (61, 6), (61, 7), (61, 10)] σ υ := w1.tr (p1.wk (fun _ h => by simp at h; simp [h]) (fun _ h => by simp at h; rcases h with h | h <;> simp [h]))
            have kk := kt υ w2 (by rw [p1.g (by decide), p1.g (by decide)]; exact q2)
            have hnW : ¬ nI W = 2 := by
              rw [show (2 : Int32) = nI 2 from rfl, q_eq (by omega) (by omega)]
              exact cW
            refine Or.inl ⟨if W = 0 then nI (hvo f n n 0 (0, -1)).1 else if W = 1 then (hvo f n n 0 (0, -1)).2 else nI (hpo f nu n 0 0), υ, kk, ?_, hmod⟩
            unfold f162
            rw [o0, c_held hs8 hne, lf_cr_r, if_neg hW0, if_pos hW2, r0_11, o61, q4, lf_ci_r, if_pos (c := ¬ (1 : Int32) = 0) (by decide), if_pos hnW, r0_11, o61, p4, lf_cv_r]
            by_cases c0 : W = 0
            · subst c0
              rw [if_pos (c := ¬ nI 0 = 1) (by decide), r0_11, i61_7, p2, if_pos rfl]
            · have c1 : W = 1 := by omega
              subst c1
              rw [if_neg (c := ¬ nI 1 = 1) (fun z => z rfl), r0_11, i61_6, p3, if_neg (by decide), if_pos rfl]
        · rw [if_neg c] at q4
          refine Or.inl ⟨-1, τ, kt τ w1 q2, ?_, fun σ' μ ds hm hl => ?_⟩
          · unfold f162
            rw [o0, c_held hs8 hne, lf_cr_r, if_neg hW0, if_pos hW2, r0_11, o61, q4, lf_ci_r, if_neg (fun z => z rfl)]
          · obtain ⟨ψ, r1, r2, r3, r4⟩ := m_routes (σ := μ) (cs := ds) (N := N) hn hw hN hm.1 hm.2.2.2
            rw [if_neg c] at r4
            refine ⟨ψ, r1.kept rfl rfl, r1.l (by decide), by rw [r1.f List.not_mem_nil]; exact hm.2.2.1, ?_⟩
            show f279 N 72 (nI s) (nI W) (hp σ', ds) = _
            rw [mpre σ' μ ψ ds 0 hm hl r4, if_neg (fun z => z rfl)]
  obtain ⟨τ, ds, q1, q2, q3, q4⟩ := key
  refine ⟨τ, ds, q1, q2, q3, fun k23 => ?_⟩
  rw [← q4 (k23 (nI i + 6))]
  unfold g327_2496 h321 f321
  simp only [iv_s1 hs hi, iv_s2 hs hi, Option.bind_some, if_pos hp_x]
  rfl
