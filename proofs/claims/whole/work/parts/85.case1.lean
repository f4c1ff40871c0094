/-! cases about, lineAt, distance -/
theorem ab_sum_sm {f : Nat → Int32} : ∀ (m k c : Nat), ab_sum f k m (nI c) = nI (c + sm (fun j => i_pc (f (k + j))) m)
  | 0, _, _ => rfl
  | m + 1, k, c => by
    show ab_sum f (k + 1) m (nI c + nI (i_pc (f k))) = _
    rw [nI_add, ab_sum_sm m (k + 1), sm_front, sm_congr (fun j _ => by rw [show k + 1 + j = k + (j + 1) by omega]), Nat.add_assoc]
    rfl
theorem c_lines {σ : hp_S} {cs : Nat × Nat} {N s n d : Nat} {f : Nat → Int32} (hs : s < 8) (hg : GW n d f) (hv : NV σ s n d f) (hN : iv_N N) : f59 N (2 + 2 * s) (hp σ, cs) = some (.inl (some (.int (nI (lq f n 0 n).length))), (hp σ, cs)) := by
  have h1 := c_lines_loop (cs := cs) (N := N) hs hg.2.1 hv.1 n 0 N 0 (by omega) (by have := hg.2.1; unfold iv_N at hN; omega)
  have h2 := ab_sum_sm (f := σ.1 (3 + 2 * s)) n 0 0
  rw [show nI 0 = (0 : Int32) from rfl] at h2 h1
  rw [h2] at h1
  have h3 := lq_twice hg.2.1 hg.2.2.2.2.1
  have h4 : 0 + sm (fun j => i_pc (σ.1 (3 + 2 * s) (0 + j))) n = 2 * (lq f n 0 n).length := by
    rw [h3, Nat.zero_add]
    exact sm_congr (fun k hk => by rw [Nat.zero_add, hv.2.2 k (by have := hg.2.1; omega)])
  rw [h4, show (2 : Int32) = nI 2 from rfl, pk_div (by have := hg.l96; omega) (by omega) (by omega), show 2 * (lq f n 0 n).length / 2 = (lq f n 0 n).length by omega] at h1
  unfold f59
  exact h1
def abv (n d : Nat) (f : Nat → Int32) (y : Int32) : Int32 := if ¬ y = 0 then (if ¬ y = 1 then (if ¬ y = 2 then (if ¬ y = 3 then ab_max f 0 n 0 else ab_min f 0 n 24) else nI (lq f n 0 n).length) else nI d) else nI n
theorem case_about {J : iv_J} {rd : iv_rd} {N : Nat} (hN : iv_N N) : iv_caseN J rd N g327_832 := by
  intro sc i σ cs hs hi hI
  have key : ∃ (τ : hp_S) (ds : Nat × Nat), iv J τ ∧ ds.1 ≤ cs.1 + 1 ∧ ds.2 ≤ cs.2 + 6 ∧ ∀ k : lf_W → lf_R, tl_I (tc_I [("java/util/NoSuchElementException", 1)] (f139 N 0 (sc.2 (i + 1)) (sc.2 (i + 2)) (hp σ, cs))) (fun w => f217 N 72 (sc.2 (i + 1)) (sc.2 (i + 2)) w) k = k (hp τ, ds) := by
    generalize sc.2 (i + 1) = x
    generalize sc.2 (i + 2) = y
    refine askI (x := x) hI hN rfl (fun h => ?_) (fun σ' ds w h => ?_) (fun s n d f hs8 hx hg hv => ?_)
    · unfold f139
      rw [o0, c_held_no h]
      rfl
    · unfold f217
      rw [o72, h, lf_ci_r, if_pos rfl]
    · subst hx
      have hn1 := hg.1
      have hn := hg.2.1
      have hne : ¬ σ.2.2.1 (2 + 2 * s) 1 = 0 := by rw [hv.1]; exact nI_ne0 (by omega) (by omega)
      by_cases hy : y < 0 ∨ 4 < y
      · refine Or.inr ⟨"java/util/NoSuchElementException", 1, σ, iv_kept.rf σ, by decide, rfl, ?_, fun σ' μ ds hm hl => ⟨hp_wf μ 72 0 1, 0, iv_kept.wm (by omega), hp_wf_at, ?_⟩⟩
        · unfold f139
          rw [o0, c_held hs8 hne, lf_cr_r, if_neg (by rintro rfl; revert hy; decide), if_neg (by rintro rfl; revert hy; decide), if_neg (by rintro rfl; revert hy; decide), if_neg (by rintro rfl; revert hy; decide), if_neg (by rintro rfl; revert hy; decide)]
        · unfold f217 g217_22 g217_23
          rw [o72, hl, lf_ci_r, if_neg (by decide)]
          have ef : (if lf_is (hp μ, ds) 72 12 = true then (lf_ci (f175 N 72 0 1 (hp μ, ds)) fun v7 w1 => if ¬ v7 = 0 then (if lf_is w1 72 12 = true then (lf_cv (f216 N 72 w1) fun w9 => g217_45 N N 72 y 24 0 0 w9) else none) else (some (.inl (some (.int 0)), w1))) else none) = some (.inl (some (.int 0)), (hp (hp_wf μ 72 0 1), ds)) := by
            rw [o72, m_rf hm.2.2.1 (by decide), lf_ci_r, if_neg (fun q => q rfl)]
          by_cases h0 : y < 0
          · rw [if_pos h0]; exact ef
          · rw [if_neg h0, if_pos (hy.resolve_left h0)]; exact ef
      · refine Or.inl ⟨abv n d f y, σ, iv_kept.rf σ, ?_, fun σ' μ ds hm hl => ?_⟩
        · unfold f139 abv
          rw [o0, c_held hs8 hne, lf_cr_r]
          by_cases c0 : y = 0
          · rw [if_pos c0, if_neg (fun q => q c0), sN_1 hs8, hv.1]
          rw [if_neg c0, if_pos c0]
          by_cases c1 : y = 1
          · rw [if_pos c1, if_neg (fun q => q c1), sN_2 hs8, hv.2.1]
          rw [if_neg c1, if_pos c1]
          by_cases c2 : y = 2
          · rw [if_pos c2, sN_o hs8, c_lines hs8 hg hv hN, lf_ci_r, if_neg (fun q => q c2)]
          rw [if_neg c2, if_pos c2]
          by_cases c3 : y = 3
          · rw [if_pos c3, sN_o hs8]
            have h1 := c_few_loop (cs := cs) (N := N) hs8 hn hv.1 n 0 N 24 (by omega) (by unfold iv_N at hN; omega)
            unfold f60
            rw [show (0 : Int32) = nI 0 from rfl, h1, lf_ci_r, ab_min_congr (g := f) n 0 24 (by omega) hv.2.2, if_neg (fun q => q c3)]
          rw [if_neg c3, if_pos c3]
          have c4 : y = 4 := by
            obtain ⟨j, hj, rfl⟩ := nn_of (fun q => hy (Or.inl q))
            have : ¬ nI 4 < nI j := fun q => hy (Or.inr q)
            rw [q_lt (by omega) hj] at this
            have e0 : j ≠ 0 := fun q => c0 (by rw [q]; rfl)
            have e1 : j ≠ 1 := fun q => c1 (by rw [q]; rfl)
            have e2 : j ≠ 2 := fun q => c2 (by rw [q]; rfl)
            have e3 : j ≠ 3 := fun q => c3 (by rw [q]; rfl)
            rw [show j = 4 by omega]; rfl
          rw [if_pos c4, sN_o hs8]
          have h1 := c_most_loop (cs := cs) (N := N) hs8 hn hv.1 n 0 N 0 (by omega) (by unfold iv_N at hN; omega)
          unfold f61
          rw [show (0 : Int32) = nI 0 from rfl] at h1 ⊢
          rw [h1, lf_ci_r, ab_max_congr (g := f) n 0 _ (by omega) hv.2.2]
        · obtain ⟨τ, q1, q2, q3⟩ := m_lists (N := N) (cs := ds) (f := f) hn hN hm.1 (fun k hk => hm.2.2.2 k (by omega)) hg.l96
          have hm2 := hm.kept q1 (by decide) (by decide) (by decide) (by decide)
          refine ⟨τ, q1.kept rfl rfl, q1.l (by decide), hm2.2.2.1, ?_⟩
          have h1 := m_about_loop (x := y) (cs := ds) (N := N) hn hm2.1 hN n 0 N 24 0 (by omega) (by unfold iv_N at hN; omega)
          rw [show nI 0 = (0 : Int32) from rfl] at h1
          unfold f217 g217_23
          rw [o72, hl, lf_ci_r, if_neg (by decide), if_neg (fun q => hy (Or.inl q)), if_neg (fun q => hy (Or.inr q)), o72, m_rt hm.2.2.1 (by decide), lf_ci_r, if_pos (by decide), o72, q3, lf_cv_r, h1]
          unfold abv
          rw [q2.1, hm2.2.1, ab_min_congr (g := f) n 0 24 (by omega) hm2.2.2.2, ab_max_congr (g := f) n 0 0 (by omega) hm2.2.2.2]
  obtain ⟨τ, ds, q1, q2, q3, q4⟩ := key
  refine ⟨τ, ds, q1, q2, q3, fun k23 => ?_⟩
  rw [← q4 (k23 (nI i + 6))]
  unfold g327_832 h298 f298
  simp only [iv_s1 hs hi, iv_s2 hs hi, Option.bind_some, if_pos hp_x]
  rfl
