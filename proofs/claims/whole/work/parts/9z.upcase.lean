/-! case upward -/
theorem case_upward {J : iv_J} {rd : iv_rd} {N : Nat} (hN : iv_N N) : iv_caseN J rd N g327_2564 := by
  intro sc i σ cs hs hi hI
  have key : ∃ (τ : hp_S) (ds : Nat × Nat), iv J τ ∧ ds.1 ≤ cs.1 + 1 ∧ ds.2 ≤ cs.2 + 6 ∧ ∀ k : lf_W → lf_R, tl_I (tc_I [("java/util/NoSuchElementException", 1)] (f163 N 0 (sc.2 (i + 1)) (sc.2 (i + 2)) (sc.2 (i + 3)) (hp σ, cs))) (fun w => f282 N 72 (sc.2 (i + 1)) (sc.2 (i + 2)) (sc.2 (i + 3)) w) k = k (hp τ, ds) := by
    generalize sc.2 (i + 1) = x
    generalize sc.2 (i + 2) = y
    generalize sc.2 (i + 3) = z
    refine askI (x := x) hI hN rfl (fun h => ?_) (fun σ' ds w h => ?_) (fun s n d f hs8 hx hg hv => ?_)
    · unfold f163
      rw [o0, c_hw_no h]
      rfl
    · unfold f282
      rw [o72, h, lf_ci_r, if_pos rfl]
    · subst hx
      have hn1 := hg.1
      have hn := hg.2.1
      have hw := hg.2.2.2.2.1
      rcases two_or n hn y y with h | ⟨p, q, hp', hq, rfl, hqq⟩
      · refine Or.inr ⟨"java/util/NoSuchElementException", 1, σ, iv_kept.rf σ, by decide, rfl, ?_, fun σ' μ ds hm hl => ⟨hp_wf μ 72 0 1, 0, iv_kept.wm (by omega), hp_wf_at, ?_⟩⟩
        · unfold f163
          rw [o0, c_hw_out hs8 hn1 hn hv.1 h]
          rfl
        · show f282 N 72 (nI s) y z (hp σ', ds) = _
          unfold f282
          rw [o72, hl, lf_ci_r, if_neg (by decide), o72, m_has_out hn hm.1 hm.2.2.1 h, lf_ci_r, if_pos rfl]
      · by_cases hz : z = 0 ∨ z = 1
        · have z1 : ¬ z < 0 := by rcases hz with rfl | rfl <;> decide
          have z2 : z ≤ 1 := by rcases hz with rfl | rfl <;> decide
          obtain ⟨τ, r, t1, t2, t3, t4, t5, t6⟩ := c_priceS (σ := σ) (cs := cs) (N := N) (L := 2000000) hs8 hn1 hn hN (by omega) hv.2.2 hI.2.2.2.2.2.2.2.1
          have hmax := gPr_max (f := f) (A := al n)
          have er := (t3 (by omega)).1
          have hwh : (nI r = 1000000) ↔ ¬ dS f (al n) 23 = 0 := by
            rw [er, show (1000000 : Int32) = nI 1000000 from rfl, q_eq (by omega) (by omega)]
            unfold gPr
            have g1 := gF_le (f := f) (A := al n)
            have g2 := gS_max (f := f) (A := al n)
            by_cases c : dS f (al n) 23 = 0
            · rw [if_pos c]
              exact ⟨fun w => by omega, fun w => absurd c w⟩
            · rw [if_neg c]
              exact ⟨fun _ => c, fun _ => rfl⟩
          have hv2 := hv.fr t1 (by simp; omega) (by simp <;> omega) (by simp <;> omega)
          have preC : f163 N 0 (nI s) (nI p) z (hp σ, cs) = if dS f (al n) 23 = 0 then lf_ci (f126 N 61 (2 + 2 * s) (nI p) z (hp τ, cs)) fun v7 w1 => some (.inl (some (.int v7)), w1) else some (.inl (some (.int (-1))), (hp τ, cs)) := by
            unfold f163 f106
            rw [o0, c_hw_in hs8 hn hv.1 hp' hp', lf_cr_r, if_neg z1, if_pos z2, r0_4, o29, sN_r hs8, sN_o hs8, c_all hs8 hv.1, lf_ci_r, o29, show (2000000 : Int32) = nI 2000000 from rfl, t6, lf_ci_r]
            by_cases c : dS f (al n) 23 = 0
            · rw [if_neg (fun w => hwh.mp w c), lf_ci_r, if_pos (by decide), r0_11, if_pos c]
              unfold g163_57
              rw [o61]
              rcases hz with rfl | rfl
              · rw [if_pos (by decide)]
              · rw [if_neg (fun w => w rfl), o61]
            · rw [if_pos (hwh.mpr c), lf_ci_r, if_neg (fun w => w rfl), if_neg c]
          have preM : ∀ (σ' μ : hp_S) (ds : Nat × Nat), MV μ n d f → f178 N 72 (nI s) (hp σ', ds) = some (.inl (some (.int 1)), (hp μ, ds)) → f282 N 72 (nI s) (nI p) z (hp σ', ds) = g282_32 N 72 (nI p) z 1 72 (hp μ, ds) := by
            intro σ' μ ds hm hl
            unfold f282 g282_27
            rw [o72, hl, lf_ci_r, if_neg (by decide), o72, m_has_in hn hm.1 hm.2.2.1 hp' hp', lf_ci_r, if_neg (by decide)]
            rcases hz with rfl | rfl
            · rw [if_pos rfl]
            · rw [if_neg (by decide), if_neg (fun w => w rfl)]
          have hA : ∀ i, bt (al n) i = true → i < n := fun i w => (al_in hn).mp w
          have hsy : ∀ a b, bt (al n) a = true → bt (al n) b = true → bt (f a) b = true → bt (f b) a = true := fun a b ha hb h => (hw a (by have := (al_in hn).mp ha; omega) b h).2.2.2
          have preW : ∀ (μ : hp_S) (ds : Nat × Nat), MV μ n d f → ∃ υ, fr [81] [(72, 24), (72, 25)] μ υ ∧ g282_32 N 72 (nI p) z 1 72 (hp μ, ds) = if dS f (al n) 23 = 0 then (lf_cv (f221 N 72 (hp υ, ds)) fun w24 => g282_67 N N 72 (nI p) z 0 0 0 w24) else some (.inl (some (.int (-1))), (hp υ, ds)) := by
            intro μ ds hm
            obtain ⟨υ, v1, -, v3⟩ := m_isWhole (σ := μ) (cs := ds) (N := N) (f := f) (A := al n) hn hN hA hsy hm.1 hm.2.2.2
            refine ⟨υ, v1, ?_⟩
            unfold g282_32
            rw [o72, m_rt hm.2.2.1 (by decide), lf_ci_r, if_pos (by decide), o72, m_all hm.1, lf_ci_r, o72]
            rw [show f222 N 72 (lf_shl 1 (nI n) - 1) (hp μ, ds) = _ from v3, lf_ci_r]
            by_cases c : dS f (al n) 23 = 0
            · rw [if_pos c, if_pos c, if_pos (by decide), o72]
            · rw [if_neg c, if_neg c, if_neg (fun w => w rfl)]
          have kS : iv_kept σ τ := t1.keptS rfl rfl (fun h => h.of t1 t2 (by decide) (by decide) (by decide) (by decide))
          by_cases c : dS f (al n) 23 = 0
          · obtain ⟨ω, w1, w2⟩ := c_upward (σ := τ) (cs := cs) (N := N) (x3 := z) hs8 hg c hp' hN hv2
            refine Or.inl ⟨if z = 0 then nI (upR f n p n) else nI (upT f n p n), ω, kS.tr (w1.kept rfl rfl), ?_, fun σ' μ ds hm hl => ?_⟩
            · rw [preC, if_pos c, w2, lf_ci_r]
            · obtain ⟨υ, v1, v2⟩ := preW μ ds hm
              have hm2 := hm.kept v1 (by decide) (by decide) (by decide) (by decide)
              obtain ⟨ψ, p1, p2, p3⟩ := m_meas (N := N) (cs := ds) (f := f) hn hN n 0 N υ (by omega) (by unfold iv_N at hN; omega) hm2.1 hm2.2.2.2 (fun a _ ha => absurd ha (Nat.not_lt_zero a))
              have hm3 := hm2.kept p1 (by decide) List.not_mem_nil List.not_mem_nil List.not_mem_nil
              have hlt : ∀ x, x < n → gd f (al n) p x < 24 := fun x hx => gJ_iff.mp c p x (by omega) (by omega) ((al_in hn).mpr hp') ((al_in hn).mpr hx)
              obtain ⟨χ, x1, x2⟩ := m_upA (cs := ds) (N := N) (x3 := z) hn hw c hp' hN n 0 N ψ (by omega) (by unfold iv_N at hN; omega) ⟨hm3.1, hm3.2.2.2, fun u hu => by
                rw [p2 p u hp' hu]
                unfold gdI
                rw [if_pos (hlt u hu)]⟩
              refine ⟨χ, ((v1.kept rfl rfl).tr (p1.kept rfl rfl)).tr (x1.kept rfl rfl), by rw [x1.l (by decide), p1.l (by decide), v1.l (by decide)], by rw [x1.f List.not_mem_nil]; exact hm3.2.2.1, ?_⟩
              show f282 N 72 (nI s) (nI p) z (hp σ', ds) = _
              rw [preM σ' μ ds hm hl, v2, if_pos c]
              unfold f221
              have p3' : g221_2 N N 72 0 (hp υ, ds) = some (.inl none, (hp ψ, ds)) := p3
              rw [p3', lf_cv_r]
              exact x2
          · refine Or.inl ⟨-1, τ, kS, ?_, fun σ' μ ds hm hl => ?_⟩
            · rw [preC, if_neg c]
            · obtain ⟨υ, v1, v2⟩ := preW μ ds hm
              have hm2 := hm.kept v1 (by decide) (by decide) (by decide) (by decide)
              refine ⟨υ, v1.kept rfl rfl, v1.l (by decide), hm2.2.2.1, ?_⟩
              show f282 N 72 (nI s) (nI p) z (hp σ', ds) = _
              rw [preM σ' μ ds hm hl, v2, if_neg c]
        · refine Or.inr ⟨"java/util/NoSuchElementException", 1, σ, iv_kept.rf σ, by decide, rfl, ?_, fun σ' μ ds hm hl => ⟨hp_wf μ 72 0 1, 0, iv_kept.wm (by omega), hp_wf_at, ?_⟩⟩
          · unfold f163
            rw [o0, c_hw_in hs8 hn hv.1 hp' hp', lf_cr_r]
            by_cases c1 : z < 0
            · rw [if_pos c1]
            · rw [if_neg c1, if_neg]
              intro c2
              rw [fa_lt] at c1
              rw [fa_le] at c2
              have e1 : (1 : Int32).toInt = 1 := rfl
              have e2 : (0 : Int32).toInt = 0 := rfl
              apply hz
              rcases (show z.toInt = 0 ∨ z.toInt = 1 by omega) with w | w
              · exact Or.inl (Int32.toInt_inj.mp (w.trans e2.symm))
              · exact Or.inr (Int32.toInt_inj.mp (w.trans e1.symm))
          · show f282 N 72 (nI s) (nI p) z (hp σ', ds) = _
            unfold f282 g282_32
            rw [o72, hl, lf_ci_r, if_neg (by decide), o72, m_has_in hn hm.1 hm.2.2.1 hp' hp', lf_ci_r, if_neg (by decide), if_neg (fun w => hz (Or.inl w)), if_pos (fun w => hz (Or.inr w)), o72, m_rf hm.2.2.1 (by decide), lf_ci_r, if_neg (fun w => w rfl)]
  obtain ⟨τ, ds, q1, q2, q3, q4⟩ := key
  refine ⟨τ, ds, q1, q2, q3, fun k23 => ?_⟩
  rw [← q4 (k23 (nI i + 6))]
  unfold g327_2564 h322 f322
  simp only [iv_s1 hs hi, iv_s2 hs hi, iv_s3 hs hi, Option.bind_some, if_pos hp_x]
  rfl
