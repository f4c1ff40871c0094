/-! case tell -/
theorem least_of {P : Nat → Prop} : ∀ m, P m → ∃ R, R ≤ m ∧ P R ∧ ∀ t, t < R → ¬ P t := by
  intro m
  induction m using Nat.strongRecOn with
  | ind m ih =>
    intro h
    by_cases c : ∃ t, t < m ∧ P t
    · obtain ⟨t, t1, t2⟩ := c
      obtain ⟨R, r1, r2, r3⟩ := ih t t1 t2
      exact ⟨R, by omega, r2, r3⟩
    · exact ⟨m, Nat.le_refl _, h, fun t ht z => c ⟨t, ht, z⟩⟩
/-- a net is asked, and a row that is kept lies as it did -/
theorem askI6 {J : iv_J} {σ : hp_S} {cs : Nat × Nat} {N : Nat} {x : Int32} {C : lf_R} {F : lf_W → lf_R} {c : List (String × Int32)} (hI : iv J σ) (hN : iv_N N)
    (hc : c.find? (fun q => decide (q.1 = "java/util/NoSuchElementException")) = some ("java/util/NoSuchElementException", 1))
    (h0 : no_net σ x → C = lf_thr "java/util/NoSuchElementException" (hp σ, cs))
    (h0m : ∀ (σ' : hp_S) (ds : Nat × Nat) (w : lf_W), f178 N 72 x (hp σ', ds) = some (.inl (some (.int 0)), w) → F (hp σ', ds) = some (.inl (some (.int 0)), w))
    (h1 : ∀ (s n d : Nat) (f : Nat → Int32), s < 8 → x = nI s → GW n d f → NV σ s n d f →
      (∃ (v : Int32) (σ1 : hp_S), iv_kept σ σ1 ∧ C = some (.inl (some (.int v)), (hp σ1, cs)) ∧ ∀ (σ' μ : hp_S) (ds : Nat × Nat), μ.1 116 = σ.1 116 → MV μ n d f → f178 N 72 x (hp σ', ds) = some (.inl (some (.int 1)), (hp μ, ds)) → ∃ τ, iv_kept μ τ ∧ τ.2.1 117 = μ.2.1 117 ∧ τ.2.2.1 72 0 = 0 ∧ F (hp σ', ds) = some (.inl (some (.int v)), (hp τ, ds)))
      ∨ ∃ (E : String) (y : Int32) (σ1 : hp_S), iv_kept σ σ1 ∧ ¬ y = 0 ∧ c.find? (fun q => decide (q.1 = E)) = some (E, y) ∧ C = lf_thr E (hp σ1, cs) ∧ ∀ (σ' μ : hp_S) (ds : Nat × Nat), MV μ n d f → f178 N 72 x (hp σ', ds) = some (.inl (some (.int 1)), (hp μ, ds)) → ∃ (τ : hp_S) (b : Int32), iv_kept μ τ ∧ τ.2.2.1 72 0 = y ∧ F (hp σ', ds) = some (.inl (some (.int b)), (hp τ, ds))) :
    ∃ (τ : hp_S) (ds : Nat × Nat), iv J τ ∧ ds.1 ≤ cs.1 + 1 ∧ ds.2 ≤ cs.2 + 6 ∧ ∀ k : lf_W → lf_R, tl_I (tc_I c C) F k = k (hp τ, ds) := by
  refine n_askI hI ?_
  rcases iv_view hI x with h | ⟨s, n, d, hs, rfl, hg, hv, hm⟩
  · refine Or.inr ⟨"java/util/NoSuchElementException", 1, σ, iv_kept.rf σ, by decide, hc, h0 h, fun σ' ds hI' hk => ⟨_, _, iv_k0.tr iv_k0, hp_wf_at, h0m σ' ds _ (m_lays_no (h.kept hk))⟩⟩
  · rcases h1 s n d _ hs rfl hg hv with ⟨v, σ1, a1, a2, a3⟩ | ⟨E, y, σ1, a1, a2, a3, a4, a5⟩
    · refine Or.inl ⟨v, σ1, a1, a2, fun σ' hI' hk => ?_⟩
      obtain ⟨m1, m2⟩ := hm σ' hk
      obtain ⟨τ, b1, b2, b3, b4⟩ := a3 σ' _ cs (by rw [← hk.1 116 (by omega)]; exact m_laid_kept.1 116 (by omega)) m1 (m2 N cs hN)
      exact ⟨τ, m_laid_kept.tr b1, b2, b3, b4⟩
    · refine Or.inr ⟨E, y, σ1, a1, a2, a3, a4, fun σ' ds hI' hk => ?_⟩
      obtain ⟨m1, m2⟩ := hm σ' hk
      obtain ⟨τ, b, b1, b2, b3⟩ := a5 σ' _ ds m1 (m2 N ds hN)
      exact ⟨τ, b, m_laid_kept.tr b1, b2, b3⟩
theorem case_tell {J : iv_J} {rd : iv_rd} {N : Nat} (hN : iv_N N) (hJ6 : ∀ c, J c → ∀ j, c 116 j = 0) : iv_caseN J rd N g327_2644 := by
  intro sc i σ cs hs hi hI
  have key : ∃ (τ : hp_S) (ds : Nat × Nat), iv J τ ∧ ds.1 ≤ cs.1 + 1 ∧ ds.2 ≤ cs.2 + 6 ∧ ∀ k : lf_W → lf_R, tl_I (tc_I [("java/util/NoSuchElementException", 1)] (f164 N 0 (sc.2 (i + 1)) (sc.2 (i + 2)) (hp σ, cs))) (fun w => f285 N 72 (sc.2 (i + 1)) (sc.2 (i + 2)) w) k = k (hp τ, ds) := by
    generalize sc.2 (i + 1) = x
    generalize sc.2 (i + 2) = y
    have h116 : ∀ j, σ.1 116 j = 0 := fun j => by
      have h9 : iv_cs σ 116 j = 0 := hJ6 _ hI.2.2.2.2.2.2.1 j
      unfold iv_cs at h9
      rw [if_pos (by decide)] at h9
      exact h9
    refine askI6 (x := x) hI hN rfl (fun h => ?_) (fun σ' ds w h => ?_) (fun s n d f hs8 hx hg hv => ?_)
    · unfold f164
      rw [o0, c_hw_no h]
      rfl
    · unfold f285
      rw [o72, h, lf_ci_r, if_pos rfl]
    · subst hx
      have hn1 := hg.1
      have hn := hg.2.1
      have hw := hg.2.2.2.2.1
      rcases two_or n hn y y with h | ⟨p, q, hp', hq, rfl, hqq⟩
      · refine Or.inr ⟨"java/util/NoSuchElementException", 1, σ, iv_kept.rf σ, by decide, rfl, ?_, fun σ' μ ds hm hl => ⟨hp_wf μ 72 0 1, 0, iv_kept.wm (by omega), hp_wf_at, ?_⟩⟩
        · unfold f164
          rw [o0, c_hw_out hs8 hn1 hn hv.1 h]
          rfl
        · show f285 N 72 (nI s) y (hp σ', ds) = _
          unfold f285
          rw [o72, hl, lf_ci_r, if_neg (by decide), o72, m_has_out hn hm.1 hm.2.2.1 h, lf_ci_r, if_neg (fun z => z rfl)]
      · by_cases h10 : 10 < n
        · refine Or.inl ⟨-1, σ, iv_kept.rf σ, ?_, fun σ' μ ds h6 hm hl => ⟨μ, iv_kept.rf μ, rfl, hm.2.2.1, ?_⟩⟩
          · unfold f164
            rw [o0, c_hw_in hs8 hn hv.1 hp' hp', lf_cr_r, sN_1 hs8, hv.1, if_pos (show (10 : Int32) < nI n from nI_lt (a := 10) (by omega) (by omega))]
          · show f285 N 72 (nI s) (nI p) (hp σ', ds) = _
            unfold f285
            rw [o72, hl, lf_ci_r, if_neg (by decide), o72, m_has_in hn hm.1 hm.2.2.1 hp' hp', lf_ci_r, if_pos (by decide), i72_4, hm.1, if_pos (show (10 : Int32) < nI n from nI_lt (a := 10) (by omega) (by omega))]
        · have hn10 : n ≤ 10 := by omega
          have hlt : ¬ (10 : Int32) < nI n := nI_nlt (a := 10) (by omega) (by omega)
          obtain ⟨τ, r, t1, t2, t3, t4, t5, t6⟩ := c_priceS (σ := σ) (cs := cs) (N := N) (L := 2000000) hs8 hn1 hn hN (by omega) hv.2.2 hI.2.2.2.2.2.2.2.1
          have hmax := gPr_max (f := f) (A := al n)
          have er := (t3 (by omega)).1
          have hwh : (nI r = 1000000) ↔ ¬ dS f (al n) 23 = 0 := by
            rw [er, show (1000000 : Int32) = nI 1000000 from rfl, q_eq (by omega) (by omega)]
            unfold gPr
            have g1 := gF_le (f := f) (A := al n)
            have g2 := gS_max (f := f) (A := al n)
            by_cases c : dS f (al n) 23 = 0
            · rw [if_pos c]
              exact ⟨fun w => by omega, fun w => absurd c w⟩
            · rw [if_neg c]
              exact ⟨fun _ => c, fun _ => rfl⟩
          have hv2 := hv.fr t1 (by simp; omega) (by simp <;> omega) (by simp <;> omega)
          have preC : f164 N 0 (nI s) (nI p) (hp σ, cs) = if dS f (al n) 23 = 0 then lf_ci (f110 N 29 (2 + 2 * s) (nI p) (hp τ, cs)) fun v7 w1 => some (.inl (some (.int v7)), w1) else some (.inl (some (.int (-1))), (hp τ, cs)) := by
            unfold f164 f106
            rw [o0, c_hw_in hs8 hn hv.1 hp' hp', lf_cr_r, sN_1 hs8, hv.1, if_neg hlt, r0_4, o29, sN_r hs8, sN_o hs8, c_all hs8 hv.1, lf_ci_r, o29, show (2000000 : Int32) = nI 2000000 from rfl, t6, lf_ci_r]
            by_cases c : dS f (al n) 23 = 0
            · rw [if_neg (fun w => hwh.mp w c), lf_ci_r, if_pos (by decide), r0_4, o29, if_pos c]
            · rw [if_pos (hwh.mpr c), lf_ci_r, if_neg (fun w => w rfl), if_neg c]
          have hA : ∀ i, bt (al n) i = true → i < n := fun i w => (al_in hn).mp w
          have hsy : ∀ a b, bt (al n) a = true → bt (al n) b = true → bt (f a) b = true → bt (f b) a = true := fun a b ha hb h => (hw a (by have := (al_in hn).mp ha; omega) b h).2.2.2
          have preM : ∀ (σ' μ : hp_S) (ds : Nat × Nat), MV μ n d f → f178 N 72 (nI s) (hp σ', ds) = some (.inl (some (.int 1)), (hp μ, ds)) → ∃ υ, fr [81] [(72, 24), (72, 25)] μ υ ∧ f285 N 72 (nI s) (nI p) (hp σ', ds) = if dS f (al n) 23 = 0 then g285_43 N N 72 (nI p) 0 (hp υ, ds) else some (.inl (some (.int (-1))), (hp υ, ds)) := by
            intro σ' μ ds hm hl
            obtain ⟨υ, v1, -, v3⟩ := m_isWhole (σ := μ) (cs := ds) (N := N) (f := f) (A := al n) hn hN hA hsy hm.1 hm.2.2.2
            refine ⟨υ, v1, ?_⟩
            unfold f285
            rw [o72, hl, lf_ci_r, if_neg (by decide), o72, m_has_in hn hm.1 hm.2.2.1 hp' hp', lf_ci_r, if_pos (by decide), i72_4, hm.1, if_neg hlt, o72, m_all hm.1, lf_ci_r, o72]
            rw [show f222 N 72 (lf_shl 1 (nI n) - 1) (hp μ, ds) = _ from v3, lf_ci_r]
            by_cases c : dS f (al n) 23 = 0
            · rw [if_pos c, if_pos c, if_pos (by decide)]
            · rw [if_neg c, if_neg c, if_neg (fun w => w rfl)]
          have kS : iv_kept σ τ := t1.keptS rfl rfl (fun h => h.of t1 t2 (by decide) (by decide) (by decide) (by decide))
          by_cases c : dS f (al n) 23 = 0
          · have hx : tkO n (lf_shl 1 (nI p)) := fun v hv => by rw [(b_one (by omega)).mp hv]; exact hp'
            have hx0 : ¬ lf_shl 1 (nI p) = 0 := fun z => b_nothing.mp z p ((b_one (by omega)).mpr rfl)
            have hex := RT_ex hn hw c (n - 1) (lf_shl 1 (nI p)) hx hx0 (by
              have := i_pc_lt (x := 0) (y := lf_shl 1 (nI p)) (fun i hi => by rw [b_0] at hi; cases hi) (b_0 p) ((b_one (by omega)).mpr rfl)
              omega)
            obtain ⟨R, r1, r2, r3⟩ := least_of (P := fun r => RT (fun v p => bt (f v) p) n r (bt (lf_shl 1 (nI p)))) (n - 1) hex
            have iC : ∀ t, RE (NxC f) (lf_shl 1 (nI p)) t (al n) ↔ RT (fun v p => bt (f v) p) n t (bt (lf_shl 1 (nI p))) := fun t => by
              rw [RE_0]
              exact RM_RT hn (NxC_1 hn hw) (fun x A h1 _ h3 => NxC_2 hn hw x A h1 h3) t _ hx hx0
            have iM : ∀ t, RE (NxM f n) (lf_shl 1 (nI p)) t (al n) ↔ RT (fun v p => bt (f v) p) n t (bt (lf_shl 1 (nI p))) := fun t => by
              rw [RE_0]
              exact RM_RT hn (NxM_1 (f := f)) (NxM_2 hn hw c) t _ hx hx0
            obtain ⟨ω, w1, w2⟩ := c_tell (σ := τ) (cs := cs) (N := N) hs8 hn1 hn10 hw hp' hN (show R ≤ 9 by omega) ((iC R).mpr r2) (fun t ht z => r3 t ht ((iC t).mp z)) hv2.1 hv2.2.2
            refine Or.inl ⟨nI R, ω, kS.tr (w1.kept rfl rfl), ?_, fun σ' μ ds h6 hm hl => ?_⟩
            · rw [preC, if_pos c, w2, lf_ci_r]
            · obtain ⟨υ, v1, v2⟩ := preM σ' μ ds hm hl
              have hm2 := hm.kept v1 (by decide) (by decide) (by decide) (by decide)
              obtain ⟨χ, x1, x2, x3⟩ := m_tell (σ := υ) (cs := ds) (N := N) (f := f) hn1 hn10 hp' hN (show R ≤ 9 by omega) ((iM R).mpr r2) (fun t ht z => r3 t ht ((iM t).mp z)) hm2.1 hm2.2.2.2 (fun j => by rw [v1.r (by decide), h6]; exact h116 j)
              have e6 : χ.1 116 = υ.1 116 := by
                funext j
                rw [x2 j, v1.r (by decide), h6, h116 j]
              have x1' : iv_kept υ χ := by
                refine ⟨fun a ha => ?_, fun a ha => ?_, x1.f List.not_mem_nil, x1.f List.not_mem_nil, fun k _ => x1.f List.not_mem_nil, x1.f List.not_mem_nil, x1.f List.not_mem_nil, fun k _ => x1.f List.not_mem_nil, fun z => ?_⟩
                · by_cases ca : a = 116
                  · rw [ca]; exact e6
                  · exact x1.r (by simp; omega)
                · funext k
                  exact x1.f List.not_mem_nil
                · unfold iv_sw
                  rw [x1.g List.not_mem_nil, x1.g List.not_mem_nil, x1.g List.not_mem_nil, x1.g List.not_mem_nil, x1.g List.not_mem_nil, x1.g List.not_mem_nil]
                  exact z
              refine ⟨χ, (v1.kept rfl rfl).tr x1', by rw [x1.l (by decide), v1.l (by decide)], by rw [x1.f List.not_mem_nil]; exact hm2.2.2.1, ?_⟩
              show f285 N 72 (nI s) (nI p) (hp σ', ds) = _
              rw [v2, if_pos c]
              exact x3
          · refine Or.inl ⟨-1, τ, kS, ?_, fun σ' μ ds h6 hm hl => ?_⟩
            · rw [preC, if_neg c]
            · obtain ⟨υ, v1, v2⟩ := preM σ' μ ds hm hl
              have hm2 := hm.kept v1 (by decide) (by decide) (by decide) (by decide)
              refine ⟨υ, v1.kept rfl rfl, v1.l (by decide), hm2.2.2.1, ?_⟩
              show f285 N 72 (nI s) (nI p) (hp σ', ds) = _
              rw [v2, if_neg c]
  obtain ⟨τ, ds, q1, q2, q3, q4⟩ := key
  refine ⟨τ, ds, q1, q2, q3, fun k23 => ?_⟩
  rw [← q4 (k23 (nI i + 6))]
  unfold g327_2644 h323 f323
  simp only [iv_s1 hs hi, iv_s2 hs hi, Option.bind_some, if_pos hp_x]
  rfl
