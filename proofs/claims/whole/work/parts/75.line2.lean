/-- the model: a net lies there, its place is laid -/
theorem m_two_no {J : iv_J} {σ : hp_S} (hI : iv J σ) (x : Int32) : no_net σ x ∨ ∃ s m e, s < 8 ∧ x = nI s ∧ 1 ≤ m ∧ m ≤ 24 ∧ 1 ≤ e ∧ e ≤ 8 ∧ σ.2.2.1 (2 + 2 * s) 1 = nI m ∧ σ.1 73 s = nI m ∧ σ.2.2.1 (2 + 2 * s) 2 = nI e ∧ σ.1 74 s = nI e ∧ (∀ k, k < 24 → σ.1 75 (24 * s + k) = σ.1 (3 + 2 * s) k) ∧ (∀ a, a < 24 → ∀ b, bt (σ.1 (3 + 2 * s) a) b = true → a < m ∧ b < m ∧ a ≠ b ∧ bt (σ.1 (3 + 2 * s) b) a = true) ∧ ∀ a, a < 24 → i_pc (σ.1 (3 + 2 * s) a) ≤ e := by
  rcases pk_ix x (n := 8) (by omega) with h | h | ⟨s, hs, rfl⟩
  · exact Or.inl (Or.inl h)
  · exact Or.inl (Or.inr (Or.inl h))
  · obtain ⟨h1, h2, h3, h4⟩ := hI.1 s hs
    rcases h4 with h4 | ⟨m, e, q1, q2, q3, q4, q5, q6, q7, q8⟩
    · exact Or.inl (Or.inr (Or.inr ⟨s, hs, rfl, h1.trans h4, h4⟩))
    · exact Or.inr ⟨s, m, e, hs, rfl, q1, q2, q4, q5, h1.trans q3, q3, h2.trans q6, q6, fun k hk => (h3 k hk).symm, q7, q8⟩
theorem bt_sym {f : Nat → Int32} {m p q : Nat} (hm : m ≤ 24) (hw : ∀ a, a < 24 → ∀ b, bt (f a) b = true → a < m ∧ b < m ∧ a ≠ b ∧ bt (f b) a = true) (hp : p < m) (hq : q < m) : bt (f q) p = bt (f p) q := by
  cases h1 : bt (f p) q with
  | true => exact (hw p (by omega) q h1).2.2.2
  | false =>
    cases h2 : bt (f q) p with
    | false => rfl
    | true => exact absurd (hw q (by omega) p h2).2.2.2 (by rw [h1]; decide)
/-- case 1: line -/
theorem case_line {J : iv_J} {rd : iv_rd} : iv_case J rd g327_257 := by
  intro sc i σ cs hs hi hI
  have key : ∃ (τ : hp_S) (ds : Nat × Nat), iv J τ ∧ ds.1 ≤ cs.1 + 1 ∧ ds.2 ≤ cs.2 + 6 ∧ ∀ N, iv_N N → ∀ k : lf_W → lf_R, tl_Z (tc_Z [("java/util/NoSuchElementException", 1)] (f131 N 0 (sc.2 (i + 1)) (sc.2 (i + 2)) (sc.2 (i + 3)) (hp σ, cs))) (fun w => f188 N 72 (sc.2 (i + 1)) (sc.2 (i + 2)) (sc.2 (i + 3)) w) k = k (hp τ, ds) := by
    refine iv_turn (F := fun N w => f188 N 72 (sc.2 (i + 1)) (sc.2 (i + 2)) (sc.2 (i + 3)) w) hI ?_
    generalize sc.2 (i + 1) = x
    generalize sc.2 (i + 2) = a
    generalize sc.2 (i + 3) = b
    rcases m_two_no hI x with h | ⟨s, m, e, hs8, rfl, m1, m2, d1, d2, e1, e2, e3, e4, e5, e6, e7⟩
    · refine Or.inl ⟨fun N hN => ?_, hp_wf (hp_wf σ 72 0 0) 72 0 1, iv_k0.tr iv_k0, hp_wf_at, fun N hN => ?_⟩
      · unfold f131
        rw [if_pos hp_x, c_hw_no h]
        rfl
      · unfold f188
        rw [if_pos hp_m, m_lays_no h, lf_ci_r, if_pos rfl]
    · have hl : ∀ (N : Nat) (ρ : hp_S) (ds : Nat × Nat), iv_N N → ρ.1 73 = σ.1 73 → f178 N 72 (nI s) (hp ρ, ds) = some (.inl (some (.int 1)), (hp (m_laid ρ s), ds)) := fun N ρ ds hN hρ => m_lays hs8 (by rw [hρ, e2]; exact nI_pos1 m1 m2) hN
      have hk4 : ∀ ρ : hp_S, ρ.1 73 = σ.1 73 → (m_laid ρ s).2.2.1 72 4 = nI m := fun ρ hρ => by rw [m_laid_k, hρ, e2]
      have hk5 : ∀ ρ : hp_S, ρ.1 74 = σ.1 74 → (m_laid ρ s).2.2.1 72 5 = nI e := fun ρ hρ => by rw [m_laid_d, hρ, e4]
      have hkj : ∀ (ρ : hp_S) (k : Nat), ρ.1 75 = σ.1 75 → k < 24 → (m_laid ρ s).1 76 k = σ.1 (3 + 2 * s) k := fun ρ k hρ hk => by rw [m_laid_j hk, hρ, e5 k hk]
      rcases two_or m m2 a b with h | ⟨p, q, hp', hq, rfl, rfl⟩
      · refine Or.inl ⟨fun N hN => ?_, hp_wf (m_laid σ s) 72 0 1, m_laid_kept.tr iv_k0, hp_wf_at, fun N hN => ?_⟩
        · unfold f131
          rw [if_pos hp_x, c_hw_out hs8 m1 m2 e1 h]
          rfl
        · unfold f188
          rw [if_pos hp_m, hl N σ _ hN rfl, lf_ci_r, if_neg (by decide), if_pos hp_m, m_has_out m2 (hk4 σ rfl) m_laid_0 h, lf_ci_r, if_neg (fun q => q rfl)]
      · have hC : ∀ N, f131 N 0 (nI s) (nI p) (nI q) (hp σ, cs) = if nI p = nI q then some (.inl (some (.int 0)), (hp σ, cs)) else if bt (σ.1 (3 + 2 * s) p) q = true then some (.inl (some (.int 0)), (hp σ, cs)) else if nI (i_pc (σ.1 (3 + 2 * s) p)) < nI e then (if nI (i_pc (σ.1 (3 + 2 * s) q)) < nI e then (lf_cv (f57 N (2 + 2 * s) (nI p) (nI q) (hp σ, cs)) fun w33 => some (.inl (some (.int 1)), w33)) else some (.inl (some (.int 0)), (hp σ, cs))) else some (.inl (some (.int 0)), (hp σ, cs)) := by
          intro N
          unfold f131
          rw [if_pos hp_x, c_hw_in hs8 m2 e1 hp' hq, lf_cr_r]
          by_cases c1 : nI p = nI q
          · rw [if_pos c1, if_pos c1]
          rw [if_neg c1, if_neg c1, if_pos (c_is hs8), c_joins hs8 (by omega) (by omega), lf_ci_r]
          by_cases c2 : bt (σ.1 (3 + 2 * s) p) q = true
          · rw [if_pos c2, if_pos c2, if_pos (by decide)]
          rw [if_neg c2, if_neg c2, if_neg (fun q => q rfl), if_pos (c_is hs8), c_full hs8 (by omega), lf_ci_r, e3]
          by_cases c3 : nI (i_pc (σ.1 (3 + 2 * s) p)) < nI e
          · rw [if_pos c3, if_pos c3, if_neg (fun q => q rfl), if_pos (c_is hs8), c_full hs8 (by omega), lf_ci_r, e3]
            by_cases c4 : nI (i_pc (σ.1 (3 + 2 * s) q)) < nI e
            · rw [if_pos c4, if_pos c4, if_pos rfl, if_pos (c_is hs8)]
            · rw [if_neg c4, if_neg c4, if_neg (by decide)]
          · rw [if_neg c3, if_neg c3, if_pos (by decide)]
        have hM : ∀ (N : Nat) (ρ : hp_S), iv_N N → ρ.1 73 = σ.1 73 → ρ.1 74 = σ.1 74 → ρ.1 75 = σ.1 75 → f188 N 72 (nI s) (nI p) (nI q) (hp ρ, cs) = if nI p = nI q then some (.inl (some (.int 0)), (hp (m_laid ρ s), cs)) else if bt (σ.1 (3 + 2 * s) p) q = true then some (.inl (some (.int 0)), (hp (m_laid ρ s), cs)) else if nI (i_pc (σ.1 (3 + 2 * s) p)) < nI e then (if nI (i_pc (σ.1 (3 + 2 * s) q)) < nI e then (lf_cv (f183 N 72 (nI p) (nI q) (hp (m_laid ρ s), cs)) fun w48 => if lf_is w48 72 12 = true then (lf_cv (f179 N 72 (nI s) w48) fun w54 => some (.inl (some (.int 1)), w54)) else none) else some (.inl (some (.int 0)), (hp (m_laid ρ s), cs))) else some (.inl (some (.int 0)), (hp (m_laid ρ s), cs)) := by
          intro N ρ hN h73 h74 h75
          unfold f188
          rw [if_pos hp_m, hl N ρ _ hN h73, lf_ci_r, if_neg (by decide), if_pos hp_m, m_has_in m2 (hk4 ρ h73) m_laid_0 hp' hq, lf_ci_r, if_pos (by decide)]
          by_cases c1 : nI p = nI q
          · rw [if_pos c1, if_pos c1]
          rw [if_neg c1, if_neg c1, if_pos hp_m, m_joined (by omega) (by omega), lf_ci_r, hkj ρ p h75 (by omega)]
          by_cases c2 : bt (σ.1 (3 + 2 * s) p) q = true
          · rw [if_pos c2, if_pos c2, if_pos (by decide)]
          rw [if_neg c2, if_neg c2, if_neg (fun q => q rfl), hp_fr (a := 72) (k := 6) (b := 76) rfl rfl, Option.bind_some, hp_ri (a := 76) (n := 24) rfl (in_nI (by omega) (by omega)), Option.bind_some, nI_clamp (by omega), hkj ρ p h75 (by omega), m_pc hN, lf_ci_r, hp_fi (a := 72) (k := 5) rfl rfl, Option.bind_some, hk5 ρ h74]
          by_cases c3 : nI (i_pc (σ.1 (3 + 2 * s) p)) < nI e
          · have c3' : ¬ nI e ≤ nI (i_pc (σ.1 (3 + 2 * s) p)) := by rw [fa_lt] at c3; rw [fa_le]; omega
            rw [if_pos c3, if_neg c3', hp_fr (a := 72) (k := 6) (b := 76) rfl rfl, Option.bind_some, hp_ri (a := 76) (n := 24) rfl (in_nI (by omega) (by omega)), Option.bind_some, nI_clamp (by omega), hkj ρ q h75 (by omega), m_pc hN, lf_ci_r, hp_fi (a := 72) (k := 5) rfl rfl, Option.bind_some, hk5 ρ h74]
            by_cases c4 : nI (i_pc (σ.1 (3 + 2 * s) q)) < nI e
            · rw [if_pos c4, if_pos c4, if_pos hp_m]
            · rw [if_neg c4, if_neg c4]
          · have c3' : nI e ≤ nI (i_pc (σ.1 (3 + 2 * s) p)) := by rw [fa_lt] at c3; rw [fa_le]; omega
            rw [if_neg c3, if_pos c3']
        by_cases c1 : nI p = nI q
        · exact Or.inr (Or.inl ⟨fun N hN => by rw [hC, if_pos c1], s, fun N hN => by rw [hM N (hp_wl σ 117 0 0) hN rfl rfl rfl, if_pos c1]⟩)
        · by_cases c2 : bt (σ.1 (3 + 2 * s) p) q = true
          · exact Or.inr (Or.inl ⟨fun N hN => by rw [hC, if_neg c1, if_pos c2], s, fun N hN => by rw [hM N (hp_wl σ 117 0 0) hN rfl rfl rfl, if_neg c1, if_pos c2]⟩)
          · by_cases c3 : nI (i_pc (σ.1 (3 + 2 * s) p)) < nI e
            · by_cases c4 : nI (i_pc (σ.1 (3 + 2 * s) q)) < nI e
              · have hne : p ≠ q := fun h => c1 (by rw [h])
                have c2' : bt (σ.1 (3 + 2 * s) p) q = false := by cases h : bt (σ.1 (3 + 2 * s) p) q with
                  | false => rfl
                  | true => exact absurd h c2
                refine Or.inr (Or.inr ⟨s, m, p, q, hs8, m1, m2, hp', hq, hne, e2, fun e' he' h74 a ha => ?_, fun N hN => ?_, fun ρ h73 h74 h75 N hN => ?_⟩)
                · have hee : e = e' := (nI_eq (by omega) (by omega)).mp (e4.symm.trans h74)
                  subst hee
                  have l1 : i_pc (σ.1 (3 + 2 * s) p) < e := (nI_ltI (by have := e7 p (by omega); omega) (by omega)).mp c3
                  have l2 : i_pc (σ.1 (3 + 2 * s) q) < e := (nI_ltI (by have := e7 q (by omega); omega) (by omega)).mp c4
                  unfold fl_r
                  by_cases k1 : a = q
                  · rw [if_pos k1, i_pc_on (by omega) ((bt_sym m2 e6 hp' hq).trans c2')]; omega
                  · rw [if_neg k1]
                    by_cases k2 : a = p
                    · rw [if_pos k2, i_pc_on (by omega) c2']; omega
                    · rw [if_neg k2]; exact e7 a ha
                · rw [hC, if_neg c1, if_neg c2, if_pos c3, if_pos c4, c_flip hs8 (by omega) (by omega) hne, lf_cv_r]
                · rw [hM N ρ hN h73 h74 h75, if_neg c1, if_neg c2, if_pos c3, if_pos c4, m_joins (by omega) (by omega) hne, lf_cv_r, if_pos hp_m, m_keeps hs8 hN, lf_cv_r, hkj ρ p h75 (by omega), hkj ρ q h75 (by omega), x_or (by omega) c2', x_or (by omega) ((bt_sym m2 e6 hp' hq).trans c2')]
              · exact Or.inr (Or.inl ⟨fun N hN => by rw [hC, if_neg c1, if_neg c2, if_pos c3, if_neg c4], s, fun N hN => by rw [hM N (hp_wl σ 117 0 0) hN rfl rfl rfl, if_neg c1, if_neg c2, if_pos c3, if_neg c4]⟩)
            · exact Or.inr (Or.inl ⟨fun N hN => by rw [hC, if_neg c1, if_neg c2, if_neg c3], s, fun N hN => by rw [hM N (hp_wl σ 117 0 0) hN rfl rfl rfl, if_neg c1, if_neg c2, if_neg c3]⟩)
  obtain ⟨τ, ds, q1, q2, q3, q4⟩ := key
  refine ⟨τ, ds, q1, q2, q3, fun N hN k23 => ?_⟩
  rw [← q4 N hN (k23 (nI i + 6))]
  unfold g327_257 h293 f293
  simp only [iv_s1 hs hi, iv_s2 hs hi, iv_s3 hs hi, Option.bind_some, if_pos hp_x]
  rfl
/-- case 2: off -/
theorem case_off {J : iv_J} {rd : iv_rd} : iv_case J rd g327_344 := by
  intro sc i σ cs hs hi hI
  have key : ∃ (τ : hp_S) (ds : Nat × Nat), iv J τ ∧ ds.1 ≤ cs.1 + 1 ∧ ds.2 ≤ cs.2 + 6 ∧ ∀ N, iv_N N → ∀ k : lf_W → lf_R, tl_Z (tc_Z [("java/util/NoSuchElementException", 1)] (f132 N 0 (sc.2 (i + 1)) (sc.2 (i + 2)) (sc.2 (i + 3)) (hp σ, cs))) (fun w => f189 N 72 (sc.2 (i + 1)) (sc.2 (i + 2)) (sc.2 (i + 3)) w) k = k (hp τ, ds) := by
    refine iv_turn (F := fun N w => f189 N 72 (sc.2 (i + 1)) (sc.2 (i + 2)) (sc.2 (i + 3)) w) hI ?_
    generalize sc.2 (i + 1) = x
    generalize sc.2 (i + 2) = a
    generalize sc.2 (i + 3) = b
    rcases m_two_no hI x with h | ⟨s, m, e, hs8, rfl, m1, m2, d1, d2, e1, e2, e3, e4, e5, e6, e7⟩
    · refine Or.inl ⟨fun N hN => ?_, hp_wf (hp_wf σ 72 0 0) 72 0 1, iv_k0.tr iv_k0, hp_wf_at, fun N hN => ?_⟩
      · unfold f132
        rw [if_pos hp_x, c_hw_no h]
        rfl
      · unfold f189
        rw [if_pos hp_m, m_lays_no h, lf_ci_r, if_pos rfl]
    · have hl : ∀ (N : Nat) (ρ : hp_S) (ds : Nat × Nat), iv_N N → ρ.1 73 = σ.1 73 → f178 N 72 (nI s) (hp ρ, ds) = some (.inl (some (.int 1)), (hp (m_laid ρ s), ds)) := fun N ρ ds hN hρ => m_lays hs8 (by rw [hρ, e2]; exact nI_pos1 m1 m2) hN
      have hk4 : ∀ ρ : hp_S, ρ.1 73 = σ.1 73 → (m_laid ρ s).2.2.1 72 4 = nI m := fun ρ hρ => by rw [m_laid_k, hρ, e2]
      have hkj : ∀ (ρ : hp_S) (k : Nat), ρ.1 75 = σ.1 75 → k < 24 → (m_laid ρ s).1 76 k = σ.1 (3 + 2 * s) k := fun ρ k hρ hk => by rw [m_laid_j hk, hρ, e5 k hk]
      rcases two_or m m2 a b with h | ⟨p, q, hp', hq, rfl, rfl⟩
      · refine Or.inl ⟨fun N hN => ?_, hp_wf (m_laid σ s) 72 0 1, m_laid_kept.tr iv_k0, hp_wf_at, fun N hN => ?_⟩
        · unfold f132
          rw [if_pos hp_x, c_hw_out hs8 m1 m2 e1 h]
          rfl
        · unfold f189
          rw [if_pos hp_m, hl N σ _ hN rfl, lf_ci_r, if_neg (by decide), if_pos hp_m, m_has_out m2 (hk4 σ rfl) m_laid_0 h, lf_ci_r, if_neg (fun q => q rfl)]
      · by_cases c2 : bt (σ.1 (3 + 2 * s) p) q = true
        · have hne : p ≠ q := (e6 p (by omega) q c2).2.2.1
          have c1 : ¬ nI p = nI q := fun h => hne ((nI_eq (by omega) (by omega)).mp h)
          refine Or.inr (Or.inr ⟨s, m, p, q, hs8, m1, m2, hp', hq, hne, e2, fun e' he' h74 a ha => ?_, fun N hN => ?_, fun ρ h73 h74 h75 N hN => ?_⟩)
          · have hee : e = e' := (nI_eq (by omega) (by omega)).mp (e4.symm.trans h74)
            subst hee
            unfold fl_r
            by_cases k1 : a = q
            · rw [if_pos k1]
              have u1 := i_pc_off (by omega) ((bt_sym m2 e6 hp' hq).trans c2)
              have u2 := e7 q (by omega)
              omega
            · rw [if_neg k1]
              by_cases k2 : a = p
              · rw [if_pos k2]
                have u1 := i_pc_off (by omega) c2
                have u2 := e7 p (by omega)
                omega
              · rw [if_neg k2]; exact e7 a ha
          · unfold f132
            rw [if_pos hp_x, c_hw_in hs8 m2 e1 hp' hq, lf_cr_r, if_neg c1, if_pos (c_is hs8), c_joins hs8 (by omega) (by omega), lf_ci_r, if_pos c2, if_pos (by decide), if_pos (c_is hs8), c_flip hs8 (by omega) (by omega) hne, lf_cv_r]
          · show f189 N 72 (nI s) (nI p) (nI q) (hp ρ, cs) = _
            unfold f189
            rw [if_pos hp_m, hl N ρ _ hN h73, lf_ci_r, if_neg (by decide), if_pos hp_m, m_has_in m2 (hk4 ρ h73) m_laid_0 hp' hq, lf_ci_r, if_pos (by decide), if_pos hp_m, m_joined (by omega) (by omega), lf_ci_r, hkj ρ p h75 (by omega), if_pos c2, if_pos (by decide), if_pos hp_m, m_parts (by omega) (by omega) hne, lf_cv_r, if_pos hp_m, m_keeps hs8 hN, lf_cv_r, hkj ρ p h75 (by omega), hkj ρ q h75 (by omega), x_and (by omega) c2, x_and (by omega) ((bt_sym m2 e6 hp' hq).trans c2)]
        · refine Or.inr (Or.inl ⟨fun N hN => ?_, s, fun N hN => ?_⟩)
          · unfold f132
            rw [if_pos hp_x, c_hw_in hs8 m2 e1 hp' hq, lf_cr_r]
            by_cases c1 : nI p = nI q
            · rw [if_pos c1]
            · rw [if_neg c1, if_pos (c_is hs8), c_joins hs8 (by omega) (by omega), lf_ci_r, if_neg c2, if_neg (fun q => q rfl)]
          · show f189 N 72 (nI s) (nI p) (nI q) (hp (hp_wl σ 117 0 0), cs) = _
            unfold f189
            rw [if_pos hp_m, hl N (hp_wl σ 117 0 0) _ hN rfl, lf_ci_r, if_neg (by decide), if_pos hp_m, m_has_in m2 (hk4 (hp_wl σ 117 0 0) rfl) m_laid_0 hp' hq, lf_ci_r, if_pos (by decide), if_pos hp_m, m_joined (by omega) (by omega), lf_ci_r, hkj (hp_wl σ 117 0 0) p rfl (by omega), if_neg c2, if_neg (fun q => q rfl)]
  obtain ⟨τ, ds, q1, q2, q3, q4⟩ := key
  refine ⟨τ, ds, q1, q2, q3, fun N hN k23 => ?_⟩
  rw [← q4 N hN (k23 (nI i + 6))]
  unfold g327_344 h294 f294
  simp only [iv_s1 hs hi, iv_s2 hs hi, iv_s3 hs hi, Option.bind_some, if_pos hp_x]
  rfl
