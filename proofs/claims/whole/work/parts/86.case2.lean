/-! cases lineAt, distance -/
theorem enc_ne {q : Option (Nat × Nat)} (h : ∀ a b, q = some (a, b) → a < 24 ∧ b < 24) : enc q = -1 ↔ q = none := by
  cases q with
  | none => exact ⟨fun _ => rfl, fun _ => rfl⟩
  | some p =>
    obtain ⟨a, b⟩ := p
    have := h a b rfl
    refine ⟨fun e => ?_, fun e => by cases e⟩
    have e1 : nI (32 * a + b) = -1 := e
    rw [q_ne1 (by omega)] at e1
    exact e1.elim
theorem lq_get {f : Nat → Int32} {n i a b : Nat} (hn : n ≤ 24) (h : (lq f n 0 n)[i]? = some (a, b)) : a < b ∧ b < n ∧ a < 24 ∧ b < 24 ∧ bt (f a) b = true := by
  have := lq_mem (q := (a, b)) n 0 (by omega) (List.mem_of_getElem? h)
  obtain ⟨-, h1, h2, h3⟩ := this
  simp only at h1 h2 h3
  exact ⟨h1, h2, by omega, by omega, h3⟩
theorem case_lineAt {J : iv_J} {rd : iv_rd} {N : Nat} (hN : iv_N N) : iv_caseN J rd N g327_900 := by
  intro sc i σ cs hs hi hI
  have key : ∃ (τ : hp_S) (ds : Nat × Nat), iv J τ ∧ ds.1 ≤ cs.1 + 1 ∧ ds.2 ≤ cs.2 + 6 ∧ ∀ k : lf_W → lf_R, tl_I (tc_I [("java/util/NoSuchElementException", 1)] (f140 N 0 (sc.2 (i + 1)) (sc.2 (i + 2)) (hp σ, cs))) (fun w => f218 N 72 (sc.2 (i + 1)) (sc.2 (i + 2)) w) k = k (hp τ, ds) := by
    generalize sc.2 (i + 1) = x
    generalize sc.2 (i + 2) = y
    refine askI (x := x) hI hN rfl (fun h => ?_) (fun σ' ds w h => ?_) (fun s n d f hs8 hx hg hv => ?_)
    · unfold f140
      rw [o0, c_held_no h]
      rfl
    · unfold f218
      rw [o72, h, lf_ci_r, if_neg (fun q => q rfl)]
    · subst hx
      have hn1 := hg.1
      have hn := hg.2.1
      have hne : ¬ σ.2.2.1 (2 + 2 * s) 1 = 0 := by rw [hv.1]; exact nI_ne0 (by omega) (by omega)
      have hml : ∀ (μ : hp_S) (ds : Nat × Nat), MV μ n d f → ∃ τ, fr [79, 80] [(72, 20)] μ τ ∧ lnM τ (lq f n 0 n) ∧ f216 N 72 (hp μ, ds) = some (.inl none, (hp τ, ds)) := fun μ ds hm => m_lists (N := N) (cs := ds) (f := f) hn hN hm.1 (fun k hk => hm.2.2.2 k (by omega)) hg.l96
      have bad : y < 0 ∨ nI (lq f n 0 n).length ≤ y → ∀ (σ' μ : hp_S) (ds : Nat × Nat), MV μ n d f → f178 N 72 (nI s) (hp σ', ds) = some (.inl (some (.int 1)), (hp μ, ds)) → ∃ (τ : hp_S) (b : Int32), iv_kept μ τ ∧ τ.2.2.1 72 0 = 1 ∧ f218 N 72 (nI s) y (hp σ', ds) = some (.inl (some (.int b)), (hp τ, ds)) := by
        intro hy σ' μ ds hm hl
        obtain ⟨τ, q1, q2, q3⟩ := hml μ ds hm
        have hm2 := hm.kept q1 (by decide) (by decide) (by decide) (by decide)
        refine ⟨hp_wf τ 72 0 1, 0, (q1.kept rfl rfl).tr (iv_kept.wm (by omega)), hp_wf_at, ?_⟩
        have ef : g218_31 N 72 y 72 (hp τ, ds) = some (.inl (some (.int 0)), (hp (hp_wf τ 72 0 1), ds)) := by
          unfold g218_31 g218_32
          rw [o72, m_rf hm2.2.2.1 (by decide), lf_ci_r, if_neg (fun q => q rfl)]
        unfold f218
        rw [o72, hl, lf_ci_r, if_pos (by decide), o72, q3, lf_cv_r]
        by_cases h0 : y < 0
        · rw [if_pos h0]; exact ef
        · rw [if_neg h0, i72_20, q2.1, if_pos (hy.resolve_left h0)]; exact ef
      rcases pk_ix y (n := (lq f n 0 n).length) (by have := hg.l96; omega) with hy | hy | ⟨j, hj, rfl⟩
      · refine Or.inr ⟨"java/util/NoSuchElementException", 1, σ, iv_kept.rf σ, by decide, rfl, ?_, bad (Or.inl hy)⟩
        unfold f140
        rw [o0, c_held hs8 hne, lf_cr_r, sN_o hs8, c_ends_neg hs8 hn hn1 hN hv.1 hy, lf_ci_r, if_neg (fun q => q rfl)]
      · refine Or.inr ⟨"java/util/NoSuchElementException", 1, σ, iv_kept.rf σ, by decide, rfl, ?_, bad (Or.inr hy)⟩
        have hy0 : ¬ y < 0 := by
          intro q
          rw [fa_lt] at q
          rw [fa_le, nI_toInt (by have := hg.l96; omega)] at hy
          have : (0 : Int32).toInt = 0 := rfl
          omega
        obtain ⟨k, hk, rfl⟩ := nn_of hy0
        rw [q_le (by have := hg.l96; omega) hk] at hy
        unfold f140
        rw [o0, c_held hs8 hne, lf_cr_r, sN_o hs8, c_ends hs8 hn hN hv.1 hv.2.2 (fun a ha b hb => hg.bn ha hb) hk, lf_ci_r, List.getElem?_eq_none hy, if_neg (fun q => q rfl)]
      · obtain ⟨⟨a, b⟩, hab⟩ : ∃ q, (lq f n 0 n)[j]? = some q := ⟨_, List.getElem?_eq_getElem hj⟩
        obtain ⟨l1, l2, l3, l4, l5⟩ := lq_get hn hab
        refine Or.inl ⟨nI (32 * a + b), σ, iv_kept.rf σ, ?_, fun σ' μ ds hm hl => ?_⟩
        · unfold f140
          rw [o0, c_held hs8 hne, lf_cr_r, sN_o hs8, c_ends hs8 hn hN hv.1 hv.2.2 (fun a ha b hb => hg.bn ha hb) (by have := hg.l96; omega), lf_ci_r, hab]
          have : ¬ enc (some (a, b)) = -1 := by
            show ¬ nI (32 * a + b) = -1
            rw [q_ne1 (by omega)]
            exact id
          rw [if_pos this]
          rfl
        · obtain ⟨τ, q1, q2, q3⟩ := hml μ ds hm
          have hm2 := hm.kept q1 (by decide) (by decide) (by decide) (by decide)
          refine ⟨τ, q1.kept rfl rfl, q1.l (by decide), hm2.2.2.1, ?_⟩
          have := hg.l96
          unfold f218 g218_32
          rw [o72, hl, lf_ci_r, if_pos (by decide), o72, q3, lf_cv_r, if_neg (nI_pos (by omega)), i72_20, q2.1, if_neg (nI_ge hj (by omega)), o72, m_rt hm2.2.2.1 (by decide), lf_ci_r, if_pos (by decide), r72_21, a79 (by omega), r72_22, a80 (by omega), (q2.2 j a b hab).1, (q2.2 j a b hab).2, show (32 : Int32) = nI 32 from rfl, pk_mul, nI_add]
  obtain ⟨τ, ds, q1, q2, q3, q4⟩ := key
  refine ⟨τ, ds, q1, q2, q3, fun k23 => ?_⟩
  rw [← q4 (k23 (nI i + 6))]
  unfold g327_900 h299 f299
  simp only [iv_s1 hs hi, iv_s2 hs hi, Option.bind_some, if_pos hp_x]
  rfl
theorem case_distance {J : iv_J} {rd : iv_rd} {N : Nat} (hN : iv_N N) : iv_caseN J rd N g327_968 := by
  intro sc i σ cs hs hi hI
  have key : ∃ (τ : hp_S) (ds : Nat × Nat), iv J τ ∧ ds.1 ≤ cs.1 + 1 ∧ ds.2 ≤ cs.2 + 6 ∧ ∀ k : lf_W → lf_R, tl_I (tc_I [("java/util/NoSuchElementException", 1)] (f141 N 0 (sc.2 (i + 1)) (sc.2 (i + 2)) (sc.2 (i + 3)) (hp σ, cs))) (fun w => f224 N 72 (sc.2 (i + 1)) (sc.2 (i + 2)) (sc.2 (i + 3)) w) k = k (hp τ, ds) := by
    generalize sc.2 (i + 1) = x
    generalize sc.2 (i + 2) = y
    generalize sc.2 (i + 3) = z
    refine askI (x := x) hI hN rfl (fun h => ?_) (fun σ' ds w h => ?_) (fun s n d f hs8 hx hg hv => ?_)
    · unfold f141
      rw [o0, c_hw_no h]
      rfl
    · unfold f224
      rw [o72, h, lf_ci_r, if_pos rfl]
    · subst hx
      have hn1 := hg.1
      have hn := hg.2.1
      rcases two_or n hn y z with h | ⟨p, q, hp', hq, rfl, rfl⟩
      · refine Or.inr ⟨"java/util/NoSuchElementException", 1, σ, iv_kept.rf σ, by decide, rfl, ?_, fun σ' μ ds hm hl => ⟨hp_wf μ 72 0 1, 0, iv_kept.wm (by omega), hp_wf_at, ?_⟩⟩
        · unfold f141
          rw [o0, c_hw_out hs8 hn1 hn hv.1 h]
          rfl
        · unfold f224
          rw [o72, hl, lf_ci_r, if_neg (by decide), o72, m_has_out hn hm.1 hm.2.2.1 h, lf_ci_r, if_neg (fun q => q rfl)]
      · have hA : ∀ i, bt (lf_shl 1 (nI n) - 1) i = true → i < n := fun i q => (al_bt (by omega)).mp q
        refine Or.inl ⟨gdI f (lf_shl 1 (nI n) - 1) p q, σ, iv_kept.rf σ, ?_, fun σ' μ ds hm hl => ?_⟩
        · unfold f141
          rw [o0, c_hw_in hs8 hn hv.1 hp' hq, lf_cr_r, sN_r hs8, c_between (lay_row hs8) hv.2.2 hN (by omega) (by omega) (fun i q => by have := hA i q; omega) (fun j i hj q => (al_bt (by omega)).mpr (hg.2.2.2.2.1 j hj i q).2.1), lf_ci_r]
        · obtain ⟨τ, q1, q2, q3, q4⟩ := m_spreads (N := N) (cs := ds) (f := f) (A := lf_shl 1 (nI n) - 1) (v := p) hp' hn hN hA hm.1 hm.2.2.2
          have hm2 := hm.kept q1 (by decide) (by decide) (by decide) (by decide)
          refine ⟨τ, q1.kept rfl rfl, q1.l (by decide), hm2.2.2.1, ?_⟩
          unfold f224
          rw [o72, hl, lf_ci_r, if_neg (by decide), o72, m_has_in hn hm.1 hm.2.2.1 hp' hq, lf_ci_r, if_pos (by decide), o72, m_all hm.1, lf_ci_r, o72, q4, lf_cv_r, r72_23, ix_a, a81 (by omega), q2 q hq]
  obtain ⟨τ, ds, q1, q2, q3, q4⟩ := key
  refine ⟨τ, ds, q1, q2, q3, fun k23 => ?_⟩
  rw [← q4 (k23 (nI i + 6))]
  unfold g327_968 h300 f300
  simp only [iv_s1 hs hi, iv_s2 hs hi, iv_s3 hs hi, Option.bind_some, if_pos hp_x]
  rfl
