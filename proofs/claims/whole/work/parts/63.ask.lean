/-! calls that change nothing that is kept, and answer an int -/
def iv_N (N : Nat) : Prop := 1000000000 ≤ N
theorem iv_askI {J : iv_J} {σ : hp_S} {cs : Nat × Nat} {rC : Nat → lf_R} {F : Nat → lf_W → lf_R} {c : List (String × Int32)} (hI : iv J σ)
    (H : (∃ (v : Int32) (σ1 : hp_S), iv_kept σ σ1 ∧ (∀ N, iv_N N → rC N = some (.inl (some (.int v)), (hp σ1, cs))) ∧ ∀ σ', iv J σ' → iv_kept σ σ' → ∃ τ, iv_kept σ' τ ∧ τ.2.1 117 = σ'.2.1 117 ∧ τ.2.2.1 72 0 = 0 ∧ ∀ N, iv_N N → F N (hp σ', cs) = some (.inl (some (.int v)), (hp τ, cs)))
      ∨ ∃ (E : String) (x : Int32) (σ1 : hp_S), iv_kept σ σ1 ∧ ¬ x = 0 ∧ c.find? (fun q => decide (q.1 = E)) = some (E, x) ∧ (∀ N, iv_N N → rC N = lf_thr E (hp σ1, cs)) ∧ ∀ σ' (ds : Nat × Nat), iv J σ' → iv_kept σ σ' → ∃ (τ : hp_S) (b : Int32), iv_kept σ' τ ∧ τ.2.2.1 72 0 = x ∧ ∀ N, iv_N N → F N (hp σ', ds) = some (.inl (some (.int b)), (hp τ, ds))) :
    ∃ (τ : hp_S) (ds : Nat × Nat), iv J τ ∧ ds.1 ≤ cs.1 + 1 ∧ ds.2 ≤ cs.2 + 6 ∧ ∀ N, iv_N N → ∀ k : lf_W → lf_R, tl_I (tc_I c (rC N)) (F N) k = k (hp τ, ds) := by
  rcases H with ⟨v, σ1, h1, h2, h3⟩ | ⟨E, x, σ1, h1, h2, h3, h4, h5⟩
  · obtain ⟨τ, q1, q2, q3, q4⟩ := h3 (hp_wl σ1 117 0 v.toInt64) (hI.kept (h1.tr iv_kept.wl)) (h1.tr iv_kept.wl)
    refine ⟨τ, cs, hI.kept ((h1.tr iv_kept.wl).tr q1), Nat.le_add_right _ _, Nat.le_add_right _ _, fun N hN k => ?_⟩
    exact tl_I_ok (tc_I_ret (h2 N hN)) (q4 N hN) q3 (fun _ => by rw [q2, tl_wl_at])
  · obtain ⟨τ, b, q1, q2, q3⟩ := h5 σ1 (cs.1 + 1, cs.2 + 6) (hI.kept h1) h1
    refine ⟨τ, (cs.1 + 1, cs.2 + 6), hI.kept (h1.tr q1), Nat.le_refl _, Nat.le_refl _, fun N hN k => ?_⟩
    exact tl_I_ok (tc_I_thr (h4 N hN) h3) (q3 N hN) q2 (fun h0 => absurd h0 h2)
section MR
variable {σ : hp_S} {cs : Nat × Nat} {N : Nat} {a1 a2 : Int32}
/-- the model's right -/
theorem m_rt (h0 : σ.2.2.1 72 0 = 0) (h1 : ¬ a1 = 0) : f175 N 72 a1 a2 (hp σ, cs) = some (.inl (some (.int 1)), (hp σ, cs)) := by
  unfold f175 g175_16
  rw [hp_fi (a := 72) (k := 0) rfl rfl, Option.bind_some, h0, if_neg (fun q => q rfl), if_pos h1, Option.bind_some, if_neg (fun q => q rfl)]
theorem m_rf (h0 : σ.2.2.1 72 0 = 0) (h2 : ¬ a2 = 0) : f175 N 72 0 a2 (hp σ, cs) = some (.inl (some (.int 0)), (hp (hp_wf σ 72 0 a2), cs)) := by
  unfold f175 g175_16
  rw [hp_fi (a := 72) (k := 0) rfl rfl, Option.bind_some, h0, if_neg (fun q => q rfl), if_neg (fun q => q rfl), hp_swf (a := 72) (k := 0) rfl rfl rfl, Option.bind_some, hp_fi (a := 72) (k := 0) rfl rfl, Option.bind_some, hp_wf_at, if_pos h2]
theorem m_w0 {x : Int32} : lf_wf (hp σ, cs) 72 12 0 0 (.int x) = some (hp (hp_wf σ 72 0 x), cs) := hp_swf (a := 72) (k := 0) rfl rfl rfl
end MR
theorem iv_k0 {σ : hp_S} {x : Int32} : iv_kept σ (hp_wf σ 72 0 x) := iv_kept.wm (by omega)
/-- case 25: fallen -/
theorem case_fallen {J : iv_J} {rd : iv_rd} : iv_case J rd g327_2037 := by
  intro sc i σ cs hs hi hI
  have key : ∃ (τ : hp_S) (ds : Nat × Nat), iv J τ ∧ ds.1 ≤ cs.1 + 1 ∧ ds.2 ≤ cs.2 + 6 ∧ ∀ N, iv_N N → ∀ k : lf_W → lf_R, tl_I (tc_I [("java/util/NoSuchElementException", 1)] (f155 N 0 (sc.2 (i + 1)) (hp σ, cs))) (fun w => f259 N 72 (sc.2 (i + 1)) w) k = k (hp τ, ds) := by
    refine iv_askI hI ?_
    generalize sc.2 (i + 1) = x
    obtain ⟨m, hm, e1, e2, e3⟩ := hI.2.2.2.2.1
    rcases pk_ix x (n := m) (by omega) with h | h | ⟨j, hj, rfl⟩
    · refine Or.inr ⟨"java/util/NoSuchElementException", 1, σ, iv_kept.rf σ, by decide, rfl, fun N _ => ?_, fun σ' ds hI' hk => ⟨hp_wf (hp_wf σ' 72 0 0) 72 0 1, 0, iv_k0.tr iv_k0, hp_wf_at, fun N _ => ?_⟩⟩
      · unfold f155
        rw [if_pos h]
      · unfold f259 g259_22 g259_23
        rw [m_w0, Option.bind_some, if_pos h, if_pos hp_m, m_rf hp_wf_at (by decide), lf_ci_r, if_pos rfl]
    · have h9 : ¬ x < 0 := by
        rw [fa_lt]
        rw [fa_le, nI_toInt (by omega)] at h
        show ¬ x.toInt < 0
        omega
      refine Or.inr ⟨"java/util/NoSuchElementException", 1, σ, iv_kept.rf σ, by decide, rfl, fun N _ => ?_, fun σ' ds hI' hk => ⟨hp_wf (hp_wf σ' 72 0 0) 72 0 1, 0, iv_k0.tr iv_k0, hp_wf_at, fun N _ => ?_⟩⟩
      · unfold f155
        rw [if_neg h9, hp_fr (a := 0) (b := 53) rfl rfl, Option.bind_some, hp_fi (a := 53) rfl rfl, Option.bind_some, e1, if_pos h]
      · unfold f259 g259_22 g259_23
        rw [m_w0, Option.bind_some, if_neg h9, hp_fi (a := 72) (k := 58) rfl rfl, Option.bind_some, hp_wf_ne (by decide), hk.2.2.2.2.2.2.2.1 58 (by omega), e2, if_pos h, if_pos hp_m, m_rf hp_wf_at (by decide), lf_ci_r, if_pos rfl]
    · refine Or.inl ⟨σ.1 56 j, σ, iv_kept.rf σ, fun N _ => ?_, fun σ' hI' hk => ⟨hp_wf σ' 72 0 0, iv_k0, rfl, hp_wf_at, fun N _ => ?_⟩⟩
      · unfold f155
        rw [if_neg (nI_pos (by omega)), hp_fr (a := 0) (b := 53) rfl rfl, Option.bind_some, hp_fi (a := 53) rfl rfl, Option.bind_some, e1, if_neg (nI_ge hj (by omega)), if_pos (show nI j < 2 from nI_lt (b := 2) (by omega) (by omega)), Option.bind_some, hp_fr (a := 53) (b := 56) rfl rfl, Option.bind_some, hp_ri (a := 56) (n := 2) rfl (pm_in_iff.mpr (vp_in_nI (by omega) (by omega))), Option.bind_some, nI_clamp (by omega)]
      · unfold f259 g259_22 g259_23
        rw [m_w0, Option.bind_some, if_neg (nI_pos (by omega)), hp_fi (a := 72) (k := 58) rfl rfl, Option.bind_some, hp_wf_ne (by decide), hk.2.2.2.2.2.2.2.1 58 (by omega), e2, if_neg (nI_ge hj (by omega)), if_pos hp_m, m_rt hp_wf_at (by decide), lf_ci_r, if_neg (by decide), hp_fr (a := 72) (b := 103) rfl rfl, Option.bind_some, hp_ri (a := 103) (n := 2) rfl (pm_in_iff.mpr (vp_in_nI (by omega) (by omega))), Option.bind_some, nI_clamp (by omega)]
        show some (Sum.inl (some (Value.int (σ'.1 103 j))), _) = _
        rw [hk.1 103 (by omega), ← e3 j hj]
  obtain ⟨τ, ds, q1, q2, q3, q4⟩ := key
  refine ⟨τ, ds, q1, q2, q3, fun N hN k23 => ?_⟩
  rw [← q4 N hN (k23 (nI i + 6))]
  unfold g327_2037 h314 f314
  simp only [iv_s1 hs hi, Option.bind_some, if_pos hp_x]
  rfl
