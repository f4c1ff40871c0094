section CN
variable {σ : hp_S} {cs : Nat × Nat} {N s : Nat} {x n dg : Int32}
theorem m_within_lo {v lo hi : Int32} (h : v < lo) : f176 N v lo hi (hp σ, cs) = some (.inl (some (.int 0)), (hp σ, cs)) := by
  unfold f176
  rw [if_pos h]
theorem m_within_hi {v lo hi : Int32} (h : hi < v) : f176 N v lo hi (hp σ, cs) = some (.inl (some (.int 0)), (hp σ, cs)) := by
  unfold f176
  by_cases h1 : v < lo
  · rw [if_pos h1]
  · rw [if_neg h1, if_pos h]
theorem m_within_in {v lo hi : Int32} (h1 : ¬ v < lo) (h2 : ¬ hi < v) : f176 N v lo hi (hp σ, cs) = some (.inl (some (.int 1)), (hp σ, cs)) := by
  unfold f176
  rw [if_neg h1, if_neg h2]
/-- what net refuses -/
def net_no (x n dg : Int32) : Prop := x < 0 ∨ nI 8 ≤ x ∨ n < 1 ∨ 24 < n ∨ dg < 1 ∨ 8 < dg
theorem net_or (x n dg : Int32) : net_no x n dg ∨ ∃ s m e, s < 8 ∧ x = nI s ∧ 1 ≤ m ∧ m ≤ 24 ∧ n = nI m ∧ 1 ≤ e ∧ e ≤ 8 ∧ dg = nI e := by
  by_cases h : net_no x n dg
  · exact Or.inl h
  · unfold net_no at h
    simp only [not_or] at h
    obtain ⟨h1, h2, h3, h4, h5, h6⟩ := h
    rcases pk_ix x (n := 8) (by omega) with q | q | ⟨s, hs, rfl⟩
    · exact absurd q h1
    · exact absurd q h2
    · rcases pk_ix n (n := 25) (by omega) with q | q | ⟨m, hm, rfl⟩
      · exact absurd (show n < 1 by rw [fa_lt] at q ⊢; have : (1 : Int32).toInt = 1 := rfl; have : (0 : Int32).toInt = 0 := rfl; omega) h3
      · exact absurd (show 24 < n by rw [fa_le, nI_toInt (by omega)] at q; rw [fa_lt]; have : (24 : Int32).toInt = 24 := rfl; omega) h4
      · rcases pk_ix dg (n := 9) (by omega) with q | q | ⟨e, he, rfl⟩
        · exact absurd (show dg < 1 by rw [fa_lt] at q ⊢; have : (1 : Int32).toInt = 1 := rfl; have : (0 : Int32).toInt = 0 := rfl; omega) h5
        · exact absurd (show 8 < dg by rw [fa_le, nI_toInt (by omega)] at q; rw [fa_lt]; have : (8 : Int32).toInt = 8 := rfl; omega) h6
        · refine Or.inr ⟨s, m, e, hs, rfl, ?_, by omega, rfl, ?_, by omega, rfl⟩
          · rcases Nat.eq_zero_or_pos m with rfl | q
            · exact absurd (by decide) h3
            · exact q
          · rcases Nat.eq_zero_or_pos e with rfl | q
            · exact absurd (by decide) h5
            · exact q
theorem c_net_no (h : net_no x n dg) : f130 N 0 x n dg (hp σ, cs) = some (.inl (some (.int 0)), (hp σ, cs)) := by
  unfold f130
  rcases pk_ix x (n := 8) (by omega) with q | q | ⟨s, hs, rfl⟩
  · rw [c_isS_lo q, lf_ci_r, if_pos rfl]
  · rw [c_isS_hi q, lf_ci_r, if_pos rfl]
  · rw [c_isS_in hs, lf_ci_r, if_neg (by decide)]
    by_cases h3 : n < 1
    · rw [if_pos h3]
    rw [if_neg h3]
    by_cases h4 : 24 < n
    · rw [if_pos h4]
    rw [if_neg h4]
    by_cases h5 : dg < 1
    · rw [if_pos h5]
    rw [if_neg h5]
    have h6 : ¬ dg ≤ 8 := by
      rcases h with h | h | h | h | h | h
      · exact absurd h (nI_pos (by omega))
      · exact absurd h (nI_ge hs (by omega))
      · exact absurd h h3
      · exact absurd h h4
      · exact absurd h h5
      · rw [fa_lt] at h
        rw [fa_le]
        omega
    rw [if_neg h6]
theorem m_net_no (h : net_no x n dg) : f186 N 72 x n dg (hp σ, cs) = some (.inl (some (.int 0)), (hp (hp_wf σ 72 0 0), cs)) := by
  unfold f186
  rw [m_w0, Option.bind_some]
  rcases pk_ix x (n := 8) (by omega) with q | q | ⟨s, hs, rfl⟩
  · rw [m_isS_lo q, lf_ci_r, if_pos rfl]
  · rw [m_isS_hi q, lf_ci_r, if_pos rfl]
  · rw [m_isS_in hs, lf_ci_r, if_neg (by decide)]
    by_cases h3 : n < 1
    · rw [m_within_lo h3, lf_ci_r, if_pos rfl]
    by_cases h4 : 24 < n
    · rw [m_within_hi h4, lf_ci_r, if_pos rfl]
    rw [m_within_in h3 h4, lf_ci_r, if_neg (by decide)]
    by_cases h5 : dg < 1
    · rw [m_within_lo h5, lf_ci_r, if_neg (fun q => q rfl)]
    have h6 : 8 < dg := by
      rcases h with h | h | h | h | h | h
      · exact absurd h (nI_pos (by omega))
      · exact absurd h (nI_ge hs (by omega))
      · exact absurd h h3
      · exact absurd h h4
      · exact absurd h h5
      · exact h
    rw [m_within_hi h6, lf_ci_r, if_neg (fun q => q rfl)]
theorem nI_nlt1 {m : Nat} (h : 1 ≤ m) (h2 : m < 2 ^ 31) : ¬ nI m < 1 := nI_nlt (b := 1) h h2
theorem c_net_ok {m e : Nat} (hs : s < 8) (h1 : 1 ≤ m) (h2 : m ≤ 24) (h3 : 1 ≤ e) (h4 : e ≤ 8) (hN : iv_N N) : f130 N 0 (nI s) (nI m) (nI e) (hp σ, cs) = some (.inl (some (.int 1)), (hp (c_bg σ s (nI m) (nI e)), cs)) := by
  unfold f130
  rw [c_isS_in hs, lf_ci_r, if_neg (by decide), if_neg (nI_nlt1 h1 (by omega)), if_neg (show ¬ (24 : Int32) < nI m from nI_nlt (a := 24) h2 (by omega)), if_neg (nI_nlt1 h3 (by omega)), if_pos (show nI e ≤ 8 from nI_le (b := 8) h4 (by omega)), c_slots, Option.bind_some, c_slot hs, Option.bind_some, if_pos (c_is hs), c_begin hs hN, lf_cv_r]
theorem m_net_ok {m e : Nat} (hs : s < 8) (h1 : 1 ≤ m) (h2 : m ≤ 24) (h3 : 1 ≤ e) (h4 : e ≤ 8) (hN : iv_N N) : f186 N 72 (nI s) (nI m) (nI e) (hp σ, cs) = some (.inl (some (.int 1)), (hp (m_kp (m_cl (hp_wf σ 72 0 0) (nI m) (nI e)) s), cs)) := by
  unfold f186
  rw [m_w0, Option.bind_some, m_isS_in hs, lf_ci_r, if_neg (by decide), m_within_in (nI_nlt1 h1 (by omega)) (show ¬ (24 : Int32) < nI m from nI_nlt (a := 24) h2 (by omega)), lf_ci_r, if_neg (by decide), m_within_in (nI_nlt1 h3 (by omega)) (show ¬ (8 : Int32) < nI e from nI_nlt (a := 8) h4 (by omega)), lf_ci_r, if_pos (by decide), if_pos hp_m, m_clears hN, lf_cv_r, if_pos hp_m, m_keeps hs hN, lf_cv_r]
end CN
/-- case 0: net -/
theorem case_net {J : iv_J} {rd : iv_rd} : iv_case J rd g327_208 := by
  intro sc i σ cs hs hi hI
  have key : ∃ (τ : hp_S), iv J τ ∧ ∃ (v : Int32) (σ1 : hp_S), ∀ N, iv_N N → f130 N 0 (sc.2 (i + 1)) (sc.2 (i + 2)) (sc.2 (i + 3)) (hp σ, cs) = some (.inl (some (.int v)), (hp σ1, cs)) ∧ f186 N 72 (sc.2 (i + 1)) (sc.2 (i + 2)) (sc.2 (i + 3)) (hp σ1, cs) = some (.inl (some (.int v)), (hp τ, cs)) := by
    generalize sc.2 (i + 1) = x
    generalize sc.2 (i + 2) = n
    generalize sc.2 (i + 3) = dg
    rcases net_or x n dg with h | ⟨s, m, e, hs, rfl, h1, h2, rfl, h3, h4, rfl⟩
    · exact ⟨hp_wf σ 72 0 0, hI.kept iv_k0, 0, σ, fun N hN => ⟨c_net_no h, m_net_no h⟩⟩
    · refine ⟨m_kp (m_cl (hp_wf (c_bg σ s (nI m) (nI e)) 72 0 0) (nI m) (nI e)) s, ?_, 1, c_bg σ s (nI m) (nI e), fun N hN => ⟨c_net_ok hs h1 h2 h3 h4 hN, m_net_ok hs h1 h2 h3 h4 hN⟩⟩
      have ef : ∀ b k, ¬ (b = 2 + 2 * s ∧ (k = 1 ∨ k = 2)) → ¬ (b = 72 ∧ (k = 0 ∨ k = 4 ∨ k = 5)) → (m_kp (m_cl (hp_wf (c_bg σ s (nI m) (nI e)) 72 0 0) (nI m) (nI e)) s).2.2.1 b k = σ.2.2.1 b k := by
        intro b k q1 q2
        show (hp_wf (hp_wf (hp_wf (c_bg σ s (nI m) (nI e)) 72 0 0) 72 4 (nI m)) 72 5 (nI e)).2.2.1 b k = _
        rw [hp_wf_ne (by omega), hp_wf_ne (by omega), hp_wf_ne (by omega)]
        show (hp_wf (hp_wf σ (2 + 2 * s) 1 (nI m)) (2 + 2 * s) 2 (nI e)).2.2.1 b k = _
        rw [hp_wf_ne (by omega), hp_wf_ne (by omega)]
      have ec : ∀ k, (k = 1 ∨ k = 2) → (m_kp (m_cl (hp_wf (c_bg σ s (nI m) (nI e)) 72 0 0) (nI m) (nI e)) s).2.2.1 (2 + 2 * s) k = (hp_wf (hp_wf σ (2 + 2 * s) 1 (nI m)) (2 + 2 * s) 2 (nI e)).2.2.1 (2 + 2 * s) k := by
        intro k q
        show (hp_wf (hp_wf (hp_wf (c_bg σ s (nI m) (nI e)) 72 0 0) 72 4 (nI m)) 72 5 (nI e)).2.2.1 (2 + 2 * s) k = _
        rw [hp_wf_ne (by omega), hp_wf_ne (by omega), hp_wf_ne (by omega)]
        rfl
      have ei : ∀ a, a ≠ 73 → a ≠ 74 → a ≠ 75 → a ≠ 76 → a ≠ 3 + 2 * s → (m_kp (m_cl (hp_wf (c_bg σ s (nI m) (nI e)) 72 0 0) (nI m) (nI e)) s).1 a = σ.1 a := by
        intro a q1 q2 q3 q4 q5
        rw [m_kp_ne ⟨q1, q2, q3⟩]
        unfold m_cl
        rw [hp_fill_ne q4]
        show (c_bg σ s (nI m) (nI e)).1 a = _
        unfold c_bg
        rw [hp_fill_ne q5]
        rfl
      have em : ∀ a j, (a = 73 ∨ a = 74 ∨ a = 75) → (m_cl (hp_wf (c_bg σ s (nI m) (nI e)) 72 0 0) (nI m) (nI e)).1 a j = σ.1 a j := by
        intro a j q
        unfold m_cl
        rw [hp_fill_ne (by omega)]
        show (c_bg σ s (nI m) (nI e)).1 a j = _
        unfold c_bg
        rw [hp_fill_ne (by omega)]
        rfl
      refine hI.put (s := s) (n := nI m) (dg := nI e) (f := fun _ => 0) ⟨fun a q => ei a (by omega) (by omega) (by omega) (by omega) (by omega), ef _ _ (by omega) (by omega), ef _ _ (by omega) (by omega), fun k q => ef _ _ (by omega) (by omega), ef _ _ (by omega) (by omega), ef _ _ (by omega) (by omega), fun k q => ef _ _ (by omega) (by omega), id⟩ hs (fun t ht q => ?_) ?_ ?_ (fun k hk => ?_) ?_ ?_ (fun k hk => ?_) ?_
      · obtain ⟨u1, u2, u3⟩ := m_kp_no (σ := m_cl (hp_wf (c_bg σ s (nI m) (nI e)) 72 0 0) (nI m) (nI e)) q
        refine ⟨ef _ _ (by omega) (by omega), ef _ _ (by omega) (by omega), ei _ (by omega) (by omega) (by omega) (by omega) (by omega), ?_, ?_, fun k hk => ?_⟩
        · rw [u1, em _ _ (by omega)]
        · rw [u2, em _ _ (by omega)]
        · rw [u3 k hk, em _ _ (by omega)]
      · rw [ec 1 (by omega), hp_wf_ne (by omega), hp_wf_at]
      · rw [ec 2 (by omega), hp_wf_at]
      · rw [m_kp_ne (by omega)]
        unfold m_cl
        rw [hp_fill_ne (by omega)]
        exact hp_fill_at (σ := hp_wf (hp_wf σ (2 + 2 * s) 1 (nI m)) (2 + 2 * s) 2 (nI e)) (a := 3 + 2 * s) (g := fun _ => 0) hk
      · rw [m_kp_n]
        show (hp_wf (hp_wf (hp_wf (c_bg σ s (nI m) (nI e)) 72 0 0) 72 4 (nI m)) 72 5 (nI e)).2.2.1 72 4 = _
        rw [hp_wf_ne (by decide), hp_wf_at]
      · rw [m_kp_d]
        show (hp_wf (hp_wf (hp_wf (c_bg σ s (nI m) (nI e)) 72 0 0) 72 4 (nI m)) 72 5 (nI e)).2.2.1 72 5 = _
        rw [hp_wf_at]
      · rw [m_kp_j hk]
        exact hp_fill_at hk
      · exact Or.inr ⟨m, e, h1, h2, rfl, h3, h4, rfl, fun a _ b hb => (by rw [b_0] at hb; cases hb), fun a _ => (by show i_pc 0 ≤ e; rw [i_pc_0]; omega)⟩
  obtain ⟨τ, q1, v, σ1, q2⟩ := key
  refine ⟨τ, cs, q1, Nat.le_add_right _ _, Nat.le_add_right _ _, fun N hN k23 => ?_⟩
  obtain ⟨q3, q4⟩ := q2 N hN
  unfold g327_208
  simp only [iv_s1 hs hi, iv_s2 hs hi, iv_s3 hs hi, Option.bind_some]
  rw [if_pos hp_x, q3, lf_ci_r, if_pos hp_m, q4, lf_ci_r, if_pos rfl]
  rfl
