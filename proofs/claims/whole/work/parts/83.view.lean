/-! a net on both sides -/
def NV (σ : hp_S) (s n d : Nat) (f : Nat → Int32) : Prop := σ.2.2.1 (2 + 2 * s) 1 = nI n ∧ σ.2.2.1 (2 + 2 * s) 2 = nI d ∧ ∀ k, k < 24 → σ.1 (3 + 2 * s) k = f k
def GW (n d : Nat) (f : Nat → Int32) : Prop := 1 ≤ n ∧ n ≤ 24 ∧ 1 ≤ d ∧ d ≤ 8 ∧ gw f n ∧ ∀ a, a < 24 → i_pc (f a) ≤ d
def MV (σ : hp_S) (n d : Nat) (f : Nat → Int32) : Prop := σ.2.2.1 72 4 = nI n ∧ σ.2.2.1 72 5 = nI d ∧ σ.2.2.1 72 0 = 0 ∧ ∀ k, k < 24 → σ.1 76 k = f k
theorem GW.bn {n d : Nat} {f : Nat → Int32} (h : GW n d f) {a b : Nat} (ha : a < n) (hb : bt (f a) b = true) : b < n := (h.2.2.2.2.1 a (by have := h.2.1; omega) b hb).2.1
theorem GW.l96 {n d : Nat} {f : Nat → Int32} (h : GW n d f) : (lq f n 0 n).length ≤ 96 := lq_96 h.2.1 h.2.2.2.2.1 h.2.2.2.1 h.2.2.2.2.2
theorem GW.wf {n d : Nat} {f : Nat → Int32} (h : GW n d f) : iv_wf (nI n) (nI d) f := Or.inr ⟨n, d, h.1, h.2.1, rfl, h.2.2.1, h.2.2.2.1, rfl, h.2.2.2.2.1, h.2.2.2.2.2⟩
theorem iv_view {J : iv_J} {σ : hp_S} (hI : iv J σ) (x : Int32) : no_net σ x ∨ ∃ s n d, s < 8 ∧ x = nI s ∧ GW n d (σ.1 (3 + 2 * s)) ∧ NV σ s n d (σ.1 (3 + 2 * s)) ∧ ∀ σ', iv_kept σ σ' → MV (m_laid σ' s) n d (σ.1 (3 + 2 * s)) ∧ ∀ N ds, iv_N N → f178 N 72 (nI s) (hp σ', ds) = some (.inl (some (.int 1)), (hp (m_laid σ' s), ds)) := by
  rcases pk_ix x (n := 8) (by omega) with h | h | ⟨s, hs, rfl⟩
  · exact Or.inl (Or.inl h)
  · exact Or.inl (Or.inr (Or.inl h))
  · obtain ⟨h1, h2, h3, h4⟩ := hI.1 s hs
    rcases h4 with h4 | ⟨n, d, q1, q2, q3, q4, q5, q6, q7, q8⟩
    · exact Or.inl (Or.inr (Or.inr ⟨s, hs, rfl, h1.trans h4, h4⟩))
    · refine Or.inr ⟨s, n, d, hs, rfl, ⟨q1, q2, q4, q5, q7, q8⟩, ⟨h1.trans q3, h2.trans q6, fun _ _ => rfl⟩, fun σ' hk => ⟨⟨?_, ?_, m_laid_0, fun k h => ?_⟩, fun N ds hN => ?_⟩⟩
      · rw [m_laid_k, hk.1 73 (by omega)]; exact q3
      · rw [m_laid_d, hk.1 74 (by omega)]; exact q6
      · rw [m_laid_j h, hk.1 75 (by omega)]; exact (h3 k h).symm
      · exact m_lays hs (by rw [hk.1 73 (by omega), q3]; exact nI_pos1 q1 q2) hN
theorem MV.kept {σ τ : hp_S} {n d : Nat} {f : Nat → Int32} {A : List Nat} {F : List (Nat × Nat)} (h : MV σ n d f) (k : fr A F σ τ) (h1 : 76 ∉ A) (h2 : (72, 4) ∉ F) (h3 : (72, 5) ∉ F) (h4 : (72, 0) ∉ F) : MV τ n d f := ⟨by rw [k.f h2]; exact h.1, by rw [k.f h3]; exact h.2.1, by rw [k.f h4]; exact h.2.2.1, fun j hj => by rw [k.r h1]; exact h.2.2.2 j hj⟩

theorem n_askI {J : iv_J} {σ : hp_S} {cs : Nat × Nat} {rC : lf_R} {F : lf_W → lf_R} {c : List (String × Int32)} (hI : iv J σ)
    (H : (∃ (v : Int32) (σ1 : hp_S), iv_kept σ σ1 ∧ rC = some (.inl (some (.int v)), (hp σ1, cs)) ∧ ∀ σ', iv J σ' → iv_kept σ σ' → ∃ τ, iv_kept σ' τ ∧ τ.2.1 117 = σ'.2.1 117 ∧ τ.2.2.1 72 0 = 0 ∧ F (hp σ', cs) = some (.inl (some (.int v)), (hp τ, cs)))
      ∨ ∃ (E : String) (x : Int32) (σ1 : hp_S), iv_kept σ σ1 ∧ ¬ x = 0 ∧ c.find? (fun q => decide (q.1 = E)) = some (E, x) ∧ rC = lf_thr E (hp σ1, cs) ∧ ∀ σ' (ds : Nat × Nat), iv J σ' → iv_kept σ σ' → ∃ (τ : hp_S) (b : Int32), iv_kept σ' τ ∧ τ.2.2.1 72 0 = x ∧ F (hp σ', ds) = some (.inl (some (.int b)), (hp τ, ds))) :
    ∃ (τ : hp_S) (ds : Nat × Nat), iv J τ ∧ ds.1 ≤ cs.1 + 1 ∧ ds.2 ≤ cs.2 + 6 ∧ ∀ k : lf_W → lf_R, tl_I (tc_I c rC) F k = k (hp τ, ds) := by
  rcases H with ⟨v, σ1, h1, h2, h3⟩ | ⟨E, x, σ1, h1, h2, h3, h4, h5⟩
  · obtain ⟨τ, q1, q2, q3, q4⟩ := h3 (hp_wl σ1 117 0 v.toInt64) (hI.kept (h1.tr iv_kept.wl)) (h1.tr iv_kept.wl)
    refine ⟨τ, cs, hI.kept ((h1.tr iv_kept.wl).tr q1), Nat.le_add_right _ _, Nat.le_add_right _ _, fun k => ?_⟩
    exact tl_I_ok (tc_I_ret h2) q4 q3 (fun _ => by rw [q2, tl_wl_at])
  · obtain ⟨τ, b, q1, q2, q3⟩ := h5 σ1 (cs.1 + 1, cs.2 + 6) (hI.kept h1) h1
    refine ⟨τ, (cs.1 + 1, cs.2 + 6), hI.kept (h1.tr q1), Nat.le_refl _, Nat.le_refl _, fun k => ?_⟩
    exact tl_I_ok (tc_I_thr h4 h3) q3 q2 (fun h0 => absurd h0 h2)
/-- a net is asked -/
theorem askI {J : iv_J} {σ : hp_S} {cs : Nat × Nat} {N : Nat} {x : Int32} {C : lf_R} {F : lf_W → lf_R} {c : List (String × Int32)} (hI : iv J σ) (hN : iv_N N)
    (hc : c.find? (fun q => decide (q.1 = "java/util/NoSuchElementException")) = some ("java/util/NoSuchElementException", 1))
    (h0 : no_net σ x → C = lf_thr "java/util/NoSuchElementException" (hp σ, cs))
    (h0m : ∀ (σ' : hp_S) (ds : Nat × Nat) (w : lf_W), f178 N 72 x (hp σ', ds) = some (.inl (some (.int 0)), w) → F (hp σ', ds) = some (.inl (some (.int 0)), w))
    (h1 : ∀ (s n d : Nat) (f : Nat → Int32), s < 8 → x = nI s → GW n d f → NV σ s n d f →
      (∃ (v : Int32) (σ1 : hp_S), iv_kept σ σ1 ∧ C = some (.inl (some (.int v)), (hp σ1, cs)) ∧ ∀ (σ' μ : hp_S) (ds : Nat × Nat), MV μ n d f → f178 N 72 x (hp σ', ds) = some (.inl (some (.int 1)), (hp μ, ds)) → ∃ τ, iv_kept μ τ ∧ τ.2.1 117 = μ.2.1 117 ∧ τ.2.2.1 72 0 = 0 ∧ F (hp σ', ds) = some (.inl (some (.int v)), (hp τ, ds)))
      ∨ ∃ (E : String) (y : Int32) (σ1 : hp_S), iv_kept σ σ1 ∧ ¬ y = 0 ∧ c.find? (fun q => decide (q.1 = E)) = some (E, y) ∧ C = lf_thr E (hp σ1, cs) ∧ ∀ (σ' μ : hp_S) (ds : Nat × Nat), MV μ n d f → f178 N 72 x (hp σ', ds) = some (.inl (some (.int 1)), (hp μ, ds)) → ∃ (τ : hp_S) (b : Int32), iv_kept μ τ ∧ τ.2.2.1 72 0 = y ∧ F (hp σ', ds) = some (.inl (some (.int b)), (hp τ, ds))) :
    ∃ (τ : hp_S) (ds : Nat × Nat), iv J τ ∧ ds.1 ≤ cs.1 + 1 ∧ ds.2 ≤ cs.2 + 6 ∧ ∀ k : lf_W → lf_R, tl_I (tc_I c C) F k = k (hp τ, ds) := by
  refine n_askI hI ?_
  rcases iv_view hI x with h | ⟨s, n, d, hs, rfl, hg, hv, hm⟩
  · refine Or.inr ⟨"java/util/NoSuchElementException", 1, σ, iv_kept.rf σ, by decide, hc, h0 h, fun σ' ds hI' hk => ⟨_, _, iv_k0.tr iv_k0, hp_wf_at, h0m σ' ds _ (m_lays_no (h.kept hk))⟩⟩
  · rcases h1 s n d _ hs rfl hg hv with ⟨v, σ1, a1, a2, a3⟩ | ⟨E, y, σ1, a1, a2, a3, a4, a5⟩
    · refine Or.inl ⟨v, σ1, a1, a2, fun σ' hI' hk => ?_⟩
      obtain ⟨m1, m2⟩ := hm σ' hk
      obtain ⟨τ, b1, b2, b3, b4⟩ := a3 σ' _ cs m1 (m2 N cs hN)
      exact ⟨τ, m_laid_kept.tr b1, b2, b3, b4⟩
    · refine Or.inr ⟨E, y, σ1, a1, a2, a3, a4, fun σ' ds hI' hk => ?_⟩
      obtain ⟨m1, m2⟩ := hm σ' hk
      obtain ⟨τ, b, b1, b2, b3⟩ := a5 σ' _ ds m1 (m2 N ds hN)
      exact ⟨τ, b, m_laid_kept.tr b1, b2, b3⟩

theorem n_askL {J : iv_J} {σ : hp_S} {cs : Nat × Nat} {rC : lf_R} {F : lf_W → lf_R} {c : List (String × Int32)} (hI : iv J σ)
    (H : (∃ (v : Int64) (σ1 : hp_S), iv_kept σ σ1 ∧ rC = some (.inl (some (.long v)), (hp σ1, cs)) ∧ ∀ σ', iv J σ' → iv_kept σ σ' → ∃ τ, iv_kept σ' τ ∧ τ.2.1 117 = σ'.2.1 117 ∧ τ.2.2.1 72 0 = 0 ∧ F (hp σ', cs) = some (.inl (some (.long v)), (hp τ, cs)))
      ∨ ∃ (E : String) (x : Int32) (σ1 : hp_S), iv_kept σ σ1 ∧ ¬ x = 0 ∧ c.find? (fun q => decide (q.1 = E)) = some (E, x) ∧ rC = lf_thr E (hp σ1, cs) ∧ ∀ σ' (ds : Nat × Nat), iv J σ' → iv_kept σ σ' → ∃ (τ : hp_S) (b : Int64), iv_kept σ' τ ∧ τ.2.2.1 72 0 = x ∧ F (hp σ', ds) = some (.inl (some (.long b)), (hp τ, ds))) :
    ∃ (τ : hp_S) (ds : Nat × Nat), iv J τ ∧ ds.1 ≤ cs.1 + 1 ∧ ds.2 ≤ cs.2 + 6 ∧ ∀ k : lf_W → lf_R, tl_L (tc_L c rC) F k = k (hp τ, ds) := by
  rcases H with ⟨v, σ1, h1, h2, h3⟩ | ⟨E, x, σ1, h1, h2, h3, h4, h5⟩
  · obtain ⟨τ, q1, q2, q3, q4⟩ := h3 (hp_wl σ1 117 0 v) (hI.kept (h1.tr iv_kept.wl)) (h1.tr iv_kept.wl)
    refine ⟨τ, cs, hI.kept ((h1.tr iv_kept.wl).tr q1), Nat.le_add_right _ _, Nat.le_add_right _ _, fun k => ?_⟩
    exact tl_L_ok (tc_L_ret h2) q4 q3 (fun _ => by rw [q2, tl_wl_at])
  · obtain ⟨τ, b, q1, q2, q3⟩ := h5 σ1 (cs.1 + 1, cs.2 + 6) (hI.kept h1) h1
    refine ⟨τ, (cs.1 + 1, cs.2 + 6), hI.kept (h1.tr q1), Nat.le_refl _, Nat.le_refl _, fun k => ?_⟩
    exact tl_L_ok (tc_L_thr h4 h3) q3 q2 (fun h0 => absurd h0 h2)
/-- a net is asked -/
theorem askL {J : iv_J} {σ : hp_S} {cs : Nat × Nat} {N : Nat} {x : Int32} {C : lf_R} {F : lf_W → lf_R} {c : List (String × Int32)} (hI : iv J σ) (hN : iv_N N)
    (hc : c.find? (fun q => decide (q.1 = "java/util/NoSuchElementException")) = some ("java/util/NoSuchElementException", 1))
    (h0 : no_net σ x → C = lf_thr "java/util/NoSuchElementException" (hp σ, cs))
    (h0m : ∀ (σ' : hp_S) (ds : Nat × Nat) (w : lf_W), f178 N 72 x (hp σ', ds) = some (.inl (some (.int 0)), w) → F (hp σ', ds) = some (.inl (some (.long 0)), w))
    (h1 : ∀ (s n d : Nat) (f : Nat → Int32), s < 8 → x = nI s → GW n d f → NV σ s n d f →
      (∃ (v : Int64) (σ1 : hp_S), iv_kept σ σ1 ∧ C = some (.inl (some (.long v)), (hp σ1, cs)) ∧ ∀ (σ' μ : hp_S) (ds : Nat × Nat), MV μ n d f → f178 N 72 x (hp σ', ds) = some (.inl (some (.int 1)), (hp μ, ds)) → ∃ τ, iv_kept μ τ ∧ τ.2.1 117 = μ.2.1 117 ∧ τ.2.2.1 72 0 = 0 ∧ F (hp σ', ds) = some (.inl (some (.long v)), (hp τ, ds)))
      ∨ ∃ (E : String) (y : Int32) (σ1 : hp_S), iv_kept σ σ1 ∧ ¬ y = 0 ∧ c.find? (fun q => decide (q.1 = E)) = some (E, y) ∧ C = lf_thr E (hp σ1, cs) ∧ ∀ (σ' μ : hp_S) (ds : Nat × Nat), MV μ n d f → f178 N 72 x (hp σ', ds) = some (.inl (some (.int 1)), (hp μ, ds)) → ∃ (τ : hp_S) (b : Int64), iv_kept μ τ ∧ τ.2.2.1 72 0 = y ∧ F (hp σ', ds) = some (.inl (some (.long b)), (hp τ, ds))) :
    ∃ (τ : hp_S) (ds : Nat × Nat), iv J τ ∧ ds.1 ≤ cs.1 + 1 ∧ ds.2 ≤ cs.2 + 6 ∧ ∀ k : lf_W → lf_R, tl_L (tc_L c C) F k = k (hp τ, ds) := by
  refine n_askL hI ?_
  rcases iv_view hI x with h | ⟨s, n, d, hs, rfl, hg, hv, hm⟩
  · refine Or.inr ⟨"java/util/NoSuchElementException", 1, σ, iv_kept.rf σ, by decide, hc, h0 h, fun σ' ds hI' hk => ⟨_, _, iv_k0.tr iv_k0, hp_wf_at, h0m σ' ds _ (m_lays_no (h.kept hk))⟩⟩
  · rcases h1 s n d _ hs rfl hg hv with ⟨v, σ1, a1, a2, a3⟩ | ⟨E, y, σ1, a1, a2, a3, a4, a5⟩
    · refine Or.inl ⟨v, σ1, a1, a2, fun σ' hI' hk => ?_⟩
      obtain ⟨m1, m2⟩ := hm σ' hk
      obtain ⟨τ, b1, b2, b3, b4⟩ := a3 σ' _ cs m1 (m2 N cs hN)
      exact ⟨τ, m_laid_kept.tr b1, b2, b3, b4⟩
    · refine Or.inr ⟨E, y, σ1, a1, a2, a3, a4, fun σ' ds hI' hk => ?_⟩
      obtain ⟨m1, m2⟩ := hm σ' hk
      obtain ⟨τ, b, b1, b2, b3⟩ := a5 σ' _ ds m1 (m2 N ds hN)
      exact ⟨τ, b, m_laid_kept.tr b1, b2, b3⟩

theorem n_askZ {J : iv_J} {σ : hp_S} {cs : Nat × Nat} {rC : lf_R} {F : lf_W → lf_R} {c : List (String × Int32)} (hI : iv J σ)
    (H : (∃ (v : Int32) (σ1 : hp_S), iv_kept σ σ1 ∧ rC = some (.inl (some (.int v)), (hp σ1, cs)) ∧ ∀ σ', iv J σ' → iv_kept σ σ' → ∃ τ, iv_kept σ' τ ∧ τ.2.1 117 = σ'.2.1 117 ∧ τ.2.2.1 72 0 = 0 ∧ F (hp σ', cs) = some (.inl (some (.int v)), (hp τ, cs)))
      ∨ ∃ (E : String) (x : Int32) (σ1 : hp_S), iv_kept σ σ1 ∧ ¬ x = 0 ∧ c.find? (fun q => decide (q.1 = E)) = some (E, x) ∧ rC = lf_thr E (hp σ1, cs) ∧ ∀ σ' (ds : Nat × Nat), iv J σ' → iv_kept σ σ' → ∃ (τ : hp_S) (b : Int32), iv_kept σ' τ ∧ τ.2.2.1 72 0 = x ∧ F (hp σ', ds) = some (.inl (some (.int b)), (hp τ, ds))) :
    ∃ (τ : hp_S) (ds : Nat × Nat), iv J τ ∧ ds.1 ≤ cs.1 + 1 ∧ ds.2 ≤ cs.2 + 6 ∧ ∀ k : lf_W → lf_R, tl_Z (tc_Z c rC) F k = k (hp τ, ds) := by
  rcases H with ⟨v, σ1, h1, h2, h3⟩ | ⟨E, x, σ1, h1, h2, h3, h4, h5⟩
  · obtain ⟨τ, q1, q2, q3, q4⟩ := h3 (hp_wl σ1 117 0 (if v = 0 then 0 else 1)) (hI.kept (h1.tr iv_kept.wl)) (h1.tr iv_kept.wl)
    refine ⟨τ, cs, hI.kept ((h1.tr iv_kept.wl).tr q1), Nat.le_add_right _ _, Nat.le_add_right _ _, fun k => ?_⟩
    exact tl_Z_ok (tc_Z_ret h2) q4 q3 (fun _ => by rw [q2, tl_wl_at])
  · obtain ⟨τ, b, q1, q2, q3⟩ := h5 σ1 (cs.1 + 1, cs.2 + 6) (hI.kept h1) h1
    refine ⟨τ, (cs.1 + 1, cs.2 + 6), hI.kept (h1.tr q1), Nat.le_refl _, Nat.le_refl _, fun k => ?_⟩
    exact tl_Z_ok (tc_Z_thr h4 h3) q3 q2 (fun h0 => absurd h0 h2)
/-- a net is asked -/
theorem askZ {J : iv_J} {σ : hp_S} {cs : Nat × Nat} {N : Nat} {x : Int32} {C : lf_R} {F : lf_W → lf_R} {c : List (String × Int32)} (hI : iv J σ) (hN : iv_N N)
    (hc : c.find? (fun q => decide (q.1 = "java/util/NoSuchElementException")) = some ("java/util/NoSuchElementException", 1))
    (h0 : no_net σ x → C = lf_thr "java/util/NoSuchElementException" (hp σ, cs))
    (h0m : ∀ (σ' : hp_S) (ds : Nat × Nat) (w : lf_W), f178 N 72 x (hp σ', ds) = some (.inl (some (.int 0)), w) → F (hp σ', ds) = some (.inl (some (.int 0)), w))
    (h1 : ∀ (s n d : Nat) (f : Nat → Int32), s < 8 → x = nI s → GW n d f → NV σ s n d f →
      (∃ (v : Int32) (σ1 : hp_S), iv_kept σ σ1 ∧ C = some (.inl (some (.int v)), (hp σ1, cs)) ∧ ∀ (σ' μ : hp_S) (ds : Nat × Nat), MV μ n d f → f178 N 72 x (hp σ', ds) = some (.inl (some (.int 1)), (hp μ, ds)) → ∃ τ, iv_kept μ τ ∧ τ.2.1 117 = μ.2.1 117 ∧ τ.2.2.1 72 0 = 0 ∧ F (hp σ', ds) = some (.inl (some (.int v)), (hp τ, ds)))
      ∨ ∃ (E : String) (y : Int32) (σ1 : hp_S), iv_kept σ σ1 ∧ ¬ y = 0 ∧ c.find? (fun q => decide (q.1 = E)) = some (E, y) ∧ C = lf_thr E (hp σ1, cs) ∧ ∀ (σ' μ : hp_S) (ds : Nat × Nat), MV μ n d f → f178 N 72 x (hp σ', ds) = some (.inl (some (.int 1)), (hp μ, ds)) → ∃ (τ : hp_S) (b : Int32), iv_kept μ τ ∧ τ.2.2.1 72 0 = y ∧ F (hp σ', ds) = some (.inl (some (.int b)), (hp τ, ds))) :
    ∃ (τ : hp_S) (ds : Nat × Nat), iv J τ ∧ ds.1 ≤ cs.1 + 1 ∧ ds.2 ≤ cs.2 + 6 ∧ ∀ k : lf_W → lf_R, tl_Z (tc_Z c C) F k = k (hp τ, ds) := by
  refine n_askZ hI ?_
  rcases iv_view hI x with h | ⟨s, n, d, hs, rfl, hg, hv, hm⟩
  · refine Or.inr ⟨"java/util/NoSuchElementException", 1, σ, iv_kept.rf σ, by decide, hc, h0 h, fun σ' ds hI' hk => ⟨_, _, iv_k0.tr iv_k0, hp_wf_at, h0m σ' ds _ (m_lays_no (h.kept hk))⟩⟩
  · rcases h1 s n d _ hs rfl hg hv with ⟨v, σ1, a1, a2, a3⟩ | ⟨E, y, σ1, a1, a2, a3, a4, a5⟩
    · refine Or.inl ⟨v, σ1, a1, a2, fun σ' hI' hk => ?_⟩
      obtain ⟨m1, m2⟩ := hm σ' hk
      obtain ⟨τ, b1, b2, b3, b4⟩ := a3 σ' _ cs m1 (m2 N cs hN)
      exact ⟨τ, m_laid_kept.tr b1, b2, b3, b4⟩
    · refine Or.inr ⟨E, y, σ1, a1, a2, a3, a4, fun σ' ds hI' hk => ?_⟩
      obtain ⟨m1, m2⟩ := hm σ' hk
      obtain ⟨τ, b, b1, b2, b3⟩ := a5 σ' _ ds m1 (m2 N ds hN)
      exact ⟨τ, b, m_laid_kept.tr b1, b2, b3⟩

