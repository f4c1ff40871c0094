/-! case lay -/
section LYZ
variable {cs : Nat × Nat} {N n s w : Nat} {f : Nat → Int32} {P : Nat → Nat} {σ τ : hp_S}
/-- what is laid -/
def laidY (f : Nat → Int32) (n w : Nat) (R : Nat → Nat) : Prop := prm n R ∧ (n ≤ 8 → lbY f n w R) ∧ (8 < n → R = clY f n w (lnY f n w (fun k => k) + 1) (fun k => k))
theorem laidY_one {R Q : Nat → Nat} (h1 : laidY f n w R) (h2 : laidY f n w Q) : ∀ k, k < n → R k = Q k := by
  by_cases c : n ≤ 8
  · exact lbY_one (h1.2.1 c) (h2.2.1 c)
  · intro k _
    rw [h1.2.2 (by omega), h2.2.2 (by omega)]
theorem c_i47 (hs : s < 8) (hn : n ≤ 24) : ∀ (m k u : Nat) (σ : hp_S), k + m = n → m < u → σ.2.2.1 (2 + 2 * s) 1 = nI n → (∀ j, j < k → σ.1 58 j = nI j) → ∃ τ, fr [58] [] σ τ ∧ KPy τ n (fun k => k) ∧ g22_47 N u 57 (2 + 2 * s) (nI k) (hp σ, cs) = g22_73 N N 57 (2 + 2 * s) 1 0 (hp τ, cs) := by
  intro m
  induction m with
  | zero =>
    intro k u σ hk hu e1 hd
    obtain ⟨u, rfl⟩ : ∃ q, u = q + 1 := ⟨u - 1, by omega⟩
    refine ⟨σ, fr.rf, fun j hj => hd j (by omega), ?_⟩
    unfold g22_47
    rw [sN_1 hs, e1, if_pos (nI_le (by omega) (by omega))]
  | succ m ih =>
    intro k u σ hk hu e1 hd
    obtain ⟨u, rfl⟩ : ∃ q, u = q + 1 := ⟨u - 1, by omega⟩
    obtain ⟨τ, q1, q2, q3⟩ := ih (k + 1) u (hp_wi σ 58 k (nI k)) (by omega) (by omega) e1 (fun j hj => by
      by_cases c : j = k
      · rw [c, hp_wi_at]
      · rw [hp_wi_nj c]; exact hd j (by omega))
    refine ⟨τ, (fr.wi (by decide)).tr q1, q2, ?_⟩
    unfold g22_47
    rw [sN_1 hs, e1, if_neg (nI_ge (by omega) (by omega)), r57_0, b58 (by omega), nI_1]
    exact q3
theorem c_lay {d : Nat} (hs : s < 8) (hg : GW n d f) (hN : iv_N N) (hw1 : 1 ≤ w) (hw : w ≤ 24) (hv : NV σ s n d f) : ∃ τ R, fr [58, 59, 60] [(57, 1), (57, 4)] σ τ ∧ τ.2.2.1 57 1 = nI n ∧ KPy τ n R ∧ laidY f n w R ∧ f22 N 57 (2 + 2 * s) (nI w) (hp σ, cs) = some (.inl (some (.int (nI (lnY f n w R)))), (hp τ, cs)) := by
  have hn := hg.2.1
  have hn1 := hg.1
  have hgw := hg.2.2.2.2.1
  obtain ⟨σ1, a1, a2, a3⟩ := c_gaps (N := N) (cs := cs) (n := n) (w := w) hn hw1 hw hN n 0 N σ (by omega) (by unfold iv_N at hN; omega) (fun p' q h => absurd h (Nat.not_lt_zero _))
  have wa : fr [58, 59, 60] [(57, 1), (57, 4)] σ (hp_wf σ1 57 1 (nI n)) := (a1.wk (fun _ z => by simp at z; simp [z]) (fun _ z => absurd z List.not_mem_nil)).tr (fr.wf (by decide))
  have e1 : (hp_wf σ1 57 1 (nI n)).2.2.1 (2 + 2 * s) 1 = nI n := by rw [wa.f (by simp; omega)]; exact hv.1
  have hr : ∀ j, j < 24 → (hp_wf σ1 57 1 (nI n)).1 (3 + 2 * s) j = f j := fun j hj => by rw [wa.r (by simp; omega)]; exact hv.2.2 j hj
  have pre : f22 N 57 (2 + 2 * s) (nI w) (hp σ, cs) = if 8 < nI n then g22_47 N N 57 (2 + 2 * s) 0 (hp (hp_wf σ1 57 1 (nI n)), cs) else (lf_cv (f24 N 57 (2 + 2 * s) 0 0 0 (hp (hp_wf (hp_wf σ1 57 1 (nI n)) 57 4 2000000), cs)) fun w18 => (lf_fi w18 57 2 4).bind fun v24 => some (.inl (some (.int v24)), w18)) := by
    unfold f22 f23
    rw [sN_1 hs, hv.1, o57]
    rw [show g23_2 N N 57 (nI n) (nI w) 0 (hp σ, cs) = _ from a3, lf_cv_r, sN_1 hs]
    rw [show σ1.2.2.1 (2 + 2 * s) 1 = nI n by rw [a1.f List.not_mem_nil]; exact hv.1, w57_1, sN_1 hs, e1]
    by_cases c : 8 < nI n
    · rw [if_pos c, if_pos c]
    · rw [if_neg c, if_neg c, w57_4, o57]
  by_cases c8 : n ≤ 8
  · obtain ⟨kp, hkp⟩ : ∃ kp : Nat → Nat, ∀ j, (hp_wf (hp_wf σ1 57 1 (nI n)) 57 4 2000000).1 58 j = nI (kp j) := Classical.axiomOfChoice (r := fun j k => (hp_wf (hp_wf σ1 57 1 (nI n)) 57 4 2000000).1 58 j = nI k) (fun j => by
      obtain ⟨k, -, e⟩ := wb_of32 ((hp_wf (hp_wf σ1 57 1 (nI n)) 57 4 2000000).1 58 j)
      exact ⟨k, e⟩)
    obtain ⟨τ, b', R, q1, q2, q3, q4, q5, q6⟩ := c_tryL (N := N) (cs := cs) (w := w) hs c8 hgw hN 40 0 (fun _ => 0) kp 0 2000000 (hp_wf (hp_wf σ1 57 1 (nI n)) 57 4 2000000) (Nat.zero_le _) (by omega) (fun k hk => absurd hk (Nat.not_lt_zero _)) (fun i j hi => absurd hi (Nat.not_lt_zero _)) (fun i => ⟨fun z => absurd z (by rw [b_0]; decide), fun ⟨k, hk, _⟩ => absurd hk (Nat.not_lt_zero _)⟩) (show 0 < 2000000 by omega) (Nat.le_refl _) (by rw [hp_wf_ne (by omega)]; exact e1) hr a2 (fun k hk => absurd hk (Nat.not_lt_zero _)) hp_wf_at (fun j _ => hkp j)
    have hR : b' = lnY f n w R ∧ lbY f n w R := by
      rcases q5 with ⟨z1, -, z3⟩ | ⟨z1, z2, -, z4, z5⟩
      · have h1 := z3 (fun k => k) prm_id (fun k hk => absurd hk (Nat.not_lt_zero _))
        have h2 := lnY_le (f := f) (w := w) hn (prm_id (n := n)).1
        omega
      · refine ⟨z4.symm, z2, fun Q hQ => ?_⟩
        rw [z4]
        exact z5 Q hQ (fun k hk => absurd hk (Nat.not_lt_zero _))
    refine ⟨τ, R, (wa.tr (fr.wf (by decide))).tr (q1.wk (fun _ z => by simp at z; rcases z with z | z <;> simp [z]) (fun _ z => by simp at z; simp [z])), ?_, q4, ⟨hR.2.1, fun _ => hR.2, fun z => by omega⟩, ?_⟩
    · rw [q1.f (by decide), hp_wf_ne (by decide), hp_wf_at]
    · rw [pre, if_neg (show ¬ (8 : Int32) < nI n from nI_nlt (a := 8) (by omega) (by omega))]
      unfold f24
      rw [show f24r N 40 57 (2 + 2 * s) 0 0 0 (hp (hp_wf (hp_wf σ1 57 1 (nI n)) 57 4 2000000), cs) = _ from q6, lf_cv_r, i57_4, q3, hR.1]
  · obtain ⟨σ2, b1, b2, b3⟩ := c_i47 (N := N) (cs := cs) hs hn n 0 N (hp_wf σ1 57 1 (nI n)) (by omega) (by unfold iv_N at hN; omega) e1 (fun j hj => absurd hj (Nat.not_lt_zero _))
    have hlid := lnY_le (f := f) (w := w) hn (prm_id (n := n)).1
    have hG2 : GPy σ2 n w := fun p q h1 h2 => by rw [b1.r (by decide)]; exact a2 p q h1 h2
    have e2 : σ2.2.2.1 (2 + 2 * s) 1 = nI n := by rw [b1.f List.not_mem_nil]; exact e1
    have hr2 : ∀ j, j < 24 → σ2.1 (3 + 2 * s) j = f j := fun j hj => by rw [b1.r (by simp; omega)]; exact hr j hj
    obtain ⟨τ, q1, q2, q3⟩ := c_climb (N := N) (cs := cs) (w := w) hs hn1 hn hgw hN (lnY f n w (fun k => k) + 1) 0 N (fun k => k) σ2 (by omega) (by unfold iv_N at hN; omega) (by omega) prm_id e2 hr2 hG2 b2
    have hp2 : prm n (clY f n w (lnY f n w (fun k => k) + 1) (fun k => k)) := clY_prm _ _ prm_id
    have hlen := c_len (N := N) (cs := cs) (σ := τ) (w := w) hs hn hgw hN hp2 (by rw [q1.f List.not_mem_nil]; exact e2) (fun j hj => by rw [q1.r (by simp; omega)]; exact hr2 j hj) (fun p q h1 h2 => by rw [q1.r (by decide)]; exact hG2 p q h1 h2) q2
    refine ⟨τ, _, (wa.tr (b1.wk (fun _ z => by simp at z; simp [z]) (fun _ z => absurd z List.not_mem_nil))).tr (q1.wk (fun _ z => by simp at z; simp [z]) (fun _ z => absurd z List.not_mem_nil)), ?_, q2, ⟨hp2, fun z => by omega, fun _ => rfl⟩, ?_⟩
    · rw [q1.f List.not_mem_nil, b1.f List.not_mem_nil, hp_wf_at]
    · rw [pre, if_pos (show (8 : Int32) < nI n from nI_lt (a := 8) (by omega) (by omega))]
      rw [show g22_47 N N 57 (2 + 2 * s) 0 (hp (hp_wf σ1 57 1 (nI n)), cs) = _ from b3]
      rw [show g22_73 N N 57 (2 + 2 * s) 1 0 (hp σ2, cs) = _ from q3]
      unfold g22_96
      rw [o57, hlen, lf_ci_r]
theorem m_i36 (hn : n ≤ 24) : ∀ (m k u : Nat) (σ : hp_S), k + m = n → m < u → σ.2.2.1 72 4 = nI n → (∀ j, j < k → σ.1 105 j = nI j) → ∃ τ, fr [105] [] σ τ ∧ PLy τ n (fun k => k) ∧ g265_36 N u 72 (nI k) (hp σ, cs) = if nI n ≤ 8 then (lf_ci (f266 N 72 (hp τ, cs)) fun v13 w7 => g265_77 N 72 v13 w7) else (lf_ci (f267 N 72 (hp τ, cs)) fun v20 w14 => g265_77 N 72 v20 w14) := by
  intro m
  induction m with
  | zero =>
    intro k u σ hk hu e1 hd
    obtain ⟨u, rfl⟩ : ∃ q, u = q + 1 := ⟨u - 1, by omega⟩
    refine ⟨σ, fr.rf, fun j hj => hd j (by omega), ?_⟩
    unfold g265_36
    rw [i72_4, e1, if_pos (nI_le (by omega) (by omega)), i72_4, e1, o72, o72]
  | succ m ih =>
    intro k u σ hk hu e1 hd
    obtain ⟨u, rfl⟩ : ∃ q, u = q + 1 := ⟨u - 1, by omega⟩
    obtain ⟨τ, q1, q2, q3⟩ := ih (k + 1) u (hp_wi σ 105 k (nI k)) (by omega) (by omega) e1 (fun j hj => by
      by_cases c : j = k
      · rw [c, hp_wi_at]
      · rw [hp_wi_nj c]; exact hd j (by omega))
    refine ⟨τ, (fr.wi (by decide)).tr q1, q2, ?_⟩
    unfold g265_36
    rw [i72_4, e1, if_neg (nI_ge (by omega) (by omega)), r72_63, b105 (by omega), nI_1]
    exact q3
theorem m_o89 {x3 : Int32} (hn : n ≤ 24) : ∀ (m k u : Nat) (σ : hp_S), k + m = n → m < u → σ.2.2.1 72 4 = nI n → PLy σ n P → (∀ j, j < k → σ.1 104 j = nI (P j)) → ∃ τ, fr [104] [] σ τ ∧ (∀ j, j < n → τ.1 104 j = nI (P j)) ∧ g265_89 N u 72 x3 (nI k) (hp σ, cs) = some (.inl (some (.int x3)), (hp τ, cs)) := by
  intro m
  induction m with
  | zero =>
    intro k u σ hk hu e1 h5 hd
    obtain ⟨u, rfl⟩ : ∃ q, u = q + 1 := ⟨u - 1, by omega⟩
    refine ⟨σ, fr.rf, fun j hj => hd j (by omega), ?_⟩
    unfold g265_89
    rw [i72_4, e1, if_pos (nI_le (by omega) (by omega))]
  | succ m ih =>
    intro k u σ hk hu e1 h5 hd
    obtain ⟨u, rfl⟩ : ∃ q, u = q + 1 := ⟨u - 1, by omega⟩
    obtain ⟨τ, q1, q2, q3⟩ := ih (k + 1) u (hp_wi σ 104 k (nI (P k))) (by omega) (by omega) e1 (fun j hj => by rw [hp_wi_ne (by decide)]; exact h5 j hj) (fun j hj => by
      by_cases c : j = k
      · rw [c, hp_wi_at]
      · rw [hp_wi_nj c]; exact hd j (by omega))
    refine ⟨τ, (fr.wi (by decide)).tr q1, q2, ?_⟩
    unfold g265_89
    rw [i72_4, e1, if_neg (nI_ge (by omega) (by omega)), r72_62, r72_63, a105 (by omega), h5 k (by omega), b104 (by omega), nI_1]
    exact q3
theorem m_lay {d : Nat} {μ σ' : hp_S} {x : Int32} (hg : GW n d f) (hN : iv_N N) (hw1 : 1 ≤ w) (hw : w ≤ 24) (hm : MV μ n d f) (hl : f178 N 72 x (hp σ', cs) = some (.inl (some (.int 1)), (hp μ, cs))) : ∃ τ R, fr [79, 80, 104, 105, 106] [(72, 20), (72, 60), (72, 61)] μ τ ∧ τ.2.2.1 72 60 = nI n ∧ (∀ j, j < n → τ.1 104 j = nI (R j)) ∧ laidY f n w R ∧ f265 N 72 x (nI w) (hp σ', cs) = some (.inl (some (.int (nI (lnY f n w R)))), (hp τ, cs)) := by
  have hn := hg.2.1
  have hlo : ¬ nI w < 1 := nI_nlt (a := w) (b := 1) (by omega) (by omega)
  have hhi : ¬ 24 < nI w := nI_nlt (b := w) (a := 24) (by omega) (by omega)
  obtain ⟨ψ, l1, l2, l3⟩ := m_lists (N := N) (cs := cs) (σ := μ) hn hN hm.1 (fun k hk => hm.2.2.2 k (by omega)) hg.l96
  have e4 : (hp_wf ψ 72 61 (nI w)).2.2.1 72 4 = nI n := by rw [hp_wf_ne (by decide), l1.f (by decide)]; exact hm.1
  obtain ⟨σ1, a1, a2, a3⟩ := m_i36 (N := N) (cs := cs) hn n 0 N (hp_wf ψ 72 61 (nI w)) (by omega) (by unfold iv_N at hN; omega) e4 (fun j hj => absurd hj (Nat.not_lt_zero _))
  have w1 : fr [79, 80, 104, 105, 106] [(72, 20), (72, 60), (72, 61)] μ σ1 := ((l1.wk (fun _ z => by simp at z; rcases z with z | z <;> simp [z]) (fun _ z => by simp at z; simp [z])).tr (fr.wf (by decide))).tr (a1.wk (fun _ z => by simp at z; simp [z]) (fun _ z => absurd z List.not_mem_nil))
  have hL : LZy σ1 n w f := by
    refine ⟨⟨?_, fun i p q e => ?_⟩, ?_, ?_⟩
    · rw [a1.f List.not_mem_nil, hp_wf_ne (by decide)]; exact l2.1
    · rw [a1.r (by decide), a1.r (by decide)]; exact l2.2 i p q e
    · rw [a1.f List.not_mem_nil, hp_wf_at]
    · rw [a1.f List.not_mem_nil]; exact e4
  have pre : f265 N 72 x (nI w) (hp σ', cs) = g265_36 N N 72 0 (hp (hp_wf ψ 72 61 (nI w)), cs) := by
    unfold f265
    rw [o72, hl, lf_ci_r, if_neg (by decide), m_within_in hlo hhi, lf_ci_r, o72, m_rt hm.2.2.1 (by decide), lf_ci_r, if_pos (by decide), o72, l3, lf_cv_r, w72_61]
  have fin : ∀ (σ2 : hp_S) (R : Nat → Nat), fr [105, 106] [] σ1 σ2 → PLy σ2 n R → laidY f n w R → ∃ τ, fr [79, 80, 104, 105, 106] [(72, 20), (72, 60), (72, 61)] μ τ ∧ τ.2.2.1 72 60 = nI n ∧ (∀ j, j < n → τ.1 104 j = nI (R j)) ∧ g265_77 N 72 (nI (lnY f n w R)) (hp σ2, cs) = some (.inl (some (.int (nI (lnY f n w R)))), (hp τ, cs)) := by
    intro σ2 R k1 k2 k3
    have e2 : σ2.2.2.1 72 4 = nI n := by rw [k1.f List.not_mem_nil]; exact hL.2.2
    obtain ⟨τ, q1, q2, q3⟩ := m_o89 (N := N) (cs := cs) (P := R) (x3 := nI (lnY f n w R)) hn n 0 N (hp_wf σ2 72 60 (nI n)) (by omega) (by unfold iv_N at hN; omega) (by rw [hp_wf_ne (by decide)]; exact e2) k2 (fun j hj => absurd hj (Nat.not_lt_zero _))
    refine ⟨τ, ((w1.tr (k1.wk (fun _ z => by simp at z; rcases z with z | z <;> simp [z]) (fun _ z => absurd z List.not_mem_nil))).tr (fr.wf (by decide))).tr (q1.wk (fun _ z => by simp at z; simp [z]) (fun _ z => absurd z List.not_mem_nil)), ?_, q2, ?_⟩
    · rw [q1.f List.not_mem_nil, hp_wf_at]
    · unfold g265_77
      rw [i72_4, e2, w72_60]
      exact q3
  by_cases c8 : n ≤ 8
  · obtain ⟨σ2, R, k1, k2, k3, k4⟩ := m_through (N := N) (cs := cs) hg c8 hN hw1 hw hL a2
    have hR : laidY f n w R := ⟨k3.1, fun _ => k3, fun z => by omega⟩
    obtain ⟨τ, q1, q2, q3, q4⟩ := fin σ2 R k1 k2 hR
    refine ⟨τ, R, q1, q2, q3, hR, ?_⟩
    rw [pre]
    rw [show g265_36 N N 72 0 (hp (hp_wf ψ 72 61 (nI w)), cs) = _ from a3, if_pos (show nI n ≤ 8 from nI_le (b := 8) c8 (by omega)), k4, lf_ci_r]
    exact q4
  · have hlid := lnY_le (f := f) (w := w) hn (prm_id (n := n)).1
    obtain ⟨σ2, k1, k2, k4⟩ := m_climb (N := N) (cs := cs) hg hN hw1 hw (lnY f n w (fun k => k) + 1) N (fun k => k) σ1 (by omega) (by unfold iv_N at hN; omega) prm_id hL a2
    have hR : laidY f n w (clY f n w (lnY f n w (fun k => k) + 1) (fun k => k)) := ⟨clY_prm _ _ prm_id, fun z => by omega, fun _ => rfl⟩
    obtain ⟨τ, q1, q2, q3, q4⟩ := fin σ2 _ (k1.wk (fun _ z => by simp at z; simp [z]) (fun _ z => z)) k2 hR
    have hlen := m_len (N := N) (cs := cs) (P := fun k => k) hg hN hw1 hw (fun k h => h) hL a2
    refine ⟨τ, _, q1, q2, q3, hR, ?_⟩
    rw [pre]
    rw [show g265_36 N N 72 0 (hp (hp_wf ψ 72 61 (nI w)), cs) = _ from a3, if_neg (show ¬ nI n ≤ 8 from nI_ge (a := 8) (b := n) (by omega) (by omega))]
    unfold f267
    rw [o72, hlen, lf_ci_r, k4, lf_ci_r]
    exact q4
end LYZ
theorem case_lay {J : iv_J} {rd : iv_rd} {N : Nat} (hN : iv_N N) : iv_caseN J rd N g327_2149 := by
  intro sc i σ cs hs hi hI
  have key : ∃ (τ : hp_S) (ds : Nat × Nat), iv J τ ∧ ds.1 ≤ cs.1 + 1 ∧ ds.2 ≤ cs.2 + 6 ∧ ∀ k : lf_W → lf_R, tl_I (tc_I [("java/util/NoSuchElementException", 1), ("java/lang/IllegalArgumentException", 2)] (f157 N 0 (sc.2 (i + 1)) (sc.2 (i + 2)) (hp σ, cs))) (fun w => f265 N 72 (sc.2 (i + 1)) (sc.2 (i + 2)) w) k = k (hp τ, ds) := by
    generalize sc.2 (i + 1) = x
    generalize sc.2 (i + 2) = y
    rcases iv_view hI x with h | ⟨s, n, d, hs8, rfl, hg, hv, hm⟩
    · refine n_askI hI (Or.inr ⟨"java/util/NoSuchElementException", 1, σ, iv_kept.rf σ, by decide, rfl, ?_, fun σ' ds hI' hk => ⟨hp_wf (hp_wf σ' 72 0 0) 72 0 1, 0, iv_k0.tr iv_k0, hp_wf_at, ?_⟩⟩)
      · unfold f157
        rw [o0, c_held_no h]
        rfl
      · show f265 N 72 x y (hp σ', ds) = _
        unfold f265
        rw [o72, m_lays_no (h.kept hk), lf_ci_r, if_pos rfl]
    · have hn1 := hg.1
      have hn := hg.2.1
      have hne : ¬ σ.2.2.1 (2 + 2 * s) 1 = 0 := by rw [hv.1]; exact nI_ne0 (by omega) (by omega)
      have hwid : (y < 1 ∨ (¬ y < 1 ∧ ¬ y ≤ 24 ∧ 24 < y)) ∨ ∃ w, 1 ≤ w ∧ w ≤ 24 ∧ y = nI w := by
        rcases pk_ix y (n := 25) (by omega) with z | z | ⟨w, hw, rfl⟩
        · refine Or.inl (Or.inl ?_)
          rw [fa_lt] at *
          have : (1 : Int32).toInt = 1 := rfl
          have : (0 : Int32).toInt = 0 := rfl
          omega
        · refine Or.inl (Or.inr ?_)
          rw [fa_le] at z
          have h1 : (1 : Int32).toInt = 1 := rfl
          have h2 : (24 : Int32).toInt = 24 := rfl
          have h3 : (nI 25).toInt = 25 := rfl
          refine ⟨fun q => ?_, fun q => ?_, ?_⟩
          · rw [fa_lt] at q; omega
          · rw [fa_le] at q; omega
          · rw [fa_lt]; omega
        · by_cases c : w = 0
          · subst c
            exact Or.inl (Or.inl (by decide))
          · exact Or.inr ⟨w, by omega, by omega, rfl⟩
      rcases hwid with hy | ⟨w, hw1, hw, rfl⟩
      · refine n_askI hI (Or.inr ⟨"java/lang/IllegalArgumentException", 2, σ, iv_kept.rf σ, by decide, rfl, ?_, fun σ' ds hI' hk' => ?_⟩)
        · unfold f157
          rw [o0, c_held hs8 hne, lf_cr_r]
          rcases hy with z | ⟨z1, z2, -⟩
          · rw [if_pos z]
          · rw [if_neg z1, if_neg z2]
        · obtain ⟨m1, m2⟩ := hm σ' hk'
          refine ⟨hp_wf (m_laid σ' s) 72 0 2, 0, m_laid_kept.tr (iv_kept.wm (by omega)), hp_wf_at, ?_⟩
          show f265 N 72 (nI s) y (hp σ', ds) = _
          have hwi : f176 N y 1 24 (hp (m_laid σ' s), ds) = some (.inl (some (.int 0)), (hp (m_laid σ' s), ds)) := by
            rcases hy with z | ⟨-, -, z⟩
            · exact m_within_lo z
            · exact m_within_hi z
          unfold f265
          rw [o72, m2 N ds hN, lf_ci_r, if_neg (by decide), hwi, lf_ci_r, o72, m_rf m1.2.2.1 (by decide), lf_ci_r, if_neg (fun q => q rfl)]
      · obtain ⟨τ, R, q1, q2, q3, q4, q5⟩ := c_lay (N := N) (cs := cs) (σ := σ) hs8 hg hN hw1 hw hv
        have hlo : ¬ nI w < 1 := nI_nlt (a := w) (b := 1) (by omega) (by omega)
        have hhi : nI w ≤ 24 := nI_le (b := 24) hw (by omega)
        have hcl : f157 N 0 (nI s) (nI w) (hp σ, cs) = some (.inl (some (.int (nI (lnY (σ.1 (3 + 2 * s)) n w R)))), (hp τ, cs)) := by
          unfold f157
          rw [o0, c_held hs8 hne, lf_cr_r, if_neg hlo, if_pos hhi, r0_10, o57, q5, lf_ci_r]
        generalize hv0 : nI (lnY (σ.1 (3 + 2 * s)) n w R) = v0 at hcl
        obtain ⟨n1, n2, n3, n4⟩ := hI.1 s hs8
        have w1 : fr [58, 59, 60, 117] [(57, 1), (57, 4)] σ (hp_wl τ 117 0 v0.toInt64) := (q1.wk (fun _ z => by simp at z; rcases z with z | z | z <;> simp [z]) (fun _ z => z)).tr (fr.wl (by decide))
        have e73 : (hp_wl τ 117 0 v0.toInt64).1 73 = σ.1 73 := w1.r (by decide)
        have e74 : (hp_wl τ 117 0 v0.toInt64).1 74 = σ.1 74 := w1.r (by decide)
        have e75 : (hp_wl τ 117 0 v0.toInt64).1 75 = σ.1 75 := w1.r (by decide)
        have k73 : σ.1 73 s = nI n := n1.symm.trans hv.1
        have hmv : MV (m_laid (hp_wl τ 117 0 v0.toInt64) s) n d (σ.1 (3 + 2 * s)) := ⟨by rw [m_laid_k, e73]; exact k73, by rw [m_laid_d, e74]; exact n2.symm.trans hv.2.1, m_laid_0, fun j hj => by rw [m_laid_j hj, e75]; exact (n3 j hj).symm⟩
        have hlay : f178 N 72 (nI s) (hp (hp_wl τ 117 0 v0.toInt64), cs) = some (.inl (some (.int 1)), (hp (m_laid (hp_wl τ 117 0 v0.toInt64) s), cs)) := m_lays hs8 (by rw [e73, k73]; exact nI_pos1 hn1 hn) hN
        obtain ⟨ψ, R', r1, r2, r3, r4, r5⟩ := m_lay (N := N) (cs := cs) (w := w) hg hN hw1 hw hmv hlay
        have hRR := laidY_one q4 r4
        have elen : nI (lnY (σ.1 (3 + 2 * s)) n w R') = v0 := by rw [← hv0, lnY_cg hRR]
        rw [elen] at r5
        have w2 : fr [76] [(72, 0), (72, 4), (72, 5)] (hp_wl τ 117 0 v0.toInt64) (m_laid (hp_wl τ 117 0 v0.toInt64) s) := (fr.wf (by decide)).tr ((fr.wf (by decide)).tr ((fr.wf (by decide)).tr (fr.fill (by decide))))
        have W : fr [58, 59, 60, 117, 76, 79, 80, 104, 105, 106] [(57, 1), (57, 4), (72, 0), (72, 4), (72, 5), (72, 20), (72, 60), (72, 61)] σ ψ := ((w1.wk (fun _ z => by simp at z; rcases z with z | z | z | z <;> simp [z]) (fun _ z => by simp at z; rcases z with z | z <;> simp [z])).tr (w2.wk (fun _ z => by simp at z; simp [z]) (fun _ z => by simp at z; rcases z with z | z | z <;> simp [z]))).tr (r1.wk (fun _ z => by simp at z; rcases z with z | z | z | z | z <;> simp [z]) (fun _ z => by simp at z; rcases z with z | z | z <;> simp [z]))
        have w58 : ψ.1 58 = τ.1 58 := by
          rw [r1.r (by decide), w2.r (by decide)]
          rfl
        have hlaid : iv_laid ψ := by
          refine ⟨n, hn, ?_, r2, fun j hj => ?_⟩
          · rw [r1.f (by decide), w2.f (by decide)]
            exact q2
          · rw [w58, q3 j hj, r3 j hj, hRR j hj]
        obtain ⟨h1, h2, h3, h4, h5, h6, h7, h8⟩ := hI
        refine ⟨ψ, cs, ⟨h1.fr (fun s hs => ⟨W.f (by simp <;> omega), W.f (by simp <;> omega), W.r (by simp <;> omega)⟩) (W.r (by decide)) (W.r (by decide)) (W.r (by decide)), h2.fr (W.f (by decide)) (W.f (by decide)) (W.r (by decide)) (W.r (by decide)), h3.fr (W.f (by decide)) (W.f (by decide)), h4.fr (fun k hk => W.f (by simp <;> omega)) (fun k k1 k2 => W.f (by simp <;> omega)), h5.fr (W.f (by decide)) (W.f (by decide)) (W.r (by decide)) (W.r (by decide)), hlaid, ?_, ⟨by rw [W.g (by decide), W.g (by decide)]; exact h8.1, by rw [W.g (by decide), W.g (by decide)]; exact h8.2.1, by rw [W.g (by decide), W.g (by decide)]; exact h8.2.2⟩⟩, Nat.le_add_right _ _, Nat.le_add_right _ _, fun kk => ?_⟩
        · rw [iv_cs.fr (fun a ha => W.r (by rcases ha with rfl | rfl | rfl | rfl | rfl | rfl | rfl | rfl | rfl <;> decide))]
          exact h7
        · refine tl_I_ok (tc_I_ret hcl) r5 (by rw [r1.f (by decide)]; exact m_laid_0) (fun _ => ?_)
          rw [r1.l (by decide), m_laid_l, tl_wl_at]
  obtain ⟨τ, ds, q1, q2, q3, q4⟩ := key
  refine ⟨τ, ds, q1, q2, q3, fun k23 => ?_⟩
  rw [← q4 (k23 (nI i + 6))]
  unfold g327_2149 h316 f316
  simp only [iv_s1 hs hi, iv_s2 hs hi, Option.bind_some, if_pos hp_x]
  rfl
