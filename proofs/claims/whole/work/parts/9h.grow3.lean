/-! what has grown -/
section GQ
variable {cs : Nat × Nat} {N s n d : Nat} {f : Nat → Int32}
theorem GW_up (hg : GW n d f) (hn : n ≤ 23) {e : Nat} (h : d ≤ e) (he : e ≤ 8) : GW (n + 1) e f := ⟨by omega, by omega, by have := hg.2.2.1; omega, he, gw_up hg.2.2.2.2.1, fun a ha => by have := hg.2.2.2.2.2 a ha; omega⟩
theorem f_n0 (hg : GW n d f) (hn : n ≤ 23) : f n = 0 := b_nothing.mpr (fun i => by rw [no_n' hg hn i]; decide)
theorem pc_0 : i_pc 0 = 0 := by decide +kernel
/-- the conditions under which a line can be pulled -/
def cP (g : Nat → Int32) (a b n : Nat) : Prop := bt (g a) b = true ∧ bt (g b) a = true ∧ bt (g a) n = false ∧ bt (g b) n = false ∧ bt (g n) a = false ∧ bt (g n) b = false
theorem cP_f (hg : GW n d f) (hn : n ≤ 23) {i : Nat} (hi : i < (lq f n 0 n).length) : cP f (lp (lq f n 0 n) i).1 (lp (lq f n 0 n) i).2 n := by
  obtain ⟨⟨q1, q2, -⟩, l1, l2, l3, l4⟩ := ln_d3 hg hn hi
  exact ⟨l3, l4, no_n hg q1, no_n hg q2, no_n' hg hn _, no_n' hg hn _⟩
theorem apt_ne {a b c d : Nat} (h : apt (a, b) (c, d) = true) : a ≠ c ∧ a ≠ d ∧ b ≠ c ∧ b ≠ d := by
  unfold apt at h
  simp only [Bool.and_eq_true, decide_eq_true_iff, and_assoc] at h
  exact h
theorem cP_pl {g : Nat → Int32} {a b c e n : Nat} (h1 : d3 a b n) (h2 : d3 c e n) (hc : cP g c e n) (ha : apt (a, b) (c, e) = true) : cP (pl g a b n) c e n := by
  obtain ⟨p1, p2, p3, p4, p5, p6⟩ := h2
  obtain ⟨z1, z2, z3, z4⟩ := apt_ne ha
  obtain ⟨c1, c2, c3, c4, c5, c6⟩ := hc
  have h1' := h1
  obtain ⟨r1, r2, r3, r4, r5, r6⟩ := h1'
  have k : ∀ x y : Nat, y < 24 → ¬ ((x = a ∧ y = b) ∨ (x = b ∧ y = a)) → ¬ ((x = a ∧ y = n) ∨ (x = n ∧ y = a)) → ¬ ((x = b ∧ y = n) ∨ (x = n ∧ y = b)) → bt (pl g a b n x) y = bt (g x) y := fun x y hy k1 k2 k3 => by
    rw [pl_bt h1 hy, decide_eq_false k1, decide_eq_false k2, decide_eq_false k3, Bool.xor_false, Bool.xor_false, Bool.xor_false]
  refine ⟨?_, ?_, ?_, ?_, ?_, ?_⟩
  · rw [k _ _ p2 (by omega) (by omega) (by omega)]; exact c1
  · rw [k _ _ p1 (by omega) (by omega) (by omega)]; exact c2
  · rw [k _ _ p3 (by omega) (by omega) (by omega)]; exact c3
  · rw [k _ _ p3 (by omega) (by omega) (by omega)]; exact c4
  · rw [k _ _ p1 (by omega) (by omega) (by omega)]; exact c5
  · rw [k _ _ p2 (by omega) (by omega) (by omega)]; exact c6
theorem fG_gw {M i j : Nat} (hM : M = 1 ∨ M = 2) (hg : GW n d f) (hn : n ≤ 23) (hi : i < (lq f n 0 n).length) (hj : j < (lq f n 0 n).length) (hok : okG M (lq f n 0 n) i j = true) : gw (fG M f n (lq f n 0 n) i j) (n + 1) ∧ ∀ a, i_pc (fG M f n (lq f n 0 n) i j a) = i_pc (f a) + (if a = n then 2 * M else 0) := by
  obtain ⟨hd, l1, l2, -⟩ := ln_d3 hg hn hi
  have w1 := pl_gw (by omega) (gw_up hg.2.2.2.2.1) hd (by omega) (by omega) (by omega)
  obtain ⟨c1, c2, c3, c4, c5, c6⟩ := cP_f hg hn hi
  rcases hM with rfl | rfl
  · unfold fG
    rw [if_pos rfl]
    exact ⟨w1, fun a => pl_pc hd c1 c2 c3 c4 c5 c6 a⟩
  · unfold fG
    rw [if_neg (by decide)]
    obtain ⟨hd2, m1, m2, -⟩ := ln_d3 hg hn hj
    have hap : apt (lp (lq f n 0 n) i) (lp (lq f n 0 n) j) = true := by
      unfold okG at hok
      rwa [show decide (2 = 1) = false from rfl, Bool.false_or] at hok
    obtain ⟨e1, e2, e3, e4, e5, e6⟩ := cP_pl hd hd2 (cP_f hg hn hj) hap
    refine ⟨pl_gw (by omega) w1 hd2 (by omega) (by omega) (by omega), fun a => ?_⟩
    rw [pl_pc hd2 e1 e2 e3 e4 e5 e6 a, pl_pc hd c1 c2 c3 c4 c5 c6 a]
    by_cases c : a = n
    · rw [if_pos c, if_pos c]
    · rw [if_neg c, if_neg c]
theorem fG_GW {M i j : Nat} (hM : M = 1 ∨ M = 2) (hg : GW n d f) (hn : n ≤ 23) (hi : i < (lq f n 0 n).length) (hj : j < (lq f n 0 n).length) (hok : okG M (lq f n 0 n) i j = true) : GW (n + 1) (dM d M) (fG M f n (lq f n 0 n) i j) := by
  obtain ⟨w1, w2⟩ := fG_gw hM hg hn hi hj hok
  have hdd : d ≤ dM d M ∧ 2 * M ≤ dM d M ∧ dM d M ≤ 8 := by
    have := hg.2.2.2.1
    unfold dM
    split <;> omega
  refine ⟨by omega, by omega, by have := hg.2.2.1; omega, hdd.2.2, w1, fun a ha => ?_⟩
  rw [w2]
  by_cases c : a = n
  · rw [if_pos c, c, f_n0 hg hn, pc_0]
    omega
  · rw [if_neg c]
    have := hg.2.2.2.2.2 a ha
    omega
/-- addKnot -/
theorem c_add {M : Nat} {σ : hp_S} (hM : M = 1 ∨ M = 2) (hs : s < 8) (hg : GW n d f) (hn : n ≤ 23) (hN : iv_N N) (hv : NV σ s n d f) (hsw : σ.2.2.2 29 0 = σ.2.2.2 29 1) : qG M f n (lq f n 0 n) (gst M f n) ∧ ((gst M f n).2 = none → ∃ τ, fr [30, 31, 43] F29 σ τ ∧ τ.2.2.2 29 0 = τ.2.2.2 29 1 ∧ f11 N 42 (2 + 2 * s) (nI M) (hp σ, cs) = some (.inl (some (.int (-1))), (hp τ, cs))) ∧ ∀ i j, (gst M f n).2 = some (i, j) → ∃ τ, fr ((3 + 2 * s) :: [30, 31, 43]) ((2 + 2 * s, 1) :: (2 + 2 * s, 2) :: F29) σ τ ∧ τ.2.2.2 29 0 = τ.2.2.2 29 1 ∧ NV τ s (n + 1) (dM d M) (fG M f n (lq f n 0 n) i j) ∧ f11 N 42 (2 + 2 * s) (nI M) (hp σ, cs) = some (.inl (some (.int (nI (gst M f n).1))), (hp τ, cs)) := by
  obtain ⟨τ, q1, q2, q3⟩ := c_list (σ := σ) (cs := cs) (N := N) (f := f) (r := 43) (s := s) rfl (by omega) hs hg.2.1 hN (fun a ha b hb => hg.bn ha hb) hv.1 hv.2.2 hg.l96
  have hl := hg.l96
  have w1 : fr [43] [(42, 2), (42, 3), (42, 4)] σ (hp_wf (hp_wf (hp_wf τ 42 2 1000001) 42 3 (-1)) 42 4 (-1)) := (q1.wk (fun _ z => z) (fun _ z => absurd z List.not_mem_nil)).tr (((fr.wf (by decide)).tr (fr.wf (by decide))).tr (fr.wf (by decide)))
  obtain ⟨υ, v, p1, p2, p3, p4, p5⟩ := c_gI (cs := cs) (N := N) (M := M) hM hs hg hn hN (lq f n 0 n).length 0 N (1000001, none) (hp_wf (hp_wf (hp_wf τ 42 2 1000001) 42 3 (-1)) 42 4 (-1)) (by omega) (by unfold iv_N at hN; omega) (hv.fr w1 (by simp <;> omega) (by simp <;> omega) (by simp <;> omega)) (Or.inl ⟨rfl, rfl⟩) (by
    show τ.2.2.2 29 0 = τ.2.2.2 29 1
    rw [q1.g List.not_mem_nil, q1.g List.not_mem_nil]; exact hsw) ⟨by rw [hp_wf_ne (by decide), hp_wf_ne (by decide), hp_wf_at]; rfl, fun _ => by rw [hp_wf_ne (by decide), hp_wf_at], fun i j z => absurd z (by simp)⟩ (fun k a b z => q2 k a b z)
  have pre : f11 N 42 (2 + 2 * s) (nI M) (hp σ, cs) = g11_28 N (v + 1) 42 (2 + 2 * s) (nI M) (nI (lq f n 0 n).length) (nI (lq f n 0 n).length) (hp υ, cs) := by
    unfold f11
    rw [r42_1, sN_o hs, q3, lf_ci_r, w42_2, w42_3, w42_4, ← p5]
    rfl
  have w2 : fr [30, 31, 43] F29 σ υ := (w1.wk (fun _ z => by simp at z; simp [z]) (fun q h => by
    unfold F29
    simp only [List.mem_cons, List.not_mem_nil, or_false] at h ⊢
    rcases h with h | h | h <;> simp [h])).tr (p1.wk (fun _ z => by simp at z; rcases z with z | z <;> simp [z]) (fun _ z => z))
  have hv2 := hv.fr w2 (by simp; omega) (F29_s hs 1) (F29_s hs 2)
  refine ⟨p3, fun h => ⟨υ, w2, p2, ?_⟩, fun i j h => ?_⟩
  · rw [pre]
    unfold g11_28
    rw [if_pos (nI_le (Nat.le_refl _) (by omega)), i42_3, p4.2.1 h, if_neg (fun z => z rfl)]
  · rcases p3 with z | ⟨i', j', z1, z2, z3, z4, z5⟩
    · rw [show (gIx M f n (lq f n 0 n) (lq f n 0 n).length 0 (1000001, none)).2 = some (i, j) from h] at z
      cases z.1
    rw [show (gIx M f n (lq f n 0 n) (lq f n 0 n).length 0 (1000001, none)).2 = some (i, j) from h] at z1
    cases z1
    obtain ⟨k1, k2⟩ := p4.2.2 i j h
    obtain ⟨hd, l1, l2, -⟩ := ln_d3 hg hn z2
    obtain ⟨hd2, m1, m2, -⟩ := ln_d3 hg hn z3
    have hd' := hd
    obtain ⟨o1, o2, -⟩ := hd'
    have hd2' := hd2
    obtain ⟨s1, s2, -⟩ := hd2'
    have n1 : ¬ cod (lq f n 0 n) i = -1 := by unfold cod; rw [q_ne1 (by omega)]; exact id
    have n2 : ¬ cod (lq f n 0 n) j = -1 := by unfold cod; rw [q_ne1 (by omega)]; exact id
    have hd8 := hg.2.2.2.1
    have fin : ∀ ω : hp_S, fr ((3 + 2 * s) :: [30, 31, 43]) ((2 + 2 * s, 1) :: (2 + 2 * s, 2) :: F29) σ ω → ω.2.2.2 29 0 = ω.2.2.2 29 1 → ω.2.2.1 (2 + 2 * s) 1 = nI n → ω.2.2.1 (2 + 2 * s) 2 = nI d → ω.2.2.1 42 2 = nI (gst M f n).1 → (∀ k, k < 24 → ω.1 (3 + 2 * s) k = fG M f n (lq f n 0 n) i j k) → ∃ τ, fr ((3 + 2 * s) :: [30, 31, 43]) ((2 + 2 * s, 1) :: (2 + 2 * s, 2) :: F29) σ τ ∧ τ.2.2.2 29 0 = τ.2.2.2 29 1 ∧ NV τ s (n + 1) (dM d M) (fG M f n (lq f n 0 n) i j) ∧ g11_125 N 42 (2 + 2 * s) (nI M) (hp ω, cs) = some (.inl (some (.int (nI (gst M f n).1))), (hp τ, cs)) := by
      intro ω y1 y2 y3 y4 y5 y6
      refine ⟨hp_wf (hp_wf ω (2 + 2 * s) 1 (nI (n + 1))) (2 + 2 * s) 2 (nI (dM d M)), y1.tr ((fr.wf (by simp)).tr (fr.wf (by simp))), y2, ⟨?_, ?_, y6⟩, ?_⟩
      · rw [hp_wf_ne (by omega), hp_wf_at]
      · rw [hp_wf_at]
      · unfold g11_125
        rw [sN_1 hs, y3, nI_1, sN_w1 hs, sN_2 hs, hp_wf_ne (by omega), y4, show (2 : Int32) * nI M = nI (2 * M) by rcases hM with rfl | rfl <;> rfl, max_nI (by omega) (by rcases hM with rfl | rfl <;> omega), sN_w2 hs, i42_2, hp_wf_ne (by omega), hp_wf_ne (by omega), y5]
        rfl
    have a1 : fr ((3 + 2 * s) :: [30, 31, 43]) ((2 + 2 * s, 1) :: (2 + 2 * s, 2) :: F29) σ υ := w2.wk (fun _ z => List.mem_cons_of_mem _ z) (fun _ z => List.mem_cons_of_mem _ (List.mem_cons_of_mem _ z))
    rcases hM with rfl | rfl
    · obtain ⟨ω, b1, b2, b3, b4⟩ := fin (pl2 υ (3 + 2 * s) (lp (lq f n 0 n) i).1 (lp (lq f n 0 n) i).2 n) (a1.tr (pl2_fr List.mem_cons_self)) p2 hv2.1 hv2.2.1 p4.1 (fun k hk => by
        rw [pl2_at, pl_congr hd hv2.2.2 k hk]
        unfold fG
        rw [if_pos rfl])
      refine ⟨ω, b1, b2, b3, ?_⟩
      rw [pre]
      unfold g11_28
      rw [if_pos (nI_le (Nat.le_refl _) (by omega)), i42_3, k1, if_pos n1, i42_3, k1]
      unfold cod
      rw [c_pull hs hd hv2.1, lf_cv_r, i42_4]
      rw [show (pl2 υ (3 + 2 * s) (lp (lq f n 0 n) i).1 (lp (lq f n 0 n) i).2 n).2.2.1 42 4 = -1 from k2, if_pos rfl]
      exact b4
    · obtain ⟨ω, b1, b2, b3, b4⟩ := fin (pl2 (pl2 υ (3 + 2 * s) (lp (lq f n 0 n) i).1 (lp (lq f n 0 n) i).2 n) (3 + 2 * s) (lp (lq f n 0 n) j).1 (lp (lq f n 0 n) j).2 n) ((a1.tr (pl2_fr List.mem_cons_self)).tr (pl2_fr List.mem_cons_self)) p2 hv2.1 hv2.2.1 p4.1 (fun k hk => by
        rw [pl2_at]
        unfold fG
        rw [if_neg (by decide)]
        exact pl_congr hd2 (fun k hk => by rw [pl2_at]; exact pl_congr hd hv2.2.2 k hk) k hk)
      refine ⟨ω, b1, b2, b3, ?_⟩
      rw [pre]
      unfold g11_28
      rw [if_pos (nI_le (Nat.le_refl _) (by omega)), i42_3, k1, if_pos n1, i42_3, k1]
      conv => lhs; unfold cod
      rw [c_pull hs hd hv2.1, lf_cv_r, i42_4]
      rw [show (pl2 υ (3 + 2 * s) (lp (lq f n 0 n) i).1 (lp (lq f n 0 n) i).2 n).2.2.1 42 4 = cod (lq f n 0 n) j from k2, if_neg n2, i42_4]
      rw [show (pl2 υ (3 + 2 * s) (lp (lq f n 0 n) i).1 (lp (lq f n 0 n) i).2 n).2.2.1 42 4 = cod (lq f n 0 n) j from k2]
      unfold cod
      rw [c_pull (σ := pl2 υ (3 + 2 * s) (lp (lq f n 0 n) i).1 (lp (lq f n 0 n) i).2 n) hs hd2 hv2.1, lf_cv_r]
      exact b4
end GQ
