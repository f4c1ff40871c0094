/-! the model's rounds over the lines -/
section GL
variable {cs : Nat × Nat} {N n d : Nat} {f : Nat → Int32}
theorem nI2_1 : ¬ nI 2 = 1 := by decide
theorem m_gJ {i : Nat} {x1 : Int32} {k81 : Nat → Int32 → Int32 → Int32 → Int32 → Int32 → Int32 → lf_W → lf_R} (hg : GW n d f) (hn : n ≤ 23) (hN : iv_N N) (hi : i < (lq f n 0 n).length) : ∀ (m j u : Nat) (q : gq) (x3 x4 x5 : Int32) (σ : hp_S), j + m = (lq f n 0 n).length → m < u → MW σ n d f → (∀ k, k < 24 → σ.1 76 k = f k) → qG 2 f n (lq f n 0 n) q → MGq q x3 x4 x5 → ∃ (τ : hp_S) (y3 y4 y5 : Int32), fr [76, 81] [(72, 24), (72, 25)] σ τ ∧ (∀ k, k < 24 → τ.1 76 k = f k) ∧ qG 2 f n (lq f n 0 n) (gJx 2 f n (lq f n 0 n) i m j q) ∧ MGq (gJx 2 f n (lq f n 0 n) i m j q) y3 y4 y5 ∧ g288_106 N k81 u 72 x1 (nI 2) x3 x4 x5 (nI i) (nI j) (hp σ, cs) = k81 72 x1 (nI 2) y3 y4 y5 (nI (i + 1)) (hp τ, cs) := by
  have h96 := hg.l96
  intro m
  induction m with
  | zero =>
    intro j u q x3 x4 x5 σ hj hu hm ef hq hx
    obtain ⟨u, rfl⟩ : ∃ q, u = q + 1 := ⟨u - 1, by omega⟩
    refine ⟨σ, x3, x4, x5, fr.rf, ef, hq, hx, ?_⟩
    unfold g288_106 g288_124
    rw [if_pos nI2_1, i72_20, hm.2.2.2.1, if_pos (nI_le (by omega) (by omega)), nI_1]
  | succ m ih =>
    intro j u q x3 x4 x5 σ hj hu hm ef hq hx
    obtain ⟨u, rfl⟩ : ∃ q, u = q + 1 := ⟨u - 1, by omega⟩
    have hjl : j < (lq f n 0 n).length := by omega
    obtain ⟨⟨p1, p2, -⟩, -⟩ := ln_d3 hg hn hi
    obtain ⟨⟨r1, r2, -⟩, -⟩ := ln_d3 hg hn hjl
    have ha := m_apt (σ := σ) (cs := cs) (N := N) h96 hi hjl hm.2.2.2 ⟨p1, p2⟩ ⟨r1, r2⟩
    have hq2 := tG_ok (j := j) hq hi hjl
    by_cases c : apt (lp (lq f n 0 n) i) (lp (lq f n 0 n) j) = true
    · have hok : okG 2 (lq f n 0 n) i j = true := by unfold okG; rw [c]; rfl
      obtain ⟨τ, a3, a4, a5, t1, t2, t3, t4⟩ := m_gS (cs := cs) (N := N) (x1 := x1) (k81 := k81) (k106 := g288_106 N k81 u) (Or.inr rfl) hg hn hN hi hjl hok hm ef hq hx
      obtain ⟨υ, b3, b4, b5, v1, v2, v3, v4, v5⟩ := ih (j + 1) u _ a3 a4 a5 τ (by omega) (by omega) (hm.fr t1 (by decide) (by decide) (by decide) (by decide) (by decide) (by decide)) t2 hq2 t3
      refine ⟨υ, b3, b4, b5, t1.tr v1, v2, v3, v4, ?_⟩
      rw [← v5, ← t4]
      conv => lhs; unfold g288_106 g288_124
      rw [if_pos nI2_1, i72_20, hm.2.2.2.1, if_neg (nI_ge (by omega) (by omega)), if_neg (fun z => z rfl), o72, ha, if_pos c, lf_ci_r, if_pos (by decide)]
    · have hok : ¬ okG 2 (lq f n 0 n) i j = true := fun z => c (okG_2 z)
      have e1 : tG 2 f n (lq f n 0 n) i j q = q := by unfold tG; rw [if_neg hok]
      obtain ⟨υ, b3, b4, b5, v1, v2, v3, v4, v5⟩ := ih (j + 1) u q x3 x4 x5 σ (by omega) (by omega) hm ef hq hx
      refine ⟨υ, b3, b4, b5, v1, v2, ?_, ?_, ?_⟩
      · unfold gJx; rw [e1]; exact v3
      · unfold gJx; rw [e1]; exact v4
      rw [← v5]
      conv => lhs; unfold g288_106 g288_124
      rw [if_pos nI2_1, i72_20, hm.2.2.2.1, if_neg (nI_ge (by omega) (by omega)), if_neg (fun z => z rfl), o72, ha, if_neg c, lf_ci_r, if_neg (fun z => z rfl)]
      unfold g288_215
      rw [nI_1]
theorem m_g1 {i : Nat} {x1 x3 x4 x5 : Int32} {k81 : Nat → Int32 → Int32 → Int32 → Int32 → Int32 → Int32 → lf_W → lf_R} {q : gq} {σ : hp_S} (hg : GW n d f) (hn : n ≤ 23) (hN : iv_N N) (hi : i < (lq f n 0 n).length) {u : Nat} (hm : MW σ n d f) (ef : ∀ k, k < 24 → σ.1 76 k = f k) (hq : qG 1 f n (lq f n 0 n) q) (hx : MGq q x3 x4 x5) : ∃ (τ : hp_S) (y3 y4 y5 : Int32), fr [76, 81] [(72, 24), (72, 25)] σ τ ∧ (∀ k, k < 24 → τ.1 76 k = f k) ∧ MGq (tG 1 f n (lq f n 0 n) i i q) y3 y4 y5 ∧ g288_106 N k81 (u + 2) 72 x1 (nI 1) x3 x4 x5 (nI i) (nI i) (hp σ, cs) = k81 72 x1 (nI 1) y3 y4 y5 (nI (i + 1)) (hp τ, cs) := by
  have h96 := hg.l96
  obtain ⟨τ, a3, a4, a5, t1, t2, t3, t4⟩ := m_gS (cs := cs) (N := N) (x1 := x1) (k81 := k81) (k106 := g288_106 N k81 (u + 1)) (Or.inl rfl) hg hn hN hi hi (by unfold okG; rfl) hm ef hq hx
  refine ⟨τ, a3, a4, a5, t1, t2, t3, ?_⟩
  rw [g288_106, if_neg (fun z => z rfl)]
  unfold g288_124
  rw [nI_1, if_neg (nI_ge (by omega) (by omega)), if_pos nI1_2, t4, g288_106, if_neg (fun z => z rfl)]
  unfold g288_124
  rw [nI_1, if_pos (nI_le (by omega) (by omega))]
theorem m_gI {M : Nat} {x1 : Int32} (hM : M = 1 ∨ M = 2) (hg : GW n d f) (hn : n ≤ 23) (hN : iv_N N) : ∀ (m i u : Nat) (q : gq) (x3 x4 x5 : Int32) (σ : hp_S), i + m = (lq f n 0 n).length → m < u → MW σ n d f → (∀ k, k < 24 → σ.1 76 k = f k) → qG M f n (lq f n 0 n) q → MGq q x3 x4 x5 → ∃ (τ : hp_S) (y3 y4 y5 : Int32) (v : Nat), fr [76, 81] [(72, 24), (72, 25)] σ τ ∧ (∀ k, k < 24 → τ.1 76 k = f k) ∧ qG M f n (lq f n 0 n) (gIx M f n (lq f n 0 n) m i q) ∧ MGq (gIx M f n (lq f n 0 n) m i q) y3 y4 y5 ∧ g288_81 N u 72 x1 (nI M) x3 x4 x5 (nI i) (hp σ, cs) = g288_81 N (v + 1) 72 x1 (nI M) y3 y4 y5 (nI (lq f n 0 n).length) (hp τ, cs) := by
  have h96 := hg.l96
  intro m
  induction m with
  | zero =>
    intro i u q x3 x4 x5 σ hi hu hm ef hq hx
    obtain ⟨u, rfl⟩ : ∃ q, u = q + 1 := ⟨u - 1, by omega⟩
    refine ⟨σ, x3, x4, x5, u, fr.rf, ef, hq, hx, ?_⟩
    rw [show i = (lq f n 0 n).length by omega]
  | succ m ih =>
    intro i u q x3 x4 x5 σ hi hu hm ef hq hx
    obtain ⟨u, rfl⟩ : ∃ q, u = q + 1 := ⟨u - 1, by omega⟩
    have hil : i < (lq f n 0 n).length := by omega
    rcases hM with rfl | rfl
    · obtain ⟨N', hN'⟩ : ∃ q, N = q + 2 := ⟨N - 2, by unfold iv_N at hN; omega⟩
      obtain ⟨τ, a3, a4, a5, t1, t2, t3, t4⟩ := m_g1 (cs := cs) (N := N) (u := N') (x1 := x1) (k81 := g288_81 N u) hg hn hN hil hm ef hq hx
      obtain ⟨υ, b3, b4, b5, v, v1, v2, v3, v4, v5⟩ := ih (i + 1) u _ a3 a4 a5 τ (by omega) (by omega) (hm.fr t1 (by decide) (by decide) (by decide) (by decide) (by decide) (by decide)) t2 (tG_ok (j := i) hq hil hil) t3
      refine ⟨υ, b3, b4, b5, v, t1.tr v1, v2, v3, v4, ?_⟩
      rw [← v5, ← t4]
      conv => lhs; unfold g288_81
      rw [i72_20, hm.2.2.2.1, if_neg (nI_ge (by omega) (by omega)), if_neg (fun z => z rfl)]
      unfold g288_104
      rw [← hN']
    · obtain ⟨τ, a3, a4, a5, t1, t2, t3, t4, t5⟩ := m_gJ (cs := cs) (N := N) (x1 := x1) (k81 := g288_81 N u) hg hn hN hil ((lq f n 0 n).length - (i + 1)) (i + 1) N q x3 x4 x5 σ (by omega) (by unfold iv_N at hN; omega) hm ef hq hx
      obtain ⟨υ, b3, b4, b5, v, v1, v2, v3, v4, v5⟩ := ih (i + 1) u _ a3 a4 a5 τ (by omega) (by omega) (hm.fr t1 (by decide) (by decide) (by decide) (by decide) (by decide) (by decide)) t2 t3 t4
      refine ⟨υ, b3, b4, b5, v, t1.tr v1, v2, v3, v4, ?_⟩
      rw [← v5, ← t5]
      conv => lhs; unfold g288_81
      rw [i72_20, hm.2.2.2.1, if_neg (nI_ge (by omega) (by omega)), if_pos nI2_1, nI_1]
      rfl
/-- what the model has grown -/
theorem m_add {M : Nat} {x1 : Int32} {σ : hp_S} (hM : M = 1 ∨ M = 2) (hg : GW n d f) (hn : n ≤ 23) (hN : iv_N N) (hm : MW σ n d f) (ef : ∀ k, k < 24 → σ.1 76 k = f k) : ((gst M f n).2 = none → ∃ τ, fr [76, 81] [(72, 24), (72, 25)] σ τ ∧ τ.2.2.1 72 0 = 0 ∧ g288_81 N N 72 x1 (nI M) (-1) (-1) (-1) 0 (hp σ, cs) = some (.inl (some (.int (-1))), (hp τ, cs))) ∧ ∀ i j, (gst M f n).2 = some (i, j) → ∃ τ, fr [76, 81] [(72, 5), (72, 24), (72, 25)] σ τ ∧ MV τ (n + 1) (dM d M) (fG M f n (lq f n 0 n) i j) ∧ g288_81 N N 72 x1 (nI M) (-1) (-1) (-1) 0 (hp σ, cs) = lf_cv (f179 N 72 x1 (hp τ, cs)) fun w3 => some (.inl (some (.int (nI (gst M f n).1))), w3) := by
  have h96 := hg.l96
  obtain ⟨τ, y3, y4, y5, v, t1, t2, t3, t4, t5⟩ := m_gI (cs := cs) (N := N) (x1 := x1) hM hg hn hN (lq f n 0 n).length 0 N (1000001, none) (-1) (-1) (-1) σ (by omega) (by unfold iv_N at hN; omega) hm ef (Or.inl ⟨rfl, rfl⟩) (Or.inl ⟨rfl, rfl⟩)
  have hm2 := hm.fr t1 (by decide) (by decide) (by decide) (by decide) (by decide) (by decide)
  have pre : g288_81 N N 72 x1 (nI M) (-1) (-1) (-1) 0 (hp σ, cs) = g288_81 N (v + 1) 72 x1 (nI M) y3 y4 y5 (nI (lq f n 0 n).length) (hp τ, cs) := t5
  rw [pre]
  constructor
  · intro h
    refine ⟨τ, t1, hm2.2.2.1, ?_⟩
    have hy : y3 = -1 := by
      rcases t4 with z | ⟨_, _, z, _⟩
      · exact z.2
      · rw [show (gIx M f n (lq f n 0 n) (lq f n 0 n).length 0 (1000001, none)).2 = none from h] at z; cases z
    unfold g288_81
    rw [i72_20, hm2.2.2.2.1, if_pos (nI_le (Nat.le_refl _) (by omega)), if_neg (fun z => z hy)]
  · intro i j h
    have hqle := t3.le
    rcases t3 with z | ⟨i', j', z1, z2, z3, z4, z5⟩
    · rw [show (gIx M f n (lq f n 0 n) (lq f n 0 n).length 0 (1000001, none)).2 = some (i, j) from h] at z
      cases z.1
    rw [show (gIx M f n (lq f n 0 n) (lq f n 0 n).length 0 (1000001, none)).2 = some (i, j) from h] at z1
    cases z1
    have hy : y3 = nI (gst M f n).1 ∧ y4 = nI i ∧ y5 = nI j := by
      rcases t4 with z | ⟨_, _, z, r1, r2, r3⟩
      · rw [show (gIx M f n (lq f n 0 n) (lq f n 0 n).length 0 (1000001, none)).2 = some (i, j) from h] at z; cases z.1
      · rw [show (gIx M f n (lq f n 0 n) (lq f n 0 n).length 0 (1000001, none)).2 = some (i, j) from h] at z
        cases z
        exact ⟨r1, r2, r3⟩
    obtain ⟨h3, h4, h5⟩ := hy
    have hqle' : (gst M f n).1 ≤ 1000001 := hqle
    obtain ⟨υ, v1, v2, v3⟩ := m_pulls (σ := τ) (cs := cs) (N := N) hM hg hn z2 z3 z4 hm2 t2
    have hm3 := hm2.fr v1 (by decide) (by decide) List.not_mem_nil List.not_mem_nil List.not_mem_nil List.not_mem_nil
    have hd8 := hg.2.2.2.1
    refine ⟨hp_wf υ 72 5 (nI (dM d M)), ((t1.wk (fun _ z => z) (fun _ z => List.mem_cons_of_mem _ z)).tr (v1.wk (fun _ z => by simp at z; simp [z]) (fun _ z => absurd z List.not_mem_nil))).tr (fr.wf (by decide)), ⟨?_, ?_, ?_, ?_⟩, ?_⟩
    · rw [hp_wf_ne (by decide)]; exact hm3.1
    · rw [hp_wf_at]
    · rw [hp_wf_ne (by decide)]; exact hm3.2.2.1
    · exact v2
    · have fin : g288_253 N 72 x1 (nI M) (nI (gst M f n).1) (hp υ, cs) = lf_cv (f179 N 72 x1 (hp (hp_wf υ 72 5 (nI (dM d M))), cs)) fun w3 => some (.inl (some (.int (nI (gst M f n).1))), w3) := by
        unfold g288_253 g288_274
        rw [i72_5, hm3.2.1, show (2 : Int32) * nI M = nI (2 * M) by rcases hM with rfl | rfl <;> rfl]
        unfold dM
        have hM2 : M ≤ 2 := by omega
        by_cases c : 2 * M ≤ d
        · rw [if_pos (nI_le c (by omega)), i72_5, hm3.2.1, w72_5, o72, if_neg (by omega)]
        · rw [if_neg (nI_ge (by omega) (by omega)), w72_5, o72, if_pos (by omega)]
      rw [← fin, ← v3 (g288_253 N 72 x1 (nI M) (nI (gst M f n).1))]
      unfold g288_81
      rw [i72_20, hm2.2.2.2.1, if_pos (nI_le (Nat.le_refl _) (by omega)), h3, if_pos (show ¬ nI (gst M f n).1 = -1 by rw [q_ne1 (by omega)]; exact id), o72, h4, h5]
end GL
