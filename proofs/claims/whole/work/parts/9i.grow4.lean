/-! the model pulls -/
section GM
variable {cs : Nat × Nat} {N n d : Nat} {f : Nat → Int32}
theorem nI_m1 : nI (n + 1) - 1 = nI n := by
  rw [← nI_1]
  exact Int32.add_sub_cancel _ _
/-- the ends of a line of the list -/
theorem lnM_at {σ : hp_S} {L : List (Nat × Nat)} (h : lnM σ L) {i : Nat} (hi : i < L.length) : σ.1 79 i = nI (lp L i).1 ∧ σ.1 80 i = nI (lp L i).2 := h.2 i _ _ (lp_get hi)
theorem m_pull {σ : hp_S} {g : Nat → Int32} {L : List (Nat × Nat)} {i : Nat} (h96 : L.length ≤ 96) (hi : i < L.length) (hL : lnM σ L) (e : σ.2.2.1 72 4 = nI (n + 1)) (ef : ∀ k, k < 24 → σ.1 76 k = g k) (hd : d3 (lp L i).1 (lp L i).2 n) (hc : cP g (lp L i).1 (lp L i).2 n) : ∃ τ, fr [76] [] σ τ ∧ (∀ k, k < 24 → τ.1 76 k = pl g (lp L i).1 (lp L i).2 n k) ∧ f286 N 72 (nI i) 0 (hp σ, cs) = some (.inl none, (hp τ, cs)) := by
  obtain ⟨l1, l2⟩ := lnM_at hL hi
  generalize (lp L i).1 = a at *
  generalize (lp L i).2 = b at *
  have hd' := hd
  obtain ⟨q1, q2, q3, q4, q5, q6⟩ := hd'
  obtain ⟨c1, c2, c3, c4, c5, c6⟩ := hc
  obtain ⟨τ, t1, t2, t3⟩ := m_parts2 (σ := σ) (cs := cs) (N := N) (f := g) q1 q2 q4 ef c1 c2
  obtain ⟨υ, v1, v2, v3⟩ := m_joins2 (σ := τ) (cs := cs) (N := N) (f := fl_r g a b) q1 q3 q5 t2 (by rw [fl_bit q1 q2 q4 (by omega), c3, decide_eq_false (by omega)]; rfl) (by rw [fl_bit q1 q2 q4 (by omega), c5, decide_eq_false (by omega)]; rfl)
  obtain ⟨ω, w1, w2, w3⟩ := m_joins2 (σ := υ) (cs := cs) (N := N) (f := fl_r (fl_r g a b) a n) q2 q3 q6 v2 (by rw [fl_bit q1 q3 q5 (by omega), fl_bit q1 q2 q4 (by omega), c4, decide_eq_false (by omega), decide_eq_false (by omega)]; rfl) (by rw [fl_bit q1 q3 q5 (by omega), fl_bit q1 q2 q4 (by omega), c6, decide_eq_false (by omega), decide_eq_false (by omega)]; rfl)
  refine ⟨ω, (t1.tr v1).tr w1, w2, ?_⟩
  unfold f286
  rw [r72_21, a79 (by omega), r72_22, a80 (by omega), l1, l2, if_pos rfl, o72, t3, lf_cv_r, i72_4, t1.f List.not_mem_nil, e, o72, nI_m1, v3, lf_cv_r, i72_4, (t1.tr v1).f List.not_mem_nil, e, o72, nI_m1, w3, lf_cv_r]
theorem m_unpull {σ : hp_S} {g : Nat → Int32} {L : List (Nat × Nat)} {i : Nat} (h96 : L.length ≤ 96) (hi : i < L.length) (hL : lnM σ L) (e : σ.2.2.1 72 4 = nI (n + 1)) (ef : ∀ k, k < 24 → σ.1 76 k = pl g (lp L i).1 (lp L i).2 n k) (hd : d3 (lp L i).1 (lp L i).2 n) (hc : cP g (lp L i).1 (lp L i).2 n) : ∃ τ, fr [76] [] σ τ ∧ (∀ k, k < 24 → τ.1 76 k = g k) ∧ f286 N 72 (nI i) 1 (hp σ, cs) = some (.inl none, (hp τ, cs)) := by
  obtain ⟨l1, l2⟩ := lnM_at hL hi
  generalize (lp L i).1 = a at *
  generalize (lp L i).2 = b at *
  have hd' := hd
  obtain ⟨q1, q2, q3, q4, q5, q6⟩ := hd'
  obtain ⟨c1, c2, c3, c4, c5, c6⟩ := hc
  obtain ⟨τ, t1, t2, t3⟩ := m_joins2 (σ := σ) (cs := cs) (N := N) (f := pl g a b n) q1 q2 q4 ef (by rw [pl_bt hd q2, c1, decide_eq_true (by omega), decide_eq_false (by omega), decide_eq_false (by omega)]; rfl) (by rw [pl_bt hd q1, c2, decide_eq_true (by omega), decide_eq_false (by omega), decide_eq_false (by omega)]; rfl)
  obtain ⟨υ, v1, v2, v3⟩ := m_parts2 (σ := τ) (cs := cs) (N := N) (f := fl_r (pl g a b n) a b) q1 q3 q5 t2 (by rw [fl_bit q1 q2 q4 (by omega), pl_bt hd q3, c3, decide_eq_false (by omega), decide_eq_true (by omega), decide_eq_false (by omega)]; rfl) (by rw [fl_bit q1 q2 q4 (by omega), pl_bt hd q1, c5, decide_eq_false (by omega), decide_eq_true (by omega), decide_eq_false (by omega)]; rfl)
  obtain ⟨ω, w1, w2, w3⟩ := m_parts2 (σ := υ) (cs := cs) (N := N) (f := fl_r (fl_r (pl g a b n) a b) a n) q2 q3 q6 v2 (by rw [fl_bit q1 q3 q5 (by omega), fl_bit q1 q2 q4 (by omega), pl_bt hd q3, c4, decide_eq_false (by omega), decide_eq_false (by omega), decide_eq_true (by omega)]; rfl) (by rw [fl_bit q1 q3 q5 (by omega), fl_bit q1 q2 q4 (by omega), pl_bt hd q2, c6, decide_eq_false (by omega), decide_eq_false (by omega), decide_eq_true (by omega)]; rfl)
  refine ⟨ω, (t1.tr v1).tr w1, fun k hk => ?_, ?_⟩
  · rw [w2 k hk]
    exact pl_pl hd k
  · unfold f286
    rw [r72_21, a79 (by omega), r72_22, a80 (by omega), l1, l2, if_neg (by decide), o72, t3, lf_cv_r, i72_4, t1.f List.not_mem_nil, e, o72, nI_m1, v3, lf_cv_r, i72_4, (t1.tr v1).f List.not_mem_nil, e, o72, nI_m1, w3, lf_cv_r]
theorem m_apt {σ : hp_S} {L : List (Nat × Nat)} {i j : Nat} (h96 : L.length ≤ 96) (hi : i < L.length) (hj : j < L.length) (hL : lnM σ L) (h1 : (lp L i).1 < 24 ∧ (lp L i).2 < 24) (h2 : (lp L j).1 < 24 ∧ (lp L j).2 < 24) : f287 N 72 (nI i) (nI j) (hp σ, cs) = some (.inl (some (.int (if apt (lp L i) (lp L j) = true then 1 else 0))), (hp σ, cs)) := by
  obtain ⟨l1, l2⟩ := lnM_at hL hi
  obtain ⟨l3, l4⟩ := lnM_at hL hj
  have key : (apt (lp L i) (lp L j) = true) = ((lp L i).1 ≠ (lp L j).1 ∧ (lp L i).1 ≠ (lp L j).2 ∧ (lp L i).2 ≠ (lp L j).1 ∧ (lp L i).2 ≠ (lp L j).2) := by
    unfold apt
    simp only [Bool.and_eq_true, decide_eq_true_iff, and_assoc]
  simp only [key]
  unfold f287
  rw [r72_21, a79 (by omega), r72_21, a79 (by omega), l1, l3]
  by_cases e1 : (lp L i).1 = (lp L j).1
  · rw [if_pos (by rw [e1]), if_neg (fun z => z.1 e1)]
  rw [if_neg (show ¬ nI (lp L i).1 = nI (lp L j).1 by rw [q_eq (by omega) (by omega)]; exact e1), r72_21, a79 (by omega), r72_22, a80 (by omega), l1, l4]
  by_cases e2 : (lp L i).1 = (lp L j).2
  · rw [if_pos (by rw [e2]), if_neg (fun z => z.2.1 e2)]
  rw [if_neg (show ¬ nI (lp L i).1 = nI (lp L j).2 by rw [q_eq (by omega) (by omega)]; exact e2), r72_22, a80 (by omega), r72_21, a79 (by omega), l2, l3]
  by_cases e3 : (lp L i).2 = (lp L j).1
  · rw [if_pos (by rw [e3]), if_neg (fun z => z.2.2.1 e3)]
  rw [if_neg (show ¬ nI (lp L i).2 = nI (lp L j).1 by rw [q_eq (by omega) (by omega)]; exact e3), r72_22, a80 (by omega), r72_22, a80 (by omega), l2, l4]
  by_cases e4 : (lp L i).2 = (lp L j).2
  · rw [if_pos (by rw [e4]), if_neg (fun z => z.2.2.2 e4)]
  · rw [if_neg (show ¬ nI (lp L i).2 = nI (lp L j).2 by rw [q_eq (by omega) (by omega)]; exact e4), if_pos ⟨e1, e2, e3, e4⟩]
/-- the model's notes of a choice -/
def MGq (q : gq) (x3 x4 x5 : Int32) : Prop := (q.2 = none ∧ x3 = -1) ∨ ∃ i j, q.2 = some (i, j) ∧ x3 = nI q.1 ∧ x4 = nI i ∧ x5 = nI j
/-- the net while it grows -/
def MW (σ : hp_S) (n d : Nat) (f : Nat → Int32) : Prop := σ.2.2.1 72 4 = nI (n + 1) ∧ σ.2.2.1 72 5 = nI d ∧ σ.2.2.1 72 0 = 0 ∧ lnM σ (lq f n 0 n)
theorem MW.fr {σ τ : hp_S} {A : List Nat} {F : List (Nat × Nat)} (h : MW σ n d f) (k : fr A F σ τ) (h1 : 79 ∉ A) (h2 : 80 ∉ A) (h3 : (72, 4) ∉ F) (h4 : (72, 5) ∉ F) (h5 : (72, 0) ∉ F) (h6 : (72, 20) ∉ F) : MW τ n d f := ⟨by rw [k.f h3]; exact h.1, by rw [k.f h4]; exact h.2.1, by rw [k.f h5]; exact h.2.2.1, by rw [k.f h6]; exact h.2.2.2.1, fun i a b e => by rw [k.r h1, k.r h2]; exact h.2.2.2.2 i a b e⟩
/-- the lines are pulled -/
theorem m_pulls {M i j : Nat} {σ : hp_S} (hM : M = 1 ∨ M = 2) (hg : GW n d f) (hn : n ≤ 23) (hi : i < (lq f n 0 n).length) (hj : j < (lq f n 0 n).length) (hok : okG M (lq f n 0 n) i j = true) (hm : MW σ n d f) (ef : ∀ k, k < 24 → σ.1 76 k = f k) : ∃ τ, fr [76] [] σ τ ∧ (∀ k, k < 24 → τ.1 76 k = fG M f n (lq f n 0 n) i j k) ∧ ∀ X : lf_W → lf_R, (lf_cv (f286 N 72 (nI i) 0 (hp σ, cs)) fun w1 => if ¬ nI M = 2 then X w1 else (if lf_is w1 72 12 = true then (lf_cv (f286 N 72 (nI j) 0 w1) fun w8 => X w8) else none)) = X (hp τ, cs) := by
  obtain ⟨hd, -⟩ := ln_d3 hg hn hi
  obtain ⟨hd2, -⟩ := ln_d3 hg hn hj
  obtain ⟨τ, t1, t2, t3⟩ := m_pull (σ := σ) (cs := cs) (N := N) hg.l96 hi hm.2.2.2 hm.1 ef hd (cP_f hg hn hi)
  rcases hM with rfl | rfl
  · refine ⟨τ, t1, fun k hk => ?_, fun X => ?_⟩
    · rw [t2 k hk]; exact gq_M1
    · rw [t3, lf_cv_r, if_pos (by decide)]
  · have hap : apt (lp (lq f n 0 n) i) (lp (lq f n 0 n) j) = true := by
      unfold okG at hok
      rwa [show decide (2 = 1) = false from rfl, Bool.false_or] at hok
    have hm2 := hm.fr t1 (by decide) (by decide) List.not_mem_nil List.not_mem_nil List.not_mem_nil List.not_mem_nil
    obtain ⟨υ, v1, v2, v3⟩ := m_pull (σ := τ) (cs := cs) (N := N) hg.l96 hj hm2.2.2.2 hm2.1 t2 hd2 (cP_pl hd hd2 (cP_f hg hn hj) hap)
    refine ⟨υ, t1.tr v1, fun k hk => ?_, fun X => ?_⟩
    · rw [v2 k hk]
      unfold fG
      rw [if_neg (by decide)]
    · rw [t3, lf_cv_r, if_neg (fun z => z rfl), o72, v3, lf_cv_r]
theorem okG_2 {L : List (Nat × Nat)} {i j : Nat} (h : okG 2 L i j = true) : apt (lp L i) (lp L j) = true := by
  unfold okG at h
  rwa [show decide (2 = 1) = false from rfl, Bool.false_or] at h
theorem fG_2 {L : List (Nat × Nat)} {i j : Nat} (k : Nat) : fG 2 f n L i j k = pl (pl f (lp L i).1 (lp L i).2 n) (lp L j).1 (lp L j).2 n k := by
  unfold fG
  rw [if_neg (by decide)]
theorem nI1_2 : ¬ nI 1 = 2 := by decide
theorem m_unpulls {M i j : Nat} {υ : hp_S} (hM : M = 1 ∨ M = 2) (hg : GW n d f) (hn : n ≤ 23) (hi : i < (lq f n 0 n).length) (hj : j < (lq f n 0 n).length) (hok : okG M (lq f n 0 n) i j = true) (hm3 : MW υ n d f) (e3 : ∀ k, k < 24 → υ.1 76 k = fG M f n (lq f n 0 n) i j k) : ∃ ω, fr [76] [] υ ω ∧ (∀ k, k < 24 → ω.1 76 k = f k) ∧ ∀ X : lf_W → lf_R, (if ¬ nI M = 2 then (lf_cv (f286 N 72 (nI i) 1 (hp υ, cs)) X) else (if lf_is (hp υ, cs) 72 12 = true then (lf_cv (f286 N 72 (nI j) 1 (hp υ, cs)) fun w9 => if lf_is w9 72 12 = true then lf_cv (f286 N 72 (nI i) 1 w9) X else none) else none)) = X (hp ω, cs) := by
  obtain ⟨hd, -⟩ := ln_d3 hg hn hi
  obtain ⟨hd2, -⟩ := ln_d3 hg hn hj
  rcases hM with rfl | rfl
  · obtain ⟨ω, w1, w2, w3⟩ := m_unpull (σ := υ) (cs := cs) (N := N) (g := f) hg.l96 hi hm3.2.2.2 hm3.1 (fun k hk => by rw [e3 k hk]; exact gq_M1.symm) hd (cP_f hg hn hi)
    refine ⟨ω, w1, w2, fun X => ?_⟩
    rw [if_pos nI1_2, w3, lf_cv_r]
  · have hap := okG_2 hok
    obtain ⟨ψ, z1, z2, z3⟩ := m_unpull (σ := υ) (cs := cs) (N := N) (g := pl f (lp (lq f n 0 n) i).1 (lp (lq f n 0 n) i).2 n) hg.l96 hj hm3.2.2.2 hm3.1 (fun k hk => by rw [e3 k hk]; exact fG_2 k) hd2 (cP_pl hd hd2 (cP_f hg hn hj) hap)
    have hm4 := hm3.fr z1 (by decide) (by decide) List.not_mem_nil List.not_mem_nil List.not_mem_nil List.not_mem_nil
    obtain ⟨ω, w1, w2, w3⟩ := m_unpull (σ := ψ) (cs := cs) (N := N) (g := f) hg.l96 hi hm4.2.2.2 hm4.1 z2 hd (cP_f hg hn hi)
    refine ⟨ω, z1.tr w1, w2, fun X => ?_⟩
    rw [if_neg (fun z => z rfl), o72, z3, lf_cv_r, o72, w3, lf_cv_r]
theorem m_gS {M i j : Nat} {σ : hp_S} {q : gq} {x1 x3 x4 x5 : Int32} {k81 : Nat → Int32 → Int32 → Int32 → Int32 → Int32 → Int32 → lf_W → lf_R} {k106 : Nat → Int32 → Int32 → Int32 → Int32 → Int32 → Int32 → Int32 → lf_W → lf_R} (hM : M = 1 ∨ M = 2) (hg : GW n d f) (hn : n ≤ 23) (hN : iv_N N) (hi : i < (lq f n 0 n).length) (hj : j < (lq f n 0 n).length) (hok : okG M (lq f n 0 n) i j = true) (hm : MW σ n d f) (ef : ∀ k, k < 24 → σ.1 76 k = f k) (hq : qG M f n (lq f n 0 n) q) (hx : MGq q x3 x4 x5) : ∃ (τ : hp_S) (y3 y4 y5 : Int32), fr [76, 81] [(72, 24), (72, 25)] σ τ ∧ (∀ k, k < 24 → τ.1 76 k = f k) ∧ MGq (tG M f n (lq f n 0 n) i j q) y3 y4 y5 ∧ g288_146 N k81 k106 72 x1 (nI M) x3 x4 x5 (nI i) (nI j) (hp σ, cs) = k106 72 x1 (nI M) y3 y4 y5 (nI i) (nI (j + 1)) (hp τ, cs) := by
  obtain ⟨hd, -⟩ := ln_d3 hg hn hi
  obtain ⟨hd2, -⟩ := ln_d3 hg hn hj
  obtain ⟨τ, t1, t2, t3⟩ := m_pulls (σ := σ) (cs := cs) (N := N) hM hg hn hi hj hok hm ef
  have hm2 := hm.fr t1 (by decide) (by decide) List.not_mem_nil List.not_mem_nil List.not_mem_nil List.not_mem_nil
  obtain ⟨υ, v1, v2⟩ := m_price2 (σ := τ) (cs := cs) (N := N) (f := fG M f n (lq f n 0 n) i j) (n := n + 1) (by omega) hN (fG_gw hM hg hn hi hj hok).1 hm2.1 t2
  have hm3 := hm2.fr v1 (by decide) (by decide) (by decide) (by decide) (by decide) (by decide)
  have e3 : ∀ k, k < 24 → υ.1 76 k = fG M f n (lq f n 0 n) i j k := fun k hk => by rw [v1.r (by decide)]; exact t2 k hk
  obtain ⟨ω, w1, w2, w3⟩ := m_unpulls (cs := cs) (N := N) hM hg hn hi hj hok hm3 e3
  have hfr : fr [76, 81] [(72, 24), (72, 25)] σ ω := ((t1.wk (fun _ z => by simp at z; simp [z]) (fun _ z => absurd z List.not_mem_nil)).tr (v1.wk (fun _ z => by simp at z; simp [z]) (fun _ z => z))).tr (w1.wk (fun _ z => by simp at z; simp [z]) (fun _ z => absurd z List.not_mem_nil))
  have hmax := gPr_max (f := fG M f n (lq f n 0 n) i j) (A := al (n + 1))
  have pre : g288_146 N k81 k106 72 x1 (nI M) x3 x4 x5 (nI i) (nI j) (hp σ, cs) = if x3 = -1 then k106 72 x1 (nI M) (nI (gPr (fG M f n (lq f n 0 n) i j) (al (n + 1)))) (nI i) (nI j) (nI i) (nI (j + 1)) (hp ω, cs) else if nI (gPr (fG M f n (lq f n 0 n) i j) (al (n + 1))) < x3 then k106 72 x1 (nI M) (nI (gPr (fG M f n (lq f n 0 n) i j) (al (n + 1)))) (nI i) (nI j) (nI i) (nI (j + 1)) (hp ω, cs) else k106 72 x1 (nI M) x3 x4 x5 (nI i) (nI (j + 1)) (hp ω, cs) := by
    unfold g288_146
    rw [o72, t3]
    unfold g288_165
    rw [o72, v2, lf_ci_r]
    unfold g288_183
    simp only [o72]
    have := w3 (fun w1 => if x3 = (-1) then (g288_204 N k81 k106 72 x1 (nI M) (nI i) (nI j) (nI (gPr (fG M f n (lq f n 0 n) i j) (al (n + 1)))) w1) else (if (nI (gPr (fG M f n (lq f n 0 n) i j) (al (n + 1)))) < x3 then (g288_204 N k81 k106 72 x1 (nI M) (nI i) (nI j) (nI (gPr (fG M f n (lq f n 0 n) i j) (al (n + 1)))) w1) else (g288_215 N k81 k106 72 x1 (nI M) x3 x4 x5 (nI i) (nI j) w1)))
    simp only [o72] at this
    rw [this]
    unfold g288_204 g288_215
    rw [nI_1]
  rw [pre]
  unfold tG
  rw [if_pos hok]
  rcases hx with ⟨h1, h2⟩ | ⟨i', j', h1, h2, h3, h4⟩
  · have hq1 : q.1 = 1000001 := by
      rcases hq with z | ⟨_, _, z, _⟩
      · exact z.2
      · rw [h1] at z; cases z
    rw [if_pos h2, if_pos (by omega)]
    exact ⟨ω, _, _, _, hfr, w2, Or.inr ⟨i, j, rfl, rfl, rfl, rfl⟩, rfl⟩
  · have hle := hq.le
    rw [h2, if_neg (show ¬ nI q.1 = -1 by rw [q_ne1 (by omega)]; exact id)]
    by_cases c : gPr (fG M f n (lq f n 0 n) i j) (al (n + 1)) < q.1
    · rw [if_pos (nI_lt c (by omega)), if_pos c]
      exact ⟨ω, _, _, _, hfr, w2, Or.inr ⟨i, j, rfl, rfl, rfl, rfl⟩, rfl⟩
    · rw [if_neg (nI_nlt (by omega) (by omega)), if_neg c]
      exact ⟨ω, _, _, _, hfr, w2, Or.inr ⟨i', j', h1, rfl, h3, h4⟩, rfl⟩
end GM
