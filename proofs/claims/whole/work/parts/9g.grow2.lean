/-! the class pulls -/
section GP
variable {cs : Nat × Nat} {N s n d : Nat} {f : Nat → Int32}
theorem cod_l {i : Nat} {σ : hp_S} {L : List (Nat × Nat)} (hl : lnC σ 43 L) (hi : i < L.length) : σ.1 43 i = cod L i := hl i _ _ (lp_get hi)
/-- pull, judge, pull back -/
theorem c_pj {M i j : Nat} {σ : hp_S} {g : Nat → Int32} {q : gq} {y : Int32} {k : Nat} (hs : s < 8) (hn : n ≤ 23) (hN : iv_N N) (hd : d3 (lp (lq f n 0 n) k).1 (lp (lq f n 0 n) k).2 n) (e : σ.2.2.1 (2 + 2 * s) 1 = nI n) (ef : ∀ k, k < 24 → σ.1 (3 + 2 * s) k = g k) (hsw : σ.2.2.2 29 0 = σ.2.2.2 29 1) (hq : q.1 ≤ 1000001) (hc : CG σ (lq f n 0 n) M q) (hy : y = if M = 1 then -1 else cod (lq f n 0 n) j) (hok : okG M (lq f n 0 n) i j = true) (hfG : ∀ x, x < 24 → pl g (lp (lq f n 0 n) k).1 (lp (lq f n 0 n) k).2 n x = fG M f n (lq f n 0 n) i j x) : ∃ τ, fr [30, 31] F29 σ (pl2 τ (3 + 2 * s) (lp (lq f n 0 n) k).1 (lp (lq f n 0 n) k).2 n) ∧ (pl2 τ (3 + 2 * s) (lp (lq f n 0 n) k).1 (lp (lq f n 0 n) k).2 n).2.2.2 29 0 = (pl2 τ (3 + 2 * s) (lp (lq f n 0 n) k).1 (lp (lq f n 0 n) k).2 n).2.2.2 29 1 ∧ CG (pl2 τ (3 + 2 * s) (lp (lq f n 0 n) k).1 (lp (lq f n 0 n) k).2 n) (lq f n 0 n) M (tG M f n (lq f n 0 n) i j q) ∧ τ.1 43 = σ.1 43 ∧ τ.2.2.1 (2 + 2 * s) 1 = nI n ∧ f14 N 42 (2 + 2 * s) (cod (lq f n 0 n) i) y (hp (pl2 σ (3 + 2 * s) (lp (lq f n 0 n) k).1 (lp (lq f n 0 n) k).2 n), cs) = some (.inl none, (hp τ, cs)) := by
  obtain ⟨τ, t1, t2, t3, t4⟩ := c_judge (σ := pl2 σ (3 + 2 * s) (lp (lq f n 0 n) k).1 (lp (lq f n 0 n) k).2 n) (cs := cs) (N := N) (g := fG M f n (lq f n 0 n) i j) (L := lq f n 0 n) (M := M) (i := i) (j := j) (q := q) (y := y) hs hn hN e (fun x hx => by rw [pl2_at, pl_congr hd ef x hx]; exact hfG x hx) hsw hq ⟨hc.1, hc.2.1, hc.2.2⟩ hy
  refine ⟨τ, pl2_back hd (by simp; omega) t1, t2, ?_, ?_, ?_, t4⟩
  · unfold tG
    rw [if_pos hok]
    exact ⟨t3.1, t3.2.1, t3.2.2⟩
  · rw [t1.r (by decide), pl2_ne (by omega)]
  · rw [t1.f (F29_s hs 1)]; exact e
theorem c_gJ {i : Nat} (hs : s < 8) (hg : GW n d f) (hn : n ≤ 23) (hN : iv_N N) (hi : i < (lq f n 0 n).length) : ∀ (m j u : Nat) (q : gq) (σ : hp_S), j + m = (lq f n 0 n).length → m < u → σ.2.2.1 (2 + 2 * s) 1 = nI n → (∀ k, k < 24 → σ.1 (3 + 2 * s) k = pl f (lp (lq f n 0 n) i).1 (lp (lq f n 0 n) i).2 n k) → qG 2 f n (lq f n 0 n) q → σ.2.2.2 29 0 = σ.2.2.2 29 1 → CG σ (lq f n 0 n) 2 q → lnC σ 43 (lq f n 0 n) → ∃ τ, fr [30, 31] F29 σ τ ∧ τ.2.2.2 29 0 = τ.2.2.2 29 1 ∧ qG 2 f n (lq f n 0 n) (gJx 2 f n (lq f n 0 n) i m j q) ∧ CG τ (lq f n 0 n) 2 (gJx 2 f n (lq f n 0 n) i m j q) ∧ g12_30 N u 42 (2 + 2 * s) (nI i) (nI (lq f n 0 n).length) (lf_shl 1 (nI (lp (lq f n 0 n) i).1) ||| lf_shl 1 (nI (lp (lq f n 0 n) i).2)) (nI j) (hp σ, cs) = some (.inl none, (hp τ, cs)) := by
  have h96 := hg.l96
  intro m
  induction m with
  | zero =>
    intro j u q σ hj hu e ef hq hsw hcg hl
    obtain ⟨u, rfl⟩ : ∃ q, u = q + 1 := ⟨u - 1, by omega⟩
    refine ⟨σ, fr.rf, hsw, hq, hcg, ?_⟩
    unfold g12_30
    rw [if_pos (nI_le (by omega) (by omega))]
  | succ m ih =>
    intro j u q σ hj hu e ef hq hsw hcg hl
    obtain ⟨u, rfl⟩ : ∃ q, u = q + 1 := ⟨u - 1, by omega⟩
    obtain ⟨hd, l1, l2, l3, l4⟩ := ln_d3 hg hn (show j < (lq f n 0 n).length by omega)
    obtain ⟨hdi, -⟩ := ln_d3 hg hn hi
    have hd' := hd
    obtain ⟨q1, q2, -⟩ := hd'
    have hdi' := hdi
    obtain ⟨p1, p2, -⟩ := hdi'
    have ej := cod_l hl (show j < (lq f n 0 n).length by omega)
    have ei := cod_l hl hi
    have am := apt_mask p1 p2 q1 q2
    have hle := hq.le
    have hq2 := tG_ok (j := j) hq hi (show j < (lq f n 0 n).length by omega)
    by_cases c : apt (lp (lq f n 0 n) i) (lp (lq f n 0 n) j) = true
    · have hok : okG 2 (lq f n 0 n) i j = true := by unfold okG; rw [c]; rfl
      obtain ⟨τ, t1, t2, t3, t4, t5, t6⟩ := c_pj (cs := cs) (M := 2) (i := i) (j := j) (k := j) (σ := σ) (q := q) (y := cod (lq f n 0 n) j) hs hn hN hd e ef hsw hle hcg (by rw [if_neg (by decide)]) hok (fun x hx => by unfold fG; rw [if_neg (by decide)])
      obtain ⟨υ, v1, v2, v3, v4, v5⟩ := ih (j + 1) u _ _ (by omega) (by omega) (by rw [t1.f (F29_s hs 1)]; exact e) (fun k hk => by rw [t1.r (by simp; omega)]; exact ef k hk) hq2 t2 t3 (fun k a b z => by rw [t1.r (by decide)]; exact hl k a b z)
      refine ⟨υ, t1.tr v1, v2, v3, v4, ?_⟩
      rw [g12_30]
      rw [if_neg (nI_ge (by omega) (by omega)), r42_1, a43 (by omega), r42_1, a43 (by omega), ej]
      unfold cod
      rw [(lf_rem32 q1 q2).1, (lf_rem32 q1 q2).2, if_neg (fun z => z (am.mpr c)), r42_1, a43 (by omega), ej]
      unfold cod
      rw [c_pull hs hd e, lf_cv_r, r42_1, a43 (by omega), r42_1, a43 (by omega), o42, pl2_ne (by omega), ei, ej, t6, lf_cv_r, r42_1, a43 (by omega), t4, ej]
      unfold cod
      rw [c_pull hs hd t5, lf_cv_r]
      unfold g12_111
      rw [nI_1]
      exact v5
    · have hok : ¬ okG 2 (lq f n 0 n) i j = true := by unfold okG; rw [show decide (2 = 1) = false from rfl, Bool.false_or]; exact c
      have e1 : tG 2 f n (lq f n 0 n) i j q = q := by unfold tG; rw [if_neg hok]
      obtain ⟨υ, v1, v2, v3, v4, v5⟩ := ih (j + 1) u q σ (by omega) (by omega) e ef hq hsw hcg hl
      refine ⟨υ, v1, v2, ?_, ?_, ?_⟩
      · unfold gJx; rw [e1]; exact v3
      · unfold gJx; rw [e1]; exact v4
      rw [g12_30]
      rw [if_neg (nI_ge (by omega) (by omega)), r42_1, a43 (by omega), r42_1, a43 (by omega), ej]
      unfold cod
      rw [(lf_rem32 q1 q2).1, (lf_rem32 q1 q2).2, if_pos (fun z => c (am.mp z))]
      unfold g12_111
      rw [nI_1]
      exact v5
theorem gq_M1 {i : Nat} {x : Nat} : pl f (lp (lq f n 0 n) i).1 (lp (lq f n 0 n) i).2 n x = fG 1 f n (lq f n 0 n) i i x := by
  unfold fG
  rw [if_pos rfl]
theorem c_gI {M : Nat} (hM : M = 1 ∨ M = 2) (hs : s < 8) (hg : GW n d f) (hn : n ≤ 23) (hN : iv_N N) : ∀ (m i u : Nat) (q : gq) (σ : hp_S), i + m = (lq f n 0 n).length → m < u → NV σ s n d f → qG M f n (lq f n 0 n) q → σ.2.2.2 29 0 = σ.2.2.2 29 1 → CG σ (lq f n 0 n) M q → lnC σ 43 (lq f n 0 n) → ∃ (τ : hp_S) (v : Nat), fr [30, 31] F29 σ τ ∧ τ.2.2.2 29 0 = τ.2.2.2 29 1 ∧ qG M f n (lq f n 0 n) (gIx M f n (lq f n 0 n) m i q) ∧ CG τ (lq f n 0 n) M (gIx M f n (lq f n 0 n) m i q) ∧ g11_28 N u 42 (2 + 2 * s) (nI M) (nI (lq f n 0 n).length) (nI i) (hp σ, cs) = g11_28 N (v + 1) 42 (2 + 2 * s) (nI M) (nI (lq f n 0 n).length) (nI (lq f n 0 n).length) (hp τ, cs) := by
  have h96 := hg.l96
  intro m
  induction m with
  | zero =>
    intro i u q σ hi hu hv hq hsw hcg hl
    obtain ⟨u, rfl⟩ : ∃ q, u = q + 1 := ⟨u - 1, by omega⟩
    refine ⟨σ, u, fr.rf, hsw, hq, hcg, ?_⟩
    rw [show i = (lq f n 0 n).length by omega]
  | succ m ih =>
    intro i u q σ hi hu hv hq hsw hcg hl
    obtain ⟨u, rfl⟩ : ∃ q, u = q + 1 := ⟨u - 1, by omega⟩
    have hil : i < (lq f n 0 n).length := by omega
    obtain ⟨hd, l1, l2, l3, l4⟩ := ln_d3 hg hn hil
    have hd' := hd
    obtain ⟨q1, q2, -⟩ := hd'
    have ei := cod_l hl hil
    have hle := hq.le
    rcases hM with rfl | rfl
    · obtain ⟨τ, t1, t2, t3, t4, t5, t6⟩ := c_pj (cs := cs) (M := 1) (i := i) (j := i) (k := i) (σ := σ) (q := q) (y := -1) hs hn hN hd hv.1 hv.2.2 hsw hle hcg (by rw [if_pos rfl]) (by unfold okG; rfl) (fun x hx => gq_M1)
      have hq2 := tG_ok (j := i) hq hil hil
      obtain ⟨υ, v, v1, v2, v3, v4, v5⟩ := ih (i + 1) u _ _ (by omega) (by omega) (hv.fr t1 (by simp; omega) (F29_s hs 1) (F29_s hs 2)) hq2 t2 t3 (fun k a b z => by rw [t1.r (by decide)]; exact hl k a b z)
      refine ⟨υ, v, t1.tr v1, v2, v3, v4, ?_⟩
      rw [← v5]
      conv => lhs; unfold g11_28
      rw [if_neg (nI_ge (by omega) (by omega)), r42_1, a43 (by omega), ei]
      unfold cod at t6 ⊢
      rw [c_pull hs hd hv.1, lf_cv_r, if_neg (fun z => z rfl), r42_1, a43 (by omega), o42, pl2_ne (by omega), ei]
      unfold cod
      rw [t6, lf_cv_r]
      unfold g11_74
      rw [r42_1, a43 (by omega), t4, ei]
      unfold cod
      rw [c_pull hs hd t5, lf_cv_r, nI_1]
    · have e2 : (pl2 σ (3 + 2 * s) (lp (lq f n 0 n) i).1 (lp (lq f n 0 n) i).2 n).2.2.1 (2 + 2 * s) 1 = nI n := hv.1
      obtain ⟨τ, t1, t2, t3, t4, t5⟩ := c_gJ (cs := cs) (N := N) (i := i) hs hg hn hN hil ((lq f n 0 n).length - (i + 1)) (i + 1) N q (pl2 σ (3 + 2 * s) (lp (lq f n 0 n) i).1 (lp (lq f n 0 n) i).2 n) (by omega) (by unfold iv_N at hN; omega) e2 (fun k hk => by rw [pl2_at]; exact pl_congr hd hv.2.2 k hk) hq hsw ⟨hcg.1, hcg.2.1, hcg.2.2⟩ (fun k a b z => by rw [pl2_ne (by omega)]; exact hl k a b z)
      have w1 := pl2_back hd (by simp; omega) t1
      obtain ⟨υ, v, v1, v2, v3, v4, v5⟩ := ih (i + 1) u _ _ (by omega) (by omega) (hv.fr w1 (by simp; omega) (F29_s hs 1) (F29_s hs 2)) t3 t2 ⟨t4.1, t4.2.1, t4.2.2⟩ (fun k a b z => by rw [w1.r (by decide)]; exact hl k a b z)
      refine ⟨υ, v, w1.tr v1, v2, v3, v4, ?_⟩
      rw [← v5]
      conv => lhs; unfold g11_28
      rw [if_neg (nI_ge (by omega) (by omega)), r42_1, a43 (by omega), ei]
      unfold cod
      rw [c_pull hs hd hv.1, lf_cv_r, if_pos (by decide), o42]
      unfold f12
      rw [r42_1, a43 (by omega), r42_1, a43 (by omega), pl2_ne (by omega), ei]
      unfold cod
      rw [(lf_rem32 q1 q2).1, (lf_rem32 q1 q2).2, nI_1, t5, lf_cv_r]
      unfold g11_74
      rw [r42_1, a43 (by omega), t1.r (by decide), pl2_ne (by omega), ei]
      unfold cod
      rw [c_pull hs hd (by rw [t1.f (F29_s hs 1)]; exact hv.1), lf_cv_r, nI_1]
theorem sN_w1 {σ : hp_S} {x : Int32} {g : lf_W → lf_R} (h : s < 8) : (lf_wf (hp σ, cs) (2 + 2 * s) 5 1 0 (.int x)).bind g = g (hp (hp_wf σ (2 + 2 * s) 1 x), cs) := by rw [hp_swf (lay_net h) rfl rfl, Option.bind_some]
theorem sN_w2 {σ : hp_S} {x : Int32} {g : lf_W → lf_R} (h : s < 8) : (lf_wf (hp σ, cs) (2 + 2 * s) 5 2 0 (.int x)).bind g = g (hp (hp_wf σ (2 + 2 * s) 2 x), cs) := by rw [hp_swf (lay_net h) rfl rfl, Option.bind_some]
/-- what grows -/
def gst (M : Nat) (f : Nat → Int32) (n : Nat) : gq := gIx M f n (lq f n 0 n) (lq f n 0 n).length 0 (1000001, none)
def dM (d M : Nat) : Nat := if d < 2 * M then 2 * M else d
end GP
