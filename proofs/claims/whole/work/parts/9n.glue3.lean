/-! case glued -/
section GK
variable {σ : hp_S} {cs : Nat × Nat} {N : Nat}
theorem m_212_no {x : Int32} (h : no_net σ x) (h0 : σ.2.2.1 72 0 = 0) : f212 N 72 x (hp σ, cs) = some (.inl (some (.int 0)), (hp (hp_wf σ 72 0 1), cs)) := by
  have ef : g212_21 N 72 (hp σ, cs) = some (.inl (some (.int 0)), (hp (hp_wf σ 72 0 1), cs)) := by
    unfold g212_21 g212_22
    rw [o72, m_rf h0 (by decide), lf_ci_r, if_pos (Or.inl rfl)]
  unfold f212
  rcases h with h | h | ⟨s, h1, rfl, h2, h3⟩
  · rw [m_isS_lo h, lf_ci_r, if_pos rfl, ef]
  · rw [m_isS_hi h, lf_ci_r, if_pos rfl, ef]
  · rw [m_isS_in h1, lf_ci_r, if_neg (by decide), r72_1, a73 h1, h3, if_pos (by decide), ef]
theorem m_212_in {s : Nat} (h : s < 8) (h1 : ¬ σ.1 73 s ≤ 0) (h0 : σ.2.2.1 72 0 = 0) : f212 N 72 (nI s) (hp σ, cs) = some (.inl (some (.int 1)), (hp σ, cs)) := by
  unfold f212 g212_22
  rw [m_isS_in h, lf_ci_r, if_neg (by decide), r72_1, a73 h, if_neg h1, o72, m_rt h0 (by decide), lf_ci_r, if_pos (Or.inr rfl)]
theorem c_become8 {r : Nat} (hr : r < 8) : f52 N (2 + 2 * r) 18 (hp σ, cs) = some (.inl none, (hp (c_bc σ r 8), cs)) := by
  unfold f52
  rw [i18_1, hp_swf (lay_net hr) (k := 1) rfl rfl, Option.bind_some, i18_2, hp_wf_ne (by omega), hp_swf (lay_net hr) (k := 2) rfl rfl, Option.bind_some, r18_0, c_rw hr, Option.bind_some, hp_scp (lay_row hr) rfl, Option.bind_some]
  rfl
theorem m_cl_fr {n dg : Int32} : fr [76] [(72, 4), (72, 5)] σ (m_cl σ n dg) := ((fr.wf (k := 4) (by decide)).tr (fr.wf (k := 5) (by decide))).tr ⟨fun a h => ⟨hp_fill_ne (by simp at h; exact h), rfl⟩, fun a k h => ⟨rfl, rfl⟩⟩
end GK
theorem case_glued {J : iv_J} {rd : iv_rd} {N : Nat} (hN : iv_N N) : iv_caseN J rd N g327_658 := by
  intro sc i σ cs hs hi hI
  have key : ∃ (τ : hp_S) (ds : Nat × Nat), iv J τ ∧ ds.1 ≤ cs.1 + 1 ∧ ds.2 ≤ cs.2 + 6 ∧ ∀ k : lf_W → lf_R, tl_Z (tc_Z [("java/util/NoSuchElementException", 1)] (f137 N 0 (sc.2 (i + 1)) (sc.2 (i + 2)) (sc.2 (i + 3)) (sc.2 (i + 4)) (hp σ, cs))) (fun w => f214 N 72 (sc.2 (i + 1)) (sc.2 (i + 2)) (sc.2 (i + 3)) (sc.2 (i + 4)) w) k = k (hp τ, ds) := by
    generalize sc.2 (i + 1) = y
    generalize sc.2 (i + 2) = Z
    generalize sc.2 (i + 3) = x1
    generalize sc.2 (i + 4) = x2
    have bad : ∀ (F : lf_W → lf_R), f137 N 0 y Z x1 x2 (hp σ, cs) = lf_thr "java/util/NoSuchElementException" (hp σ, cs) → F (hp σ, (cs.1 + 1, cs.2 + 6)) = some (.inl (some (.int 0)), (hp (hp_wf (hp_wf σ 72 0 0) 72 0 1), (cs.1 + 1, cs.2 + 6))) → ∃ (τ : hp_S) (ds : Nat × Nat), iv J τ ∧ ds.1 ≤ cs.1 + 1 ∧ ds.2 ≤ cs.2 + 6 ∧ ∀ k : lf_W → lf_R, tl_Z (tc_Z [("java/util/NoSuchElementException", 1)] (f137 N 0 y Z x1 x2 (hp σ, cs))) F k = k (hp τ, ds) := by
      intro F h1 h2
      refine ⟨hp_wf (hp_wf σ 72 0 0) 72 0 1, (cs.1 + 1, cs.2 + 6), hI.kept (iv_k0.tr iv_k0), Nat.le_refl _, Nat.le_refl _, fun k => ?_⟩
      exact tl_Z_ok (σ := σ) (kx := 1) (b := 0) (tc_Z_thr (E := "java/util/NoSuchElementException") (q := ("java/util/NoSuchElementException", 1)) h1 rfl) h2 hp_wf_at (fun q => absurd q (by decide))
    rcases iv_view hI x1 with h | ⟨s, p, d, hs8, rfl, hf, hv, -⟩
    · refine bad _ ?_ ?_
      · unfold f137
        rw [o0, c_held_no h]
        rfl
      · show f214 N 72 y Z x1 x2 (hp σ, _) = _
        unfold f214
        rw [w72_0, o72, m_212_no (h.kept iv_k0) hp_wf_at, lf_ci_r, if_pos rfl]
    have hn1 := hf.1
    have hne : ¬ σ.2.2.1 (2 + 2 * s) 1 = 0 := by rw [hv.1]; exact nI_ne0 (by omega) (by have := hf.2.1; omega)
    have q73 : σ.1 73 s = nI p := (hI.1 s hs8).1.symm.trans hv.1
    have q74 : σ.1 74 s = nI d := (hI.1 s hs8).2.1.symm.trans hv.2.1
    have n73 : ¬ nI p ≤ 0 := nI_pos1 hf.1 hf.2.1
    rcases iv_view hI x2 with h | ⟨t, q, e, ht8, rfl, hg, hw, -⟩
    · refine bad _ ?_ ?_
      · unfold f137
        rw [o0, c_held hs8 hne, lf_cr_r, o0, c_held_no h]
        rfl
      · show f214 N 72 y Z (nI s) x2 (hp σ, _) = _
        unfold f214
        rw [w72_0, o72, m_212_in (σ := hp_wf σ 72 0 0) hs8 (by show ¬ σ.1 73 s ≤ 0; rw [q73]; exact n73) hp_wf_at, lf_ci_r, if_neg (by decide), o72, m_212_no (h.kept iv_k0) hp_wf_at, lf_ci_r, if_neg (fun z => z rfl)]
    have hne2 : ¬ σ.2.2.1 (2 + 2 * t) 1 = 0 := by rw [hw.1]; exact nI_ne0 (by have := hg.1; omega) (by have := hg.2.1; omega)
    have r73 : σ.1 73 t = nI q := (hI.1 t ht8).1.symm.trans hw.1
    have r74 : σ.1 74 t = nI e := (hI.1 t ht8).2.1.symm.trans hw.2.1
    have m73 : ¬ nI q ≤ 0 := nI_pos1 hg.1 hg.2.1
    have hp24 := hf.2.1
    have hq24 := hg.2.1
    have hd8 := hf.2.2.2.1
    have he8 := hg.2.2.2.1
    have hpq2 : p * q ≤ 24 * 24 := Nat.mul_le_mul hp24 hq24
    have preC : f137 N 0 y Z (nI s) (nI t) (hp σ, cs) = lf_ci (f168 N y (hp σ, cs)) fun v18 w15 => if v18 = 0 then (some (.inl (some (.int 0)), w15)) else (if Z < 0 then (some (.inl (some (.int 0)), w15)) else (if Z ≤ 1 then ((lf_fi w15 (2 + 2 * s) 5 1).bind fun v22 => (lf_fi w15 (2 + 2 * t) 5 1).bind fun v24 => if 24 < (v22 * v24) then (some (.inl (some (.int 0)), w15)) else ((lf_fi w15 (2 + 2 * s) 5 2).bind fun v27 => (lf_fi w15 (2 + 2 * t) 5 2).bind fun v29 => if (v27 + v29) ≤ 8 then ((lf_fr w15 0 11 1).bind fun v32 => if ¬ Z = 1 then (g137_81 N 0 y (2 + 2 * s) (2 + 2 * t) 0 v32 w15) else (g137_81 N 0 y (2 + 2 * s) (2 + 2 * t) 1 v32 w15)) else (some (.inl (some (.int 0)), w15)))) else (some (.inl (some (.int 0)), w15)))) := by
      unfold f137
      rw [o0, c_held hs8 hne, lf_cr_r, o0, c_held ht8 hne2, lf_cr_r]
    have preM : ∀ (σ2 : hp_S) (ds : Nat × Nat), σ2.1 73 = σ.1 73 → σ2.1 74 = σ.1 74 → f214 N 72 y Z (nI s) (nI t) (hp σ2, ds) = lf_ci (f177 N y (hp (hp_wf σ2 72 0 0), ds)) fun v38 w35 => if v38 = 0 then (some (.inl (some (.int 0)), w35)) else (if Z = 0 then (g214_73 N 72 y Z (nI s) (nI t) (nI p) (nI q) (nI (d + e)) w35) else (if ¬ Z = 1 then (some (.inl (some (.int 0)), w35)) else (g214_73 N 72 y Z (nI s) (nI t) (nI p) (nI q) (nI (d + e)) w35))) := by
      intro σ2 ds k1 k2
      unfold f214
      rw [w72_0, o72, m_212_in (σ := hp_wf σ2 72 0 0) hs8 (by show ¬ σ2.1 73 s ≤ 0; rw [k1, q73]; exact n73) hp_wf_at, lf_ci_r, if_neg (by decide), o72, m_212_in (σ := hp_wf σ2 72 0 0) ht8 (by show ¬ σ2.1 73 t ≤ 0; rw [k1, r73]; exact m73) hp_wf_at, lf_ci_r, if_pos (by decide), r72_1, a73 hs8, r72_1, a73 ht8, r72_2, a74 hs8, r72_2, a74 ht8]
      rw [show (hp_wf σ2 72 0 0).1 73 s = nI p from by show σ2.1 73 s = _; rw [k1, q73], show (hp_wf σ2 72 0 0).1 73 t = nI q from by show σ2.1 73 t = _; rw [k1, r73], show (hp_wf σ2 72 0 0).1 74 s = nI d from by show σ2.1 74 s = _; rw [k2, q74], show (hp_wf σ2 72 0 0).1 74 t = nI e from by show σ2.1 74 t = _; rw [k2, r74], nI_add]
    have none : f137 N 0 y Z (nI s) (nI t) (hp σ, cs) = some (.inl (some (.int 0)), (hp σ, cs)) → f214 N 72 y Z (nI s) (nI t) (hp (hp_wl σ 117 0 0), cs) = some (.inl (some (.int 0)), (hp (hp_wf (hp_wl σ 117 0 0) 72 0 0), cs)) → ∃ (τ : hp_S) (ds : Nat × Nat), iv J τ ∧ ds.1 ≤ cs.1 + 1 ∧ ds.2 ≤ cs.2 + 6 ∧ ∀ k : lf_W → lf_R, tl_Z (tc_Z [("java/util/NoSuchElementException", 1)] (f137 N 0 y Z (nI s) (nI t) (hp σ, cs))) (fun w => f214 N 72 y Z (nI s) (nI t) w) k = k (hp τ, ds) := by
      intro h1 h2
      refine ⟨hp_wf (hp_wl σ 117 0 0) 72 0 0, cs, (hI.kept iv_kept.wl).kept iv_k0, Nat.le_add_right _ _, Nat.le_add_right _ _, fun k => ?_⟩
      exact tl_Z_ok (σ := hp_wl σ 117 0 0) (kx := 0) (b := 0) (tc_Z_ret (σ := σ) (v := 0) h1) h2 hp_wf_at (fun _ => by show (hp_wl σ 117 0 0).2.1 117 0 = _; rw [tl_wl_at]; rfl)
    have pm := preM (hp_wl σ 117 0 0) cs rfl rfl
    rcases pk_ix y (n := 8) (by omega) with hy | hy | ⟨r, hr, rfl⟩
    · refine none ?_ ?_
      · rw [preC, c_isS_lo hy, lf_ci_r, if_pos rfl]
      · rw [pm, m_isS_lo hy, lf_ci_r, if_pos rfl]
    · refine none ?_ ?_
      · rw [preC, c_isS_hi hy, lf_ci_r, if_pos rfl]
      · rw [pm, m_isS_hi hy, lf_ci_r, if_pos rfl]
    rw [c_isS_in hr, lf_ci_r, if_neg (by decide)] at preC
    rw [m_isS_in hr, lf_ci_r, if_neg (by decide)] at pm
    rcases (Classical.em (Z = 0 ∨ Z = 1)).symm with hZ | hZ
    · refine none ?_ ?_
      · rw [preC]
        by_cases c1 : Z < 0
        · rw [if_pos c1]
        · rw [if_neg c1, if_neg]
          intro c2
          rw [fa_lt] at c1
          rw [fa_le] at c2
          have e1 : (1 : Int32).toInt = 1 := rfl
          have e2 : (0 : Int32).toInt = 0 := rfl
          apply hZ
          rcases (show Z.toInt = 0 ∨ Z.toInt = 1 by omega) with z | z
          · exact Or.inl (Int32.toInt_inj.mp (z.trans e2.symm))
          · exact Or.inr (Int32.toInt_inj.mp (z.trans e1.symm))
      · rw [pm, if_neg (fun z => hZ (Or.inl z)), if_pos (fun z => hZ (Or.inr z))]
    have z1 : ¬ Z < 0 := by rcases hZ with rfl | rfl <;> decide
    have z2 : Z ≤ 1 := by rcases hZ with rfl | rfl <;> decide
    have zz : ∀ (X : Int32 → lf_R), (if ¬ Z = 1 then X 0 else X 1) = X Z := by
      intro X
      rcases hZ with rfl | rfl
      · rw [if_pos (by decide)]
      · rw [if_neg (fun z => z rfl)]
    have preM' : ∀ (σ2 : hp_S) (ds : Nat × Nat), σ2.1 73 = σ.1 73 → σ2.1 74 = σ.1 74 → f214 N 72 (nI r) Z (nI s) (nI t) (hp σ2, ds) = g214_73 N 72 (nI r) Z (nI s) (nI t) (nI p) (nI q) (nI (d + e)) (hp (hp_wf σ2 72 0 0), ds) := by
      intro σ2 ds k1 k2
      rw [preM σ2 ds k1 k2, m_isS_in hr, lf_ci_r, if_neg (by decide)]
      rcases hZ with rfl | rfl
      · rw [if_pos rfl]
      · rw [if_neg (by decide), if_neg (fun z => z rfl)]
    have pm2 := preM' (hp_wl σ 117 0 0) cs rfl rfl
    rw [if_neg z1, if_pos z2, sN_1 hs8, hv.1, sN_1 ht8, hw.1, pk_mul] at preC
    rcases (Classical.em (p * q ≤ 24)).symm with hpq | hpq
    · refine none ?_ ?_
      · rw [preC, if_pos (show (24 : Int32) < nI (p * q) from nI_lt (a := 24) (by omega) (by omega))]
      · rw [pm2]
        unfold g214_73
        rw [pk_mul, if_pos (show (24 : Int32) < nI (p * q) from nI_lt (a := 24) (by omega) (by omega))]
    rw [if_neg (show ¬ (24 : Int32) < nI (p * q) from nI_nlt (a := 24) (by omega) (by omega)), sN_2 hs8, hv.2.1, sN_2 ht8, hw.2.1, nI_add] at preC
    rcases (Classical.em (d + e ≤ 8)).symm with hde | hde
    · refine none ?_ ?_
      · rw [preC, if_neg (show ¬ nI (d + e) ≤ (8 : Int32) from nI_ge (a := 8) (by omega) (by omega))]
      · rw [pm2]
        unfold g214_73
        rw [pk_mul, if_neg (show ¬ (24 : Int32) < nI (p * q) from nI_nlt (a := 24) (by omega) (by omega)), if_neg (show ¬ nI (d + e) ≤ (8 : Int32) from nI_ge (a := 8) (by omega) (by omega))]
    rw [if_pos (show nI (d + e) ≤ (8 : Int32) from nI_le (b := 8) (by omega) (by omega)), r0_1, zz (fun z => g137_81 N 0 (nI r) (2 + 2 * s) (2 + 2 * t) z 18 (hp σ, cs))] at preC
    obtain ⟨τ, t1, t2, t3, t4, t5⟩ := c_glue (σ := σ) (cs := cs) (N := N) (Z := Z) hs8 ht8 hN hf hg hpq hv hw
    have hC : f137 N 0 (nI r) Z (nI s) (nI t) (hp σ, cs) = some (.inl (some (.int 1)), (hp (c_bc τ r 8), cs)) := by
      rw [preC]
      unfold g137_81
      rw [o18, t5, lf_cv_r, c_slots, Option.bind_some, c_slot hr, Option.bind_some, r0_1, sN_o hr, c_become8 hr, lf_cv_r]
    have e73 : ∀ a, a = 73 ∨ a = 74 ∨ a = 75 → (hp_wl (c_bc τ r 8) 117 0 1).1 a = σ.1 a := fun a ha => by
      show (c_bc τ r 8).1 a = _
      rw [c_bc_i (by omega), t1.r (by simp; omega)]
    have w0 : fr [76] [(72, 0), (72, 4), (72, 5)] (hp_wl (c_bc τ r 8) 117 0 1) (m_cl (hp_wf (hp_wl (c_bc τ r 8) 117 0 1) 72 0 0) (nI (p * q)) (nI (d + e))) := (fr.wf (k := 0) (by decide)).tr (m_cl_fr.wk (fun _ z => z) (fun _ z => List.mem_cons_of_mem _ z))
    obtain ⟨υ, v1, v2, v3, v4, v5⟩ := m_gY (cs := cs) (N := N) (Z := Z) (x1 := nI r) hs8 ht8 hN hf hg hpq q 0 N (m_cl (hp_wf (hp_wl (c_bc τ r 8) 117 0 1) 72 0 0) (nI (p * q)) (nI (d + e))) (by omega) (by unfold iv_N at hN; omega) (fun k i hk z => by
      rw [show (m_cl (hp_wf (hp_wl (c_bc τ r 8) 117 0 1) 72 0 0) (nI (p * q)) (nI (d + e))).1 76 k = 0 from hp_fill_at hk] at z
      exact absurd z (b_nothing.mp rfl _)) (fun k hk => by
      rw [w0.r (by decide), e73 75 (by omega)]
      exact ((hI.1 s hs8).2.2.1 k hk).symm) (fun k hk => by
      rw [w0.r (by decide), e73 75 (by omega)]
      exact ((hI.1 t ht8).2.2.1 k hk).symm)
    have hrow := m_rows hf hg hpq v2 (fun y x a b => v4 y x (Nat.zero_le _) a b) t2.1
    have hgw := gB_GW hf hg hpq hde t2.1 t2.2
    have w1 : fr [76] [(72, 0), (72, 4), (72, 5)] (hp_wl (c_bc τ r 8) 117 0 1) υ := w0.tr (v1.wk (fun _ z => z) (fun _ z => absurd z List.not_mem_nil))
    have hk2 : iv_kept (hp_wl (c_bc τ r 8) 117 0 1) υ := w1.kept rfl rfl
    refine ⟨m_kp υ r, cs, ?_, Nat.le_add_right _ _, Nat.le_add_right _ _, fun k => ?_⟩
    · have hc : iv_rest τ (c_bc τ r 8) := ⟨fun a q => c_bc_i (by omega), c_bc_f (by omega), c_bc_f (by omega), fun k _ => c_bc_f (by omega), c_bc_f (by omega), c_bc_f (by omega), fun k _ => c_bc_f (by omega), id⟩
      have hk1 : iv_kept σ τ := t1.kept rfl rfl
      refine hI.put2 (n := nI (p * q)) (dg := nI (d + e)) (f := τ.1 19) hr (hk1.rest.tr (hc.tr (iv_kept.wl.rest.tr hk2.rest))) (fun t' ht' z => ⟨?_, ?_, ?_⟩) ⟨?_, ?_, ?_⟩ ?_ ?_ (fun k hk => ?_) ?_ ?_ (fun k hk => ?_) hgw.wf
      · rw [hk2.2.1 _ (by omega)]
        exact (c_bc_f (by omega)).trans (t1.f (by simp; omega))
      · rw [hk2.2.1 _ (by omega)]
        exact (c_bc_f (by omega)).trans (t1.f (by simp; omega))
      · rw [hk2.1 _ (by omega)]
        exact (c_bc_i (by omega)).trans (t1.r (by simp; omega))
      · rw [hk2.1 _ (by omega)]; exact e73 73 (by omega)
      · rw [hk2.1 _ (by omega)]; exact e73 74 (by omega)
      · rw [hk2.1 _ (by omega)]; exact e73 75 (by omega)
      · rw [hk2.2.1 _ (by omega)]; exact c_bc_1.trans t3
      · rw [hk2.2.1 _ (by omega)]; exact c_bc_2.trans t4
      · rw [hk2.1 _ (by omega)]; exact c_bc_j hk
      · rw [v1.f List.not_mem_nil]
        show (hp_wf (hp_wf (hp_wf (hp_wl (c_bc τ r 8) 117 0 1) 72 0 0) 72 4 (nI (p * q))) 72 5 (nI (d + e))).2.2.1 72 4 = _
        rw [hp_wf_ne (by decide), hp_wf_at]
      · rw [v1.f List.not_mem_nil]
        show (hp_wf (hp_wf (hp_wf (hp_wl (c_bc τ r 8) 117 0 1) 72 0 0) 72 4 (nI (p * q))) 72 5 (nI (d + e))).2.2.1 72 5 = _
        rw [hp_wf_at]
      · exact hrow k hk
    · refine tl_Z_ok (σ := hp_wl (c_bc τ r 8) 117 0 1) (kx := 0) (b := 1) (tc_Z_ret (σ := c_bc τ r 8) (v := 1) hC) ?_ ?_ (fun _ => ?_)
      · show f214 N 72 (nI r) Z (nI s) (nI t) (hp (hp_wl (c_bc τ r 8) 117 0 1), cs) = _
        rw [preM' (hp_wl (c_bc τ r 8) 117 0 1) cs (e73 73 (by omega)) (e73 74 (by omega))]
        unfold g214_73
        rw [pk_mul, if_neg (show ¬ (24 : Int32) < nI (p * q) from nI_nlt (a := 24) (by omega) (by omega)), if_pos (show nI (d + e) ≤ (8 : Int32) from nI_le (b := 8) (by omega) (by omega)), o72, m_clears hN, lf_cv_r, show (0 : Int32) = nI 0 from rfl]
        rw [show (nI 0 : Int32) = 0 from rfl] at v5 ⊢
        rw [v5, m_keeps hr hN, lf_cv_r]
      · show υ.2.2.1 72 0 = 0
        rw [v1.f List.not_mem_nil]
        show (hp_wf (hp_wf (hp_wf (hp_wl (c_bc τ r 8) 117 0 1) 72 0 0) 72 4 (nI (p * q))) 72 5 (nI (d + e))).2.2.1 72 0 = _
        rw [hp_wf_ne (by decide), hp_wf_ne (by decide), hp_wf_at]
      · show υ.2.1 117 0 = _
        rw [w1.l (by decide)]
        show (hp_wl (c_bc τ r 8) 117 0 1).2.1 117 0 = _
        rw [tl_wl_at]
        rfl
  obtain ⟨τ, ds, q1, q2, q3, q4⟩ := key
  refine ⟨τ, ds, q1, q2, q3, fun k23 => ?_⟩
  rw [← q4 (k23 (nI i + 6))]
  unfold g327_658 h296 f296
  simp only [iv_s1 hs hi, iv_s2 hs hi, iv_s3 hs hi, iv_s4 hs hi, Option.bind_some, if_pos hp_x]
  rfl
