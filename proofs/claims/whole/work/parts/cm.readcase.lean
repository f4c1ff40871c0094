/-! case 4: read -/
/-- the class's become, from the reader's net -/
def c_b21 (σ : hp_S) (r : Nat) : hp_S := hp_fill (hp_wf (hp_wf σ (2 + 2 * r) 1 (σ.2.2.1 21 1)) (2 + 2 * r) 2 (σ.2.2.1 21 2)) (3 + 2 * r) 24 (σ.1 22)
section RCS
variable {cs : Nat × Nat} {N n s r : Nat} {B : Nat → Nat} {σ : hp_S}
theorem c_become21 (hr : r < 8) : f52 N (2 + 2 * r) 21 (hp σ, cs) = some (.inl none, (hp (c_b21 σ r), cs)) := by
  unfold f52
  rw [i21_1, hp_swf (lay_net hr) (k := 1) rfl rfl, Option.bind_some, i21_2, hp_wf_ne (by omega), hp_swf (lay_net hr) (k := 2) rfl rfl, Option.bind_some, r21_0, c_rw hr, Option.bind_some, hp_scp (lay_row hr) rfl, Option.bind_some]
  rfl
theorem c_b21_f {b k : Nat} (h : ¬ (b = 2 + 2 * r ∧ (k = 1 ∨ k = 2))) : (c_b21 σ r).2.2.1 b k = σ.2.2.1 b k := by
  show (hp_wf (hp_wf σ (2 + 2 * r) 1 (σ.2.2.1 21 1)) (2 + 2 * r) 2 (σ.2.2.1 21 2)).2.2.1 b k = _
  rw [hp_wf_ne (by omega), hp_wf_ne (by omega)]
theorem c_b21_1 : (c_b21 σ r).2.2.1 (2 + 2 * r) 1 = σ.2.2.1 21 1 := by
  show (hp_wf (hp_wf σ (2 + 2 * r) 1 (σ.2.2.1 21 1)) (2 + 2 * r) 2 (σ.2.2.1 21 2)).2.2.1 (2 + 2 * r) 1 = _
  rw [hp_wf_ne (by omega), hp_wf_at]
theorem c_b21_2 : (c_b21 σ r).2.2.1 (2 + 2 * r) 2 = σ.2.2.1 21 2 := by
  show (hp_wf (hp_wf σ (2 + 2 * r) 1 (σ.2.2.1 21 1)) (2 + 2 * r) 2 (σ.2.2.1 21 2)).2.2.1 (2 + 2 * r) 2 = _
  rw [hp_wf_at]
theorem c_b21_i {a : Nat} (h : a ≠ 3 + 2 * r) : (c_b21 σ r).1 a = σ.1 a := hp_fill_ne h
theorem c_b21_j {k : Nat} (h : k < 24) : (c_b21 σ r).1 (3 + 2 * r) k = σ.1 22 k := hp_fill_at h
/-- all that a reading may change, but for the slot -/
theorem iv_rdg {J : iv_J} {υ : hp_S} (hI : iv J σ) (W : fr [22, 24, 76, 78, 117] [(20, 3), (20, 4), (20, 5), (20, 6), (20, 7), (20, 8), (20, 9), (20, 10), (20, 11), (21, 1), (21, 2), (72, 0), (72, 4), (72, 5), (72, 8), (72, 9), (72, 10), (72, 11), (72, 12), (72, 13), (72, 14), (72, 15), (72, 16), (72, 17), (72, 19)] σ υ) (h5 : υ.2.2.1 20 5 = 0) (h8 : υ.2.2.1 72 8 = 0) (hf : υ.2.2.1 20 6 = υ.2.2.1 72 10) : iv J υ := by
  obtain ⟨h1, h2, h3, h4, h5', h6, h7, h8'⟩ := hI
  refine ⟨h1.fr (fun s hs => ⟨W.f (by simp <;> omega), W.f (by simp <;> omega), W.r (by simp <;> omega)⟩) (W.r (by decide)) (W.r (by decide)) (W.r (by decide)), ⟨0, by omega, h5, h8, fun j hj => absurd hj (Nat.not_lt_zero j)⟩, hf, h4.fr (fun k hk => W.f (by simp <;> omega)) (fun k k1 k2 => W.f (by simp <;> omega)), h5'.fr (W.f (by decide)) (W.f (by decide)) (W.r (by decide)) (W.r (by decide)), h6.fr (W.f (by decide)) (W.f (by decide)) (W.r (by decide)) (W.r (by decide)), ?_, ⟨by rw [W.g (by decide), W.g (by decide)]; exact h8'.1, by rw [W.g (by decide), W.g (by decide)]; exact h8'.2.1, by rw [W.g (by decide), W.g (by decide)]; exact h8'.2.2⟩⟩
  rw [iv_cs.fr (fun a ha => W.r (by rcases ha with rfl | rfl | rfl | rfl | rfl | rfl | rfl | rfl | rfl <;> decide))]
  exact h7
/-- a state with the slot's net as it was -/
def rd_ps (σ υ : hp_S) (s : Nat) : hp_S := ((fun a => if a = 3 + 2 * s then σ.1 a else υ.1 a), υ.2.1, (fun a => if a = 2 + 2 * s then σ.2.2.1 a else υ.2.2.1 a), υ.2.2.2)
theorem rd_ps_r {υ : hp_S} {a : Nat} (h : a ≠ 3 + 2 * s) : (rd_ps σ υ s).1 a = υ.1 a := if_neg h
theorem rd_ps_f {υ : hp_S} {a : Nat} (h : a ≠ 2 + 2 * s) : (rd_ps σ υ s).2.2.1 a = υ.2.2.1 a := if_neg h
theorem rd_ps_r1 {υ : hp_S} : (rd_ps σ υ s).1 (3 + 2 * s) = σ.1 (3 + 2 * s) := if_pos rfl
theorem rd_ps_f1 {υ : hp_S} : (rd_ps σ υ s).2.2.1 (2 + 2 * s) = σ.2.2.1 (2 + 2 * s) := if_pos rfl
end RCS
theorem case_read {J : iv_J} {N : Nat} (hN : iv_N N) : iv_caseN J (h295 N) N g327_504 := by
  intro sc i σ cs hs hi hI
  have key : ∃ (τ : hp_S) (ds : Nat × Nat), iv J τ ∧ ds.1 ≤ cs.1 + 1 ∧ ds.2 ≤ cs.2 + 6 ∧ ∀ k : lf_W → lf_R, tl_I (tc_I [("java/util/NoSuchElementException", 1), ("java/lang/IllegalArgumentException", 2)] (f134 N 0 (sc.2 (i + 1)) (sc.2 (i + 2)) (hp σ, cs))) (fun w => f205 N 72 (sc.2 (i + 1)) (sc.2 (i + 2)) w) k = k (hp τ, ds) := by
    generalize sc.2 (i + 1) = x
    generalize sc.2 (i + 2) = y
    obtain ⟨t, ht, t5, t8, tj⟩ := id hI.2.1
    rcases pk_ix x (n := 8) (by omega) with hx | hx | ⟨s, hs8, rfl⟩
    · refine n_askI hI (Or.inr ⟨"java/util/NoSuchElementException", 1, σ, iv_kept.rf σ, by decide, rfl, ?_, fun σ' ds hI' hk => ⟨hp_wf (hp_wf σ' 72 0 0) 72 0 1, 0, iv_k0.tr iv_k0, hp_wf_at, ?_⟩⟩)
      · unfold f134
        rw [c_isS_lo hx, lf_ci_r, if_neg (by decide)]
      · show f205 N 72 x y (hp σ', ds) = _
        unfold f205
        rw [w72_0, m_isS_lo hx, lf_ci_r, o72, m_rf hp_wf_at (by decide), lf_ci_r, if_pos rfl]
    · refine n_askI hI (Or.inr ⟨"java/util/NoSuchElementException", 1, σ, iv_kept.rf σ, by decide, rfl, ?_, fun σ' ds hI' hk => ⟨hp_wf (hp_wf σ' 72 0 0) 72 0 1, 0, iv_k0.tr iv_k0, hp_wf_at, ?_⟩⟩)
      · unfold f134
        rw [c_isS_hi hx, lf_ci_r, if_neg (by decide)]
      · show f205 N 72 x y (hp σ', ds) = _
        unfold f205
        rw [w72_0, m_isS_hi hx, lf_ci_r, o72, m_rf hp_wf_at (by decide), lf_ci_r, if_pos rfl]
    · rcases pk_ix y (n := t + 1) (by omega) with hy | hy | ⟨n, hn1, rfl⟩
      · refine n_askI hI (Or.inr ⟨"java/lang/IllegalArgumentException", 2, σ, iv_kept.rf σ, by decide, rfl, ?_, fun σ' ds hI' hk => ⟨hp_wf (hp_wf σ' 72 0 0) 72 0 2, 0, iv_k0.tr iv_k0, hp_wf_at, ?_⟩⟩)
        · unfold f134
          rw [c_isS_in hs8, lf_ci_r, if_pos (by decide), if_pos hy]
        · show f205 N 72 (nI s) y (hp σ', ds) = _
          unfold f205
          rw [w72_0, m_isS_in hs8, lf_ci_r, o72, m_rt hp_wf_at (by decide), lf_ci_r, if_neg (by decide), if_pos hy]
          unfold g205_34 g205_35
          rw [o72, m_rf hp_wf_at (by decide), lf_ci_r, if_neg (by decide)]
      · have y0 : ¬ y < 0 := by
          intro q
          rw [fa_lt] at q
          rw [fa_le, nI_toInt (by omega)] at hy
          have h0 : (0 : Int32).toInt = 0 := rfl
          omega
        have y1 : ¬ y ≤ nI t := by
          intro q
          rw [fa_le, nI_toInt (by omega)] at q
          rw [fa_le, nI_toInt (by omega)] at hy
          omega
        have y2 : nI t < y := by
          rw [fa_lt, nI_toInt (by omega)]
          rw [fa_le, nI_toInt (by omega)] at hy
          omega
        refine n_askI hI (Or.inr ⟨"java/lang/IllegalArgumentException", 2, σ, iv_kept.rf σ, by decide, rfl, ?_, fun σ' ds hI' hk => ⟨hp_wf (hp_wf σ' 72 0 0) 72 0 2, 0, iv_k0.tr iv_k0, hp_wf_at, ?_⟩⟩)
        · unfold f134
          rw [c_isS_in hs8, lf_ci_r, if_pos (by decide), if_neg y0, r0_2, i20_5, t5, if_neg y1]
        · have e8 : σ'.2.2.1 72 8 = nI t := (hk.2.2.2.2.2.2.2.1 8 (by omega)).trans t8
          show f205 N 72 (nI s) y (hp σ', ds) = _
          unfold f205
          rw [w72_0, m_isS_in hs8, lf_ci_r, o72, m_rt hp_wf_at (by decide), lf_ci_r, if_neg (by decide), if_neg y0, i72_8, hp_wf_ne (by decide), e8, if_pos y2]
          unfold g205_34 g205_35
          rw [o72, m_rf hp_wf_at (by decide), lf_ci_r, if_neg (by decide)]
      · have hB : TB (fun j => if j < n then (σ.1 23 j).toNatClampNeg else 0) n := by
          refine ⟨by omega, fun j => ?_, fun j hj => if_neg (by omega)⟩
          show (if j < n then (σ.1 23 j).toNatClampNeg else 0) < 256
          by_cases c : j < n
          · obtain ⟨b, b1, b2⟩ := (tj j (by omega)).2
            rw [if_pos c, b2, nI_clamp (by omega)]
            exact b1
          · rw [if_neg c]
            omega
        have h23 : ∀ j, j < n → σ.1 23 j = nI ((fun j => if j < n then (σ.1 23 j).toNatClampNeg else 0) j) := by
          intro j hj
          show _ = nI (if j < n then (σ.1 23 j).toNatClampNeg else 0)
          obtain ⟨b, b1, b2⟩ := (tj j (by omega)).2
          rw [if_pos hj, b2, nI_clamp (by omega)]
        have h77 : ∀ j, j < n → σ.1 77 j = nI ((fun j => if j < n then (σ.1 23 j).toNatClampNeg else 0) j) := fun j hj => by
          rw [← (tj j (by omega)).1]
          exact h23 j hj
        generalize (fun j => if j < n then (σ.1 23 j).toNatClampNeg else 0) = B at hB h23 h77
        obtain ⟨v6, vp, v0⟩ := rdT_ok (B := B) (n := n)
        obtain ⟨τ1, q1, q2, q3, q4, q5⟩ := c_parse (N := N) (cs := cs) hN hB h23
        have pre : f134 N 0 (nI s) (nI n) (hp σ, cs) = if ¬ nI (rdT B n).1 = 0 then (some (.inl (some (.int (nI (rdT B n).1))), (hp τ1, cs))) else (lf_cv (f52 N (2 + 2 * s) 21 (hp τ1, cs)) fun w30 => some (.inl (some (.int (nI (rdT B n).1))), w30)) := by
          unfold f134
          rw [c_isS_in hs8, lf_ci_r, if_pos (by decide), if_neg (nI_pos (by omega)), r0_2, i20_5, t5, if_pos (nI_le (by omega) (by omega)), r0_2, o20, q5, lf_ci_r, r0_0, c_slot hs8, Option.bind_some, r0_2, r20_0, if_pos (c_is hs8)]
        by_cases c : (rdT B n).1 = 0
        · obtain ⟨w1, w2, w3, w4, w5⟩ := v0 c
          obtain ⟨n1, n2, n3⟩ := q4 c
          have hcl : f134 N 0 (nI s) (nI n) (hp σ, cs) = some (.inl (some (.int (nI (rdT B n).1))), (hp (c_b21 τ1 s), cs)) := by
            rw [pre, if_neg (show ¬ ¬ nI (rdT B n).1 = 0 from fun q => q (by rw [c]; rfl)), c_become21 hs8, lf_cv_r]
          obtain ⟨τ2, r1, r2, r3, r4, r5⟩ := m_read (N := N) (cs := cs) (s := s) (t := t) (σ := hp_wl (c_b21 τ1 s) 117 0 (nI (rdT B n).1).toInt64) hN hs8 hB (by omega) ht (fun j hj => by
            show (c_b21 τ1 s).1 77 j = _
            rw [c_b21_i (by omega), q1.r (by decide)]
            exact h77 j hj) (by
            show (c_b21 τ1 s).2.2.1 72 8 = _
            rw [c_b21_f (by omega), q1.f (by decide)]
            exact t8)
          rw [if_pos c] at r5
          obtain ⟨z4, z5, z6⟩ := r4.2.2 c
          have W : fr [22, 24, 76, 78, 117] [(20, 3), (20, 4), (20, 5), (20, 6), (20, 7), (20, 8), (20, 9), (20, 10), (20, 11), (21, 1), (21, 2), (72, 0), (72, 4), (72, 5), (72, 8), (72, 9), (72, 10), (72, 11), (72, 12), (72, 13), (72, 14), (72, 15), (72, 16), (72, 17), (72, 19)] σ (rd_ps σ τ2 s) := by
            have Q : fr [22, 24, 76, 78, 117] [(20, 3), (20, 4), (20, 5), (20, 6), (20, 7), (20, 8), (20, 9), (20, 10), (20, 11), (21, 1), (21, 2), (72, 0), (72, 4), (72, 5), (72, 8), (72, 9), (72, 10), (72, 11), (72, 12), (72, 13), (72, 14), (72, 15), (72, 16), (72, 17), (72, 19)] σ τ1 := q1.wk (by decide) (by decide)
            have R : fr [22, 24, 76, 78, 117] [(20, 3), (20, 4), (20, 5), (20, 6), (20, 7), (20, 8), (20, 9), (20, 10), (20, 11), (21, 1), (21, 2), (72, 0), (72, 4), (72, 5), (72, 8), (72, 9), (72, 10), (72, 11), (72, 12), (72, 13), (72, 14), (72, 15), (72, 16), (72, 17), (72, 19)] (hp_wl (c_b21 τ1 s) 117 0 (nI (rdT B n).1).toInt64) τ2 := r1.wk (by decide) (by decide)
            refine ⟨fun a ha => ⟨?_, ?_⟩, fun a k ha => ⟨?_, ?_⟩⟩
            · by_cases d : a = 3 + 2 * s
              · rw [d, rd_ps_r1]
              · rw [rd_ps_r d, R.r ha]
                show (c_b21 τ1 s).1 a = _
                rw [c_b21_i d, Q.r ha]
            · show τ2.2.1 a = _
              rw [R.l ha]
              show (hp_wl (c_b21 τ1 s) 117 0 (nI (rdT B n).1).toInt64).2.1 a = _
              have d : a ≠ 117 := fun q => ha (by rw [q]; decide)
              have e1 : (hp_wl (c_b21 τ1 s) 117 0 (nI (rdT B n).1).toInt64).2.1 a = τ1.2.1 a := hp_up_ne d
              rw [e1, Q.l ha]
            · by_cases d : a = 2 + 2 * s
              · rw [d, rd_ps_f1]
              · rw [rd_ps_f d, R.f ha]
                show (c_b21 τ1 s).2.2.1 a k = _
                rw [c_b21_f (fun q => d q.1), Q.f ha]
            · show τ2.2.2.2 a k = _
              rw [R.g ha]
              show τ1.2.2.2 a k = _
              rw [Q.g ha]
          have p5 : (rd_ps σ τ2 s).2.2.1 20 5 = 0 := by
            rw [rd_ps_f (by omega), r1.f (by decide)]
            show (c_b21 τ1 s).2.2.1 20 5 = _
            rw [c_b21_f (by omega)]
            exact q2
          have p8 : (rd_ps σ τ2 s).2.2.1 72 8 = 0 := by
            rw [rd_ps_f (by omega)]
            exact r3
          have pf : (rd_ps σ τ2 s).2.2.1 20 6 = (rd_ps σ τ2 s).2.2.1 72 10 := by
            rw [rd_ps_f (by omega), rd_ps_f (by omega), r4.2.1, r1.f (by decide)]
            show (c_b21 τ1 s).2.2.1 20 6 = _
            rw [c_b21_f (by omega)]
            exact q3
          have hps := iv_rdg hI W p5 p8 pf
          refine ⟨m_kp τ2 s, cs, ?_, Nat.le_add_right _ _, Nat.le_add_right _ _, fun kk => ?_⟩
          · refine hps.put2 (n := nI (rdN B n (rd1 B n))) (dg := nI (rdN B n (rd3 B n))) (f := (rdT B n).2.2) hs8 ⟨fun a q => (rd_ps_r (by omega)).symm, by rw [rd_ps_f (by omega)], by rw [rd_ps_f (by omega)], fun k _ => by rw [rd_ps_f (by omega)], by rw [rd_ps_f (by omega)], by rw [rd_ps_f (by omega)], fun k _ => by rw [rd_ps_f (by omega)], id⟩ (fun t' ht' q => ⟨by rw [rd_ps_f (by omega)], by rw [rd_ps_f (by omega)], by rw [rd_ps_r (by omega)]⟩) ⟨(rd_ps_r (by omega)).symm, (rd_ps_r (by omega)).symm, (rd_ps_r (by omega)).symm⟩ ?_ ?_ (fun k hk => ?_) z4 z5 z6 (Or.inr ⟨_, _, w1, w2, rfl, w3, w4, rfl, w5.1, w5.2⟩)
            · rw [r1.f (by simp <;> omega)]
              show (c_b21 τ1 s).2.2.1 (2 + 2 * s) 1 = _
              rw [c_b21_1]
              exact n1
            · rw [r1.f (by simp <;> omega)]
              show (c_b21 τ1 s).2.2.1 (2 + 2 * s) 2 = _
              rw [c_b21_2]
              exact n2
            · rw [r1.r (by simp <;> omega)]
              show (c_b21 τ1 s).1 (3 + 2 * s) k = _
              rw [c_b21_j hk]
              exact n3 k hk
          · refine tl_I_ok (tc_I_ret hcl) r5 (show τ2.2.2.1 72 0 = 0 from r2) (fun _ => ?_)
            show τ2.2.1 117 0 = _
            rw [r1.l (by decide), tl_wl_at]
        · have hcl : f134 N 0 (nI s) (nI n) (hp σ, cs) = some (.inl (some (.int (nI (rdT B n).1))), (hp τ1, cs)) := by
            rw [pre, if_pos (nI_z (by omega) c)]
          obtain ⟨τ2, r1, r2, r3, r4, r5⟩ := m_read (N := N) (cs := cs) (s := s) (t := t) (σ := hp_wl τ1 117 0 (nI (rdT B n).1).toInt64) hN hs8 hB (by omega) ht (fun j hj => by
            show τ1.1 77 j = _
            rw [q1.r (by decide)]
            exact h77 j hj) (by
            show τ1.2.2.1 72 8 = _
            rw [q1.f (by decide)]
            exact t8)
          rw [if_neg c] at r5
          have W : fr [22, 24, 76, 78, 117] [(20, 3), (20, 4), (20, 5), (20, 6), (20, 7), (20, 8), (20, 9), (20, 10), (20, 11), (21, 1), (21, 2), (72, 0), (72, 4), (72, 5), (72, 8), (72, 9), (72, 10), (72, 11), (72, 12), (72, 13), (72, 14), (72, 15), (72, 16), (72, 17), (72, 19)] σ τ2 := ((q1.wk (by decide) (by decide)).tr (fr.wl (by decide))).tr (r1.wk (by decide) (by decide))
          refine ⟨τ2, cs, iv_rdg hI W (by rw [r1.f (by decide)]; exact q2) r3 (by rw [r4.2.1, r1.f (by decide)]; exact q3), Nat.le_add_right _ _, Nat.le_add_right _ _, fun kk => ?_⟩
          refine tl_I_ok (tc_I_ret hcl) r5 r2 (fun _ => ?_)
          rw [r1.l (by decide), tl_wl_at]
  obtain ⟨τ, ds, q1, q2, q3, q4⟩ := key
  refine ⟨τ, ds, q1, q2, q3, fun k23 => ?_⟩
  rw [← q4 (k23 (nI i + 6))]
  unfold g327_504 h295 f295
  simp only [iv_s1 hs hi, iv_s2 hs hi, Option.bind_some, if_pos hp_x]
  rfl
