/-! case change -/
theorem c_endsX {σ : hp_S} {cs : Nat × Nat} {N s n d : Nat} {f : Nat → Int32} (hs : s < 8) (hg : GW n d f) (hv : NV σ s n d f) (hN : iv_N N) (y : Int32) : (f62 N (2 + 2 * s) y (hp σ, cs) = some (.inl (some (.int (-1))), (hp σ, cs)) ∧ (y < 0 ∨ nI (lq f n 0 n).length ≤ y)) ∨ ∃ k a b, y = nI k ∧ k < (lq f n 0 n).length ∧ (lq f n 0 n)[k]? = some (a, b) ∧ f62 N (2 + 2 * s) y (hp σ, cs) = some (.inl (some (.int (nI (32 * a + b)))), (hp σ, cs)) := by
  have h96 := hg.l96
  by_cases h : y < 0
  · exact Or.inl ⟨c_ends_neg hs hg.2.1 hg.1 hN hv.1 h, Or.inl h⟩
  · obtain ⟨k, hk, rfl⟩ := nn_of h
    have e := c_ends (cs := cs) hs hg.2.1 hN hv.1 hv.2.2 (fun a ha b hb => hg.bn ha hb) hk
    by_cases hl : k < (lq f n 0 n).length
    · obtain ⟨⟨a, b⟩, hab⟩ : ∃ q, (lq f n 0 n)[k]? = some q := ⟨_, List.getElem?_eq_getElem hl⟩
      rw [hab] at e
      exact Or.inr ⟨k, a, b, rfl, hl, hab, e⟩
    · rw [List.getElem?_eq_none (by omega)] at e
      exact Or.inl ⟨e, Or.inr (nI_le (by omega) hk)⟩
theorem case_change {J : iv_J} {rd : iv_rd} {N : Nat} (hN : iv_N N) : iv_caseN J rd N g327_1398 := by
  intro sc i σ cs hs hi hI
  have key : ∀ z : Int32, z = 0 ∨ z = 1 → ∃ (τ : hp_S) (ds : Nat × Nat), iv J τ ∧ ds.1 ≤ cs.1 + 1 ∧ ds.2 ≤ cs.2 + 6 ∧ ∀ k : lf_W → lf_R, tl_Z (tc_Z [("java/util/NoSuchElementException", 1)] (f147 N 0 (sc.2 (i + 1)) (sc.2 (i + 2)) (sc.2 (i + 3)) z (hp σ, cs))) (fun w => f239 N 72 (sc.2 (i + 1)) (sc.2 (i + 2)) (sc.2 (i + 3)) z w) k = k (hp τ, ds) := by
    intro z hz
    generalize sc.2 (i + 1) = x
    generalize sc.2 (i + 2) = y
    generalize sc.2 (i + 3) = y2
    refine putZ (x := x) hI hN rfl (fun h => ?_) (fun σ' ds w h => ?_) (fun s n d f hs8 hx hg hv => ?_)
    · unfold f147
      rw [o0, c_held_no h]
      rfl
    · unfold f239
      rw [o72, h, lf_ci_r, if_neg (fun q => q rfl)]
    · subst hx
      have hn1 := hg.1
      have hn := hg.2.1
      have h96 := hg.l96
      have hne : ¬ σ.2.2.1 (2 + 2 * s) 1 = 0 := by rw [hv.1]; exact nI_ne0 (by omega) (by omega)
      have hml : ∀ (μ : hp_S) (ds : Nat × Nat), MV μ n d f → ∃ τ, fr [79, 80] [(72, 20)] μ τ ∧ lnM τ (lq f n 0 n) ∧ f216 N 72 (hp μ, ds) = some (.inl none, (hp τ, ds)) := fun μ ds hm => m_lists (N := N) (cs := ds) (f := f) hn hN hm.1 (fun k hk => hm.2.2.2 k (by omega)) h96
      by_cases good : ∃ k l, y = nI k ∧ y2 = nI l ∧ k < l ∧ l < (lq f n 0 n).length
      · obtain ⟨k, l, rfl, rfl, hkl, hl⟩ := good
        obtain ⟨⟨a, b⟩, hab⟩ : ∃ q, (lq f n 0 n)[k]? = some q := ⟨_, List.getElem?_eq_getElem (by omega)⟩
        obtain ⟨⟨c, e⟩, hce⟩ : ∃ q, (lq f n 0 n)[l]? = some q := ⟨_, List.getElem?_eq_getElem hl⟩
        obtain ⟨u1, u2, u3, u4, u5⟩ := lq_get hn hab
        obtain ⟨v1, v2, v3, v4, v5⟩ := lq_get hn hce
        have e1 := c_ends (cs := cs) hs8 hn hN hv.1 hv.2.2 (fun a ha b hb => hg.bn ha hb) (i := k) (by omega)
        have e2 := c_ends (cs := cs) hs8 hn hN hv.1 hv.2.2 (fun a ha b hb => hg.bn ha hb) (i := l) (by omega)
        rw [hab, show enc (some (a, b)) = nI (32 * a + b) from rfl] at e1
        rw [hce, show enc (some (c, e)) = nI (32 * c + e) from rfl] at e2
        have ne1 : ∀ a b : Nat, a < 24 → b < 24 → ¬ nI (32 * a + b) = -1 := fun a b ha hb => by rw [q_ne1 (by omega)]; exact id
        obtain ⟨s1, s2⟩ := c_swap (σ := σ) (cs := cs) (N := N) (z := z) (lay_row hs8) hv.2.2 u3 u4 v3 v4 (by omega) (by omega)
        have pre : f147 N 0 (nI s) (nI k) (nI l) z (hp σ, cs) = lf_ci (f1 N (3 + 2 * s) (nI (32 * a + b)) (nI (32 * c + e)) z (hp σ, cs)) fun v30 w27 => if v30 = 0 ∨ v30 = 1 then some (.inl (some (.int v30)), w27) else none := by
          unfold f147
          rw [o0, c_held hs8 hne, lf_cr_r, sN_o hs8, e1, lf_ci_r, sN_o hs8, e2, lf_ci_r, if_neg (ne1 a b u3 u4), if_neg (ne1 c e v3 v4), if_pos (nI_lt hkl (by omega)), sN_r hs8]
        have prm : ∀ (σ' μ τ : hp_S) (ds : Nat × Nat), MV τ n d f → lnM τ (lq f n 0 n) → f216 N 72 (hp μ, ds) = some (.inl none, (hp τ, ds)) → f178 N 72 (nI s) (hp σ', ds) = some (.inl (some (.int 1)), (hp μ, ds)) → f239 N 72 (nI s) (nI k) (nI l) z (hp σ', ds) = lf_ci (f237 N 72 (nI k) (nI l) z (hp τ, ds)) fun v15 w9 => if ¬ v15 = 0 then (if lf_is w9 72 12 = true then (lf_cv (f179 N 72 (nI s) w9) fun w17 => some (.inl (some (.int 1)), w17)) else none) else (some (.inl (some (.int 0)), w9)) := by
          intro σ' μ τ ds hm2 q2 q3 hl'
          unfold f239 g239_37
          rw [o72, hl', lf_ci_r, if_pos (by decide), o72, q3, lf_cv_r, if_neg (nI_pos (by omega)), if_neg (nI_ge hkl (by omega)), i72_20, q2.1, if_neg (nI_ge hl (by omega)), o72, m_rt hm2.2.2.1 (by decide), lf_ci_r, if_pos (by decide), o72]
        cases hb : swb f a b (cx z c e).1 (cx z c e).2 with
        | true =>
          have hcx : (cx z c e).1 < 24 ∧ (cx z c e).2 < 24 ∧ (cx z c e).1 ≠ (cx z c e).2 ∧ bt (f (cx z c e).1) (cx z c e).2 = true := by
            unfold cx
            split
            · exact ⟨v3, v4, by show c ≠ e; omega, v5⟩
            · exact ⟨v4, v3, by show e ≠ c; omega, (hg.2.2.2.2.1 c v3 e v5).2.2.2⟩
          have h4 := swb_d4 u3 u4 hcx.1 hcx.2.1 (by omega) hcx.2.2.1 hb
          obtain ⟨_, _, _, _, w5, w6⟩ := swb_iff.mp hb
          refine Or.inr ⟨1, tl4 σ (3 + 2 * s) a b (cx z c e).1 (cx z c e).2, n, d, swx f a b (cx z c e).1 (cx z c e).2, swx_GW hg h4 u5 hcx.2.2.2 w5 w6, CP.of (A := []) (F := []) (tl4_fr List.mem_cons_self) rfl rfl id, ⟨hv.1, hv.2.1, fun j hj => by rw [tl4_at h4]; exact swx_congr h4 hv.2.2 j hj⟩, ?_, fun σ' μ ds hm hl' => ?_⟩
          · rw [pre, s1 hb, lf_ci_r, if_pos (Or.inr rfl)]
          · obtain ⟨τ, q1, q2, q3⟩ := hml μ ds hm
            have hm2 := hm.kept q1 (by decide) (by decide) (by decide) (by decide)
            obtain ⟨υ, p1, p2, p3⟩ := (m_chg (σ := τ) (cs := ds) (N := N) (z := z) hn hg.2.2.2.2.1 hm2.2.2.2 q2 h96 hab hce (by omega) (by omega) u5 v5 u3 u4 v3 v4).1 hb
            refine ⟨υ, (q1.kept rfl rfl).tr (p1.kept rfl rfl), by rw [p1.l (by decide), q1.l (by decide)], ⟨by rw [p1.f List.not_mem_nil]; exact hm2.1, by rw [p1.f List.not_mem_nil]; exact hm2.2.1, by rw [p1.f List.not_mem_nil]; exact hm2.2.2.1, p2⟩, ?_⟩
            show f239 N 72 (nI s) (nI k) (nI l) z (hp σ', ds) = _
            rw [prm σ' μ τ ds hm2 q2 q3 hl', p3, lf_ci_r, if_pos (by decide), o72, m_keeps hs8 hN, lf_cv_r]
        | false =>
          refine Or.inl (Or.inl ⟨0, σ, iv_kept.rf σ, ?_, fun σ' μ ds hm hl' => ?_⟩)
          · rw [pre, s2 hb, lf_ci_r, if_pos (Or.inl rfl)]
          · obtain ⟨τ, q1, q2, q3⟩ := hml μ ds hm
            have hm2 := hm.kept q1 (by decide) (by decide) (by decide) (by decide)
            refine ⟨τ, q1.kept rfl rfl, q1.l (by decide), hm2.2.2.1, ?_⟩
            show f239 N 72 (nI s) (nI k) (nI l) z (hp σ', ds) = _
            rw [prm σ' μ τ ds hm2 q2 q3 hl', (m_chg (σ := τ) (cs := ds) (N := N) (z := z) hn hg.2.2.2.2.1 hm2.2.2.2 q2 h96 hab hce (by omega) (by omega) u5 v5 u3 u4 v3 v4).2 hb, lf_ci_r, if_neg (fun q => q rfl)]
      · refine Or.inl (Or.inr ⟨"java/util/NoSuchElementException", 1, σ, iv_kept.rf σ, by decide, rfl, ?_, fun σ' μ ds hm hl' => ?_⟩)
        · unfold f147
          rw [o0, c_held hs8 hne, lf_cr_r, sN_o hs8]
          rcases c_endsX (cs := cs) hs8 hg hv hN y with ⟨e1, -⟩ | ⟨k, a, b, hk, hkl, hab, e1⟩
          · rcases c_endsX (cs := cs) hs8 hg hv hN y2 with ⟨e2, -⟩ | ⟨l, c, e, hl, hll, hce, e2⟩
            · rw [e1, lf_ci_r, sN_o hs8, e2, lf_ci_r, if_pos rfl]
            · rw [e1, lf_ci_r, sN_o hs8, e2, lf_ci_r, if_pos rfl]
          · obtain ⟨u1, u2, u3, u4, u5⟩ := lq_get hn hab
            have n1 : ¬ nI (32 * a + b) = -1 := by rw [q_ne1 (by omega)]; exact id
            rcases c_endsX (cs := cs) hs8 hg hv hN y2 with ⟨e2, -⟩ | ⟨l, c, e, hl, hll, hce, e2⟩
            · rw [e1, lf_ci_r, sN_o hs8, e2, lf_ci_r, if_neg n1, if_pos rfl]
            · obtain ⟨v1, v2, v3, v4, v5⟩ := lq_get hn hce
              have n2 : ¬ nI (32 * c + e) = -1 := by rw [q_ne1 (by omega)]; exact id
              rw [e1, lf_ci_r, sN_o hs8, e2, lf_ci_r, if_neg n1, if_neg n2, if_neg]
              intro q
              rw [hk, hl, q_lt (by omega) (by omega)] at q
              exact good ⟨k, l, hk, hl, q, hll⟩
        · obtain ⟨τ, q1, q2, q3⟩ := hml μ ds hm
          have hm2 := hm.kept q1 (by decide) (by decide) (by decide) (by decide)
          refine ⟨hp_wf τ 72 0 1, 0, (q1.kept rfl rfl).tr (iv_kept.wm (by omega)), hp_wf_at, ?_⟩
          have ef : g239_36 N 72 (nI s) y y2 z 72 (hp τ, ds) = some (.inl (some (.int 0)), (hp (hp_wf τ 72 0 1), ds)) := by
            unfold g239_36 g239_37
            rw [o72, m_rf hm2.2.2.1 (by decide), lf_ci_r, if_neg (fun q => q rfl)]
          unfold f239
          rw [o72, hl', lf_ci_r, if_pos (by decide), o72, q3, lf_cv_r]
          by_cases h0 : y < 0
          · rw [if_pos h0]; exact ef
          rw [if_neg h0]
          by_cases h1 : y2 ≤ y
          · rw [if_pos h1]; exact ef
          rw [if_neg h1, i72_20, q2.1]
          by_cases h2 : nI (lq f n 0 n).length ≤ y2
          · rw [if_pos h2]; exact ef
          · exfalso
            obtain ⟨k, hk, rfl⟩ := nn_of h0
            have h3 : ¬ y2 < 0 := by
              intro q
              refine h1 ?_
              rw [fa_le, nI_toInt hk]
              rw [fa_lt] at q
              have : (0 : Int32).toInt = 0 := rfl
              omega
            obtain ⟨l, hl, rfl⟩ := nn_of h3
            rw [q_le (by omega) hl] at h2
            rw [q_le hl hk] at h1
            exact good ⟨k, l, rfl, rfl, by omega, by omega⟩
  obtain ⟨z, hz, hzz⟩ : ∃ z : Int32, (z = 0 ∨ z = 1) ∧ ((sc.2 (i + 4) = 0 ∧ z = 0) ∨ (¬ sc.2 (i + 4) = 0 ∧ z = 1)) := by
    by_cases h : sc.2 (i + 4) = 0
    · exact ⟨0, Or.inl rfl, Or.inl ⟨h, rfl⟩⟩
    · exact ⟨1, Or.inr rfl, Or.inr ⟨h, rfl⟩⟩
  obtain ⟨τ, ds, q1, q2, q3, q4⟩ := key z hz
  refine ⟨τ, ds, q1, q2, q3, fun k23 => ?_⟩
  rw [← q4 (k23 (nI i + 6))]
  unfold g327_1398 g327_1431 h306 f306
  rcases hzz with ⟨h, rfl⟩ | ⟨h, rfl⟩
  · simp only [iv_s1 hs hi, iv_s2 hs hi, iv_s3 hs hi, iv_s4 hs hi, Option.bind_some, if_pos hp_x, if_pos h]
    rfl
  · simp only [iv_s1 hs hi, iv_s2 hs hi, iv_s3 hs hi, iv_s4 hs hi, Option.bind_some, if_pos hp_x, if_neg h]
    rfl
