/-! read: the model reads a text: clauses, head -/
section RDV
variable {cs : Nat × Nat} {N n p s kn e c sh z m : Nat} {B g : Nat → Nat} {f : Nat → Int32} {σ : hp_S}
theorem m_106no (h : ¬ σ.2.2.1 72 9 = 0) : g202_106 N 72 (hp σ, cs) = some (.inl none, (hp σ, cs)) := by
  unfold g202_106
  rw [o72, m_no h, lf_ci_r, if_neg (by decide)]
theorem m_67no {u : Nat} {x : Int32} (h : ¬ σ.2.2.1 72 9 = 0) : g202_67 N (u + 1) 72 x (hp σ, cs) = some (.inl none, (hp σ, cs)) := by
  rw [g202_67, i72_19]
  by_cases d : σ.2.2.1 72 19 ≤ x
  · rw [if_pos d, m_106no h]
  · rw [if_neg d, o72, m_no h, lf_ci_r, if_pos rfl, m_106no h]
theorem m_65no (hN : iv_N N) (h : ¬ σ.2.2.1 72 9 = 0) : g202_65 N 72 (hp σ, cs) = some (.inl none, (hp σ, cs)) := by
  obtain ⟨M, hM⟩ : ∃ q, N = q + 1 := ⟨N - 1, by unfold iv_N at hN; omega⟩
  have e : g202_67 N (M + 1) 72 0 (hp σ, cs) = some (.inl none, (hp σ, cs)) := m_67no h
  rw [← hM] at e
  exact e
theorem m_202no (h : ¬ σ.2.2.1 72 9 = 0) : f202 N 72 (hp σ, cs) = some (.inl none, (hp σ, cs)) := by
  unfold f202
  rw [o72, m_no h, lf_ci_r, if_neg (by decide)]
/-- is the knot named already? -/
theorem m_l67 {v pl : Nat} (hg : MGd σ) (hc : c ≤ 12) (hv : v ≤ 231088) (hkn : kn ≤ 24) (hl : rdLs c g kn) (hS : MSn σ c g) (h16 : σ.2.2.1 72 16 = nI v) (h14 : σ.2.2.1 72 14 = nI pl) : ∀ (m k u : Nat), k + m = c → m + 1 < u → (∀ j, j < k → ¬ g j = v) → ((∀ j, j < c → ¬ g j = v) → g202_67 N u 72 (nI k) (hp σ, cs) = g202_106 N 72 (hp σ, cs)) ∧ (¬ (∀ j, j < c → ¬ g j = v) → g202_67 N u 72 (nI k) (hp σ, cs) = some (.inl none, (hp (hp_wf (hp_wf σ 72 9 4) 72 10 (nI pl)), cs))) := by
  intro m
  induction m with
  | zero =>
    intro k u hk hu hj
    obtain ⟨u, rfl⟩ : ∃ q, u = q + 1 := ⟨u - 1, by omega⟩
    refine ⟨fun _ => ?_, fun h => absurd (fun j hj' => hj j (by omega)) h⟩
    rw [g202_67, i72_19, hS.1, if_pos (nI_le (by omega) (by omega))]
  | succ m ih =>
    intro k u hk hu hj
    obtain ⟨u, rfl⟩ : ∃ q, u = q + 1 := ⟨u - 1, by omega⟩
    have gk := hl.1 k (by omega)
    have pre : g202_67 N (u + 1) 72 (nI k) (hp σ, cs) = if ¬ nI (g k) = nI v then (g202_100 N (g202_67 N u) 72 (nI k) (hp σ, cs)) else (if lf_is (hp σ, cs) 72 12 = true then (lf_cv (f198 N 72 4 (hp σ, cs)) fun w19 => g202_100 N (g202_67 N u) 72 (nI k) w19) else none) := by
      rw [g202_67, i72_19, hS.1, if_neg (nI_ge (by omega) (by omega)), o72, m_ok hg.1, lf_ci_r, if_neg (by decide), r72_18, a78 (by omega), hS.2 k (by omega), i72_16, h16]
    by_cases d : g k = v
    · refine ⟨fun h => absurd d (h k (by omega)), fun _ => ?_⟩
      rw [pre, if_neg (show ¬ ¬ nI (g k) = nI v from fun q => q (by rw [d])), o72, m_wr hg.1 h14, lf_cv_r]
      unfold g202_100
      obtain ⟨u, rfl⟩ : ∃ q, u = q + 1 := ⟨u - 1, by omega⟩
      rw [m_67no (by rw [hp_wf_ne (by decide), hp_wf_at]; decide)]
    · have hj2 : ∀ j, j < k + 1 → ¬ g j = v := by
        intro j hj'
        by_cases e : j = k
        · rw [e]
          exact d
        · exact hj j (by omega)
      obtain ⟨i1, i2⟩ := ih (k + 1) u (by omega) (by omega) hj2
      have e1 : g202_67 N (u + 1) 72 (nI k) (hp σ, cs) = g202_67 N u 72 (nI (k + 1)) (hp σ, cs) := by
        rw [pre, if_pos (show ¬ nI (g k) = nI v from fun q => d ((nI_eq (by omega) (by omega)).mp q))]
        unfold g202_100
        rw [nI_1]
      rw [e1]
      exact ⟨i1, i2⟩
/-- the model's knot -/
theorem m_knot (hN : iv_N N) (hB : TB B n) (hT : TM σ B n) (hM : MK σ B n p) (hg : MGd σ) (hq : p ≤ n) (hkn : kn ≤ 24) (h4 : σ.2.2.1 72 4 = nI kn) (hS : MSn σ c g) (hc : c ≤ 12) (hl : rdLs c g kn) (hs : ¬ (sh = 4 ∧ c = 2)) : (rdK B n p sh kn c g = 0 → ∃ τ, fr [78] [(72, 12), (72, 13), (72, 14), (72, 15), (72, 16), (72, 17), (72, 19)] σ τ ∧ MK τ B n (tkE B n p) ∧ MSn τ (c + 1) (rdU g c (rdN B n p)) ∧ f202 N 72 (hp σ, cs) = some (.inl none, (hp τ, cs))) ∧ (¬ rdK B n p sh kn c g = 0 → ∃ τ, fr [] [(72, 9), (72, 10)] σ τ ∧ MBd τ (rdK B n p sh kn c g) (tkA B n p) ∧ f202 N 72 (hp σ, cs) = some (.inl none, (hp τ, cs))) := by
  have hn := hB.1
  obtain ⟨m13, m14, m12, m15, m16, m17⟩ := id hM
  have he := tkE_le (B := B) hq
  have k4 := tkK_le (B := B) (n := n) (p := p)
  have hv : rdN B n p ≤ 231088 := tkV_b (by omega) hB.2.1
  have fw : ∀ x : Int32, fr [] [(72, 9), (72, 10)] σ (hp_wf (hp_wf σ 72 9 x) 72 10 (nI (tkA B n p))) := fun x => (fr.wf (by decide)).tr (fr.wf (by decide))
  have bw : ∀ x : Nat, MBd (hp_wf (hp_wf σ 72 9 (nI x)) 72 10 (nI (tkA B n p))) x (tkA B n p) := fun x => ⟨by rw [hp_wf_ne (by decide), hp_wf_at], hp_wf_at⟩
  have nw : ∀ x : Nat, ¬ x = 0 → x ≤ 6 → ¬ (hp_wf (hp_wf σ 72 9 (nI x)) 72 10 (nI (tkA B n p))).2.2.1 72 9 = 0 := fun x h1 h2 => (bw x).no h1 h2
  by_cases d1 : tkK B n p = 2
  case neg =>
    have ek : rdK B n p sh kn c g = 1 := by
      unfold rdK
      rw [if_pos (Or.inl d1)]
    refine ⟨fun h => by omega, fun _ => ⟨_, fw (nI 1), by rw [ek]; exact bw 1, ?_⟩⟩
    unfold f202
    rw [o72, m_ok hg.1, lf_ci_r, if_pos (by decide), i72_13, m13, if_neg (show ¬ nI (tkK B n p) = 2 from fun q => d1 ((nI_eq (b := 2) (by omega) (by omega)).mp q)), o72]
    rw [show f198 N 72 1 (hp σ, cs) = _ from m_wr (x := nI 1) hg.1 m14, lf_cv_r, m_65no hN (nw 1 (by omega) (by omega))]
  have h1 : ¬ (¬ tkK B n p = 2 ∨ (sh = 4 ∧ c = 2)) := fun h => h.elim (fun q => q d1) hs
  have v16 : σ.2.2.1 72 16 = nI (rdN B n p) := m16 d1
  have e41 : g202_41 N 72 (hp σ, cs) = some (.inl none, (hp (hp_wf (hp_wf σ 72 9 (nI 2)) 72 10 (nI (tkA B n p))), cs)) := by
    unfold g202_41
    rw [o72]
    rw [show f198 N 72 2 (hp σ, cs) = _ from m_wr (x := nI 2) hg.1 m14, lf_cv_r, m_65no hN (nw 2 (by omega) (by omega))]
  by_cases d2 : c = 12 ∨ 3 < tkE B n p - tkA B n p
  · have ek : rdK B n p sh kn c g = 2 := by
      unfold rdK
      rw [if_neg h1, if_pos d2]
    refine ⟨fun h => by omega, fun _ => ⟨_, fw (nI 2), by rw [ek]; exact bw 2, ?_⟩⟩
    unfold f202
    rw [o72, m_ok hg.1, lf_ci_r, if_pos (by decide), i72_13, m13, if_pos (show nI (tkK B n p) = 2 by rw [d1]; rfl), i72_15, m15]
    by_cases d : 3 < tkE B n p - tkA B n p
    · rw [if_pos (show (3 : Int32) < nI (tkE B n p - tkA B n p) from nI_lt (a := 3) d (by omega)), e41]
    · rw [if_neg (show ¬ (3 : Int32) < nI (tkE B n p - tkA B n p) from nI_nlt (a := 3) (by omega) (by omega)), i72_19, hS.1, if_neg (show ¬ ¬ nI c = 12 from fun q => q (by rw [show c = 12 by omega]; rfl)), e41]
  have pre : f202 N 72 (hp σ, cs) = if nI (rdN B n p) < nI kn then (g202_65 N 72 (hp σ, cs)) else (if lf_is (hp σ, cs) 72 12 = true then (lf_cv (f198 N 72 3 (hp σ, cs)) fun w23 => g202_65 N 72 w23) else none) := by
    unfold f202
    rw [o72, m_ok hg.1, lf_ci_r, if_pos (by decide), i72_13, m13, if_pos (show nI (tkK B n p) = 2 by rw [d1]; rfl), i72_15, m15, if_neg (show ¬ (3 : Int32) < nI (tkE B n p - tkA B n p) from nI_nlt (a := 3) (by omega) (by omega)), i72_19, hS.1, if_pos (show ¬ nI c = 12 from fun q => by have := (nI_eq (b := 12) (by omega) (by omega)).mp q; omega), i72_16, v16, i72_4, h4]
  by_cases d3 : kn ≤ rdN B n p
  · have ek : rdK B n p sh kn c g = 3 := by
      unfold rdK
      rw [if_neg h1, if_neg d2, if_pos d3]
    refine ⟨fun h => by omega, fun _ => ⟨_, fw (nI 3), by rw [ek]; exact bw 3, ?_⟩⟩
    rw [pre, if_neg (nI_nlt d3 (by omega)), o72]
    rw [show f198 N 72 3 (hp σ, cs) = _ from m_wr (x := nI 3) hg.1 m14, lf_cv_r, m_65no hN (nw 3 (by omega) (by omega))]
  have pre2 : f202 N 72 (hp σ, cs) = g202_67 N N 72 (nI 0) (hp σ, cs) := by
    rw [pre, if_pos (nI_lt (by omega) (by omega))]
    rfl
  have hNN : 13 < N := by
    unfold iv_N at hN
    omega
  obtain ⟨i1, i2⟩ := m_l67 (N := N) (cs := cs) hg hc hv hkn hl hS v16 m14 c 0 N (by omega) (by omega) (fun j hj => absurd hj (Nat.not_lt_zero j))
  by_cases d4 : ∀ k, k < c → ¬ g k = rdN B n p
  · have ek : rdK B n p sh kn c g = 0 := by
      unfold rdK
      rw [if_neg h1, if_neg d2, if_neg d3, if_pos d4]
    refine ⟨fun _ => ?_, fun h => absurd ek h⟩
    have fw2 : fr [78] [(72, 12), (72, 13), (72, 14), (72, 15), (72, 16), (72, 17), (72, 19)] σ (hp_wf (hp_wi σ 78 c (nI (rdN B n p))) 72 19 (nI (c + 1))) := (fr.wi (by decide)).tr (fr.wf (by decide))
    obtain ⟨τ, q1, q2, q3⟩ := m_goes (N := N) (cs := cs) (σ := hp_wf (hp_wi σ 78 c (nI (rdN B n p))) 72 19 (nI (c + 1))) (p := tkE B n p) hN hB (hT.fr fw2 (by decide) (by decide)) he.2 (by rw [hp_wf_ne (by decide)]; exact m12)
    refine ⟨τ, fw2.tr (q1.wk (fun _ z => absurd z List.not_mem_nil) (by decide)), q2, ⟨by rw [q1.f (by decide), hp_wf_at], fun k hk => ?_⟩, ?_⟩
    · rw [q1.r List.not_mem_nil]
      show (hp_wi σ 78 c (nI (rdN B n p))).1 78 k = _
      unfold rdU
      by_cases e1 : k = c
      · rw [if_pos e1, e1, hp_wi_at]
      · rw [if_neg e1, hp_wi_nj e1]
        exact hS.2 k (by omega)
    · rw [pre2, i1 d4]
      unfold g202_106
      rw [o72, m_ok hg.1, lf_ci_r, if_pos (by decide), r72_18, i72_19, hS.1, i72_16, v16, b78 (by omega), i72_19, show (hp_wi σ 78 c (nI (rdN B n p))).2.2.1 72 19 = nI c from hS.1, nI_1, w72_19, o72, q3, lf_cv_r]
  · have ek : rdK B n p sh kn c g = 4 := by
      unfold rdK
      rw [if_neg h1, if_neg d2, if_neg d3, if_neg d4]
    refine ⟨fun h => by omega, fun _ => ⟨_, fw (nI 4), by rw [ek]; exact bw 4, ?_⟩⟩
    rw [pre2, i2 d4]
    rfl
theorem m_102no {x : Int32} (h : ¬ σ.2.2.1 72 9 = 0) : g204_102 N 72 x (hp σ, cs) = some (.inl none, (hp σ, cs)) := by
  unfold g204_102
  rw [o72, m_no h, lf_ci_r, if_neg (by decide)]
theorem m_82no {x : Int32} (h : ¬ σ.2.2.1 72 9 = 0) : g204_82 N 72 x (hp σ, cs) = some (.inl none, (hp σ, cs)) := by
  unfold g204_82
  rw [o72, m_no h, lf_ci_r, if_pos rfl, m_102no h]
theorem m_55no {u : Nat} {x : Int32} (h : ¬ σ.2.2.1 72 9 = 0) : g204_55 N (u + 1) 72 x (hp σ, cs) = some (.inl none, (hp σ, cs)) := by
  rw [g204_55, o72, m_no h, lf_ci_r, if_pos rfl, m_82no h]
/-- the end of the knots: a semicolon, or wrong -/
theorem m_82 {x : Int32} (hM : MK σ B n p) (hg : MGd σ) : (tkK B n p = 3 → g204_82 N 72 x (hp σ, cs) = g204_112 N N 72 x 1 (hp σ, cs)) ∧ (¬ tkK B n p = 3 → ∃ τ, fr [] [(72, 9), (72, 10)] σ τ ∧ MBd τ 1 (tkA B n p) ∧ g204_82 N 72 x (hp σ, cs) = some (.inl none, (hp τ, cs))) := by
  have k4 := tkK_le (B := B) (n := n) (p := p)
  obtain ⟨m13, m14, -⟩ := hM
  refine ⟨fun h => ?_, fun h => ?_⟩
  · unfold g204_82
    rw [o72, m_ok hg.1, lf_ci_r, if_neg (by decide), i72_13, m13, if_pos (show nI (tkK B n p) = 3 by rw [h]; rfl)]
    unfold g204_102
    rw [o72, m_ok hg.1, lf_ci_r, if_pos (by decide)]
  · obtain ⟨τ, q1, q2, q3⟩ := m_wrB (N := N) (cs := cs) (x := 1) hg m14
    refine ⟨τ, q1, q2, ?_⟩
    unfold g204_82
    rw [o72, m_ok hg.1, lf_ci_r, if_neg (by decide), i72_13, m13, if_neg (show ¬ nI (tkK B n p) = 3 from fun q => h ((nI_eq (b := 3) (by omega) (by omega)).mp q)), o72]
    rw [show f198 N 72 1 (hp σ, cs) = _ from q3, lf_cv_r, m_102no (q2.no (by omega) (by omega))]
/-- the knots behind the first two -/
theorem m_w55 (hN : iv_N N) (hB : TB B n) (hkn : kn ≤ 24) (hsh : sh ≤ 4) : ∀ (m c : Nat) (g : Nat → Nat) (p u : Nat) (σ : hp_S), m + c = 13 → c ≤ 12 → 2 ≤ c → (sh = 4 → c ≤ 2) → m + 1 < u → p ≤ n → rdLs c g kn → TM σ B n → MK σ B n p → MGd σ → MSn σ c g → σ.2.2.1 72 4 = nI kn → ((rdP B n sh kn m c g p).1 = 0 → ∃ τ, fr [78] [(72, 12), (72, 13), (72, 14), (72, 15), (72, 16), (72, 17), (72, 19)] σ τ ∧ τ.2.2.1 72 14 = nI (rdP B n sh kn m c g p).2.1 ∧ τ.2.2.1 72 12 = nI (rdP B n sh kn m c g p).2.2.2.2 ∧ MSn τ (rdP B n sh kn m c g p).2.2.1 (rdP B n sh kn m c g p).2.2.2.1 ∧ g204_55 N u 72 (nI sh) (hp σ, cs) = g204_112 N N 72 (nI sh) 1 (hp τ, cs)) ∧ (¬ (rdP B n sh kn m c g p).1 = 0 → ∃ τ, fr [78] [(72, 9), (72, 10), (72, 12), (72, 13), (72, 14), (72, 15), (72, 16), (72, 17), (72, 19)] σ τ ∧ MBd τ (rdP B n sh kn m c g p).1 (rdP B n sh kn m c g p).2.1 ∧ g204_55 N u 72 (nI sh) (hp σ, cs) = some (.inl none, (hp τ, cs))) := by
  intro m
  induction m with
  | zero =>
    intro c g p u σ h1 h2
    omega
  | succ m ih =>
    intro c g p u σ h1 h2 h2' h4 hu hq hl hT hM hg hS h4'
    have hn := hB.1
    obtain ⟨u, rfl⟩ : ∃ q, u = q + 1 := ⟨u - 1, by omega⟩
    have k4 := tkK_le (B := B) (n := n) (p := p)
    have hE := tkE_le (B := B) hq
    obtain ⟨m13, m14, m12, m15, m16, m17⟩ := id hM
    obtain ⟨w1, w2⟩ := m_82 (N := N) (cs := cs) (x := nI sh) hM hg
    have e82 : (sh = 4 ∨ ¬ tkK B n p = 2) → g204_55 N (u + 1) 72 (nI sh) (hp σ, cs) = g204_82 N 72 (nI sh) (hp σ, cs) := by
      intro h
      rw [g204_55, o72, m_ok hg.1, lf_ci_r, if_neg (by decide)]
      by_cases d : sh = 4
      · rw [if_pos (show nI sh = 4 by rw [d]; rfl)]
      · rw [if_neg (show ¬ nI sh = 4 from fun q => d ((nI_eq (b := 4) (by omega) (by omega)).mp q)), i72_13, m13, if_pos (show ¬ nI (tkK B n p) = 2 from fun q => by have := (nI_eq (b := 2) (by omega) (by omega)).mp q; omega)]
    by_cases c1 : tkK B n p = 3 ∧ 2 ≤ c
    · have er : rdP B n sh kn (m + 1) c g p = (0, tkA B n p, c, g, tkE B n p) := by rw [rdP, if_pos c1]
      rw [er]
      refine ⟨fun _ => ⟨σ, fr.rf, m14, m12, hS, ?_⟩, fun h => absurd rfl h⟩
      rw [e82 (Or.inr (by omega)), w1 c1.1]
    · have c3 : ¬ tkK B n p = 3 := fun h => c1 ⟨h, h2'⟩
      by_cases c2 : rdK B n p sh kn c g = 0
      · have er : rdP B n sh kn (m + 1) c g p = rdP B n sh kn m (c + 1) (rdU g c (rdN B n p)) (tkE B n p) := by rw [rdP, if_neg c1, if_pos c2]
        rw [er]
        obtain ⟨k1, k2, k3, k5, k6, k7⟩ := rdK_0 c2
        obtain ⟨τ1, b1, b2, b3, b4⟩ := (m_knot (N := N) (cs := cs) (sh := sh) hN hB hT hM hg hq hkn h4' hS h2 hl k2).1 c2
        have n4 : ¬ sh = 4 := fun h => k2 ⟨h, by have := h4 h; omega⟩
        have pre : g204_55 N (u + 1) 72 (nI sh) (hp σ, cs) = g204_55 N u 72 (nI sh) (hp τ1, cs) := by
          rw [g204_55, o72, m_ok hg.1, lf_ci_r, if_neg (by decide), if_neg (show ¬ nI sh = 4 from fun q => n4 ((nI_eq (b := 4) (by omega) (by omega)).mp q)), i72_13, m13, if_neg (show ¬ ¬ nI (tkK B n p) = 2 from fun q => q (by rw [k1]; rfl)), o72, b4, lf_cv_r]
        rw [pre]
        obtain ⟨i1, i2⟩ := ih (c + 1) (rdU g c (rdN B n p)) (tkE B n p) u τ1 (by omega) (by omega) (by omega) (fun h => absurd h n4) (by omega) hE.2 (rdU_L hl k6 k7) (hT.fr b1 (by decide) (by decide)) b2 (hg.fr b1 (by decide) (by decide)) b3 (by rw [b1.f (by decide)]; exact h4')
        refine ⟨fun h => ?_, fun h => ?_⟩
        · obtain ⟨τ, q1, q2, q3, q4, q5⟩ := i1 h
          exact ⟨τ, b1.tr q1, q2, q3, q4, q5⟩
        · obtain ⟨τ, q1, q2, q3⟩ := i2 h
          exact ⟨τ, (b1.wk (by decide) (by decide)).tr q1, q2, q3⟩
      · have er : rdP B n sh kn (m + 1) c g p = (rdK B n p sh kn c g, tkA B n p, c, g, tkE B n p) := by rw [rdP, if_neg c1, if_neg c2]
        rw [er]
        refine ⟨fun h => absurd h c2, fun _ => ?_⟩
        show ∃ τ, fr [78] [(72, 9), (72, 10), (72, 12), (72, 13), (72, 14), (72, 15), (72, 16), (72, 17), (72, 19)] σ τ ∧ MBd τ (rdK B n p sh kn c g) (tkA B n p) ∧ g204_55 N (u + 1) 72 (nI sh) (hp σ, cs) = some (.inl none, (hp τ, cs))
        by_cases d : sh = 4 ∨ ¬ tkK B n p = 2
        · have ek : rdK B n p sh kn c g = 1 := by
            unfold rdK
            rw [if_pos (show ¬ tkK B n p = 2 ∨ (sh = 4 ∧ c = 2) by rcases d with d | d <;> omega)]
          obtain ⟨τ, q1, q2, q3⟩ := w2 c3
          refine ⟨τ, q1.wk (fun _ z => absurd z List.not_mem_nil) (by decide), by rw [ek]; exact q2, ?_⟩
          rw [e82 d, q3]
        · have n4 : ¬ sh = 4 := fun h => d (Or.inl h)
          have k2 : tkK B n p = 2 := Decidable.not_not.mp (fun h => d (Or.inr h))
          obtain ⟨τ, q1, q2, q3⟩ := (m_knot (N := N) (cs := cs) (sh := sh) hN hB hT hM hg hq hkn h4' hS h2 hl (fun h => n4 h.1)).2 c2
          have kl := rdK_le (B := B) (n := n) (p := p) (sh := sh) (kn := kn) (c := c) (g := g)
          refine ⟨τ, q1.wk (fun _ z => absurd z List.not_mem_nil) (by decide), q2, ?_⟩
          obtain ⟨u, rfl⟩ : ∃ q, u = q + 1 := ⟨u - 1, by omega⟩
          rw [g204_55, o72, m_ok hg.1, lf_ci_r, if_neg (by decide), if_neg (show ¬ nI sh = 4 from fun q => n4 ((nI_eq (b := 4) (by omega) (by omega)).mp q)), i72_13, m13, if_neg (show ¬ ¬ nI (tkK B n p) = 2 from fun q => q (by rw [k2]; rfl)), o72, q3, lf_cv_r, m_55no (q2.no c2 (by omega))]
/-- the model's clause, from the word on -/
theorem m_cl30 (hN : iv_N N) (hB : TB B n) (hkn : kn ≤ 24) (he : e ≤ 8) (hx : tkX B n p ≤ 4) (hG : rdG f kn e) (hq : p ≤ n) (hT : TM σ B n) (hM : MK σ B n p) (hg : MGd σ) (h4 : σ.2.2.1 72 4 = nI kn) (h5 : σ.2.2.1 72 5 = nI e) (h76 : ∀ k, k < 24 → σ.1 76 k = f k) : (((rdQ B n p kn).1 = 0 ∧ (rdV B n p kn e f).1 = 0) → ∃ τ, fr [76, 78] [(72, 9), (72, 10), (72, 12), (72, 13), (72, 14), (72, 15), (72, 16), (72, 17), (72, 19)] σ τ ∧ MGd τ ∧ MK τ B n (rdQ B n p kn).2.2.2.2 ∧ (∀ k, k < 24 → τ.1 76 k = (rdV B n p kn e f).2 k) ∧ g204_30 N 72 (nI (tkX B n p)) (hp σ, cs) = some (.inl none, (hp τ, cs))) ∧ (¬ (rdQ B n p kn).1 = 0 → ∃ τ, fr [76, 78] [(72, 9), (72, 10), (72, 12), (72, 13), (72, 14), (72, 15), (72, 16), (72, 17), (72, 19)] σ τ ∧ MBd τ (rdQ B n p kn).1 (rdQ B n p kn).2.1 ∧ g204_30 N 72 (nI (tkX B n p)) (hp σ, cs) = some (.inl none, (hp τ, cs))) ∧ (((rdQ B n p kn).1 = 0 ∧ ¬ (rdV B n p kn e f).1 = 0) → ∃ τ, fr [76, 78] [(72, 9), (72, 10), (72, 12), (72, 13), (72, 14), (72, 15), (72, 16), (72, 17), (72, 19)] σ τ ∧ MBd τ (rdV B n p kn e f).1 (rdQ B n p kn).2.1 ∧ g204_30 N 72 (nI (tkX B n p)) (hp σ, cs) = some (.inl none, (hp τ, cs))) := by
  have hNN : 20 < N := by
    unfold iv_N at hN
    omega
  have hE := tkE_le (B := B) hq
  obtain ⟨m13, m14, m12, m15, m16, m17⟩ := id hM
  obtain ⟨σ1, a1, a2, a3⟩ := m_goes (N := N) (cs := cs) (p := tkE B n p) hN hB hT hE.2 m12
  have W1 : fr [76, 78] [(72, 9), (72, 10), (72, 12), (72, 13), (72, 14), (72, 15), (72, 16), (72, 17), (72, 19)] σ σ1 := a1.wk (by decide) (by decide)
  have fw : fr [] [(72, 19)] σ1 (hp_wf σ1 72 19 0) := fr.wf (by decide)
  have W2 := W1.tr (fw.wk (by decide) (by decide))
  have M2 : MK (hp_wf σ1 72 19 0) B n (tkE B n p) := a2.fr fw (by decide) (by decide) (by decide) (by decide) (by decide) (by decide)
  have T2 : TM (hp_wf σ1 72 19 0) B n := hT.fr W2 (by decide) (by decide)
  have G2 : MGd (hp_wf σ1 72 19 0) := (hg.fr a1 (by decide) (by decide)).fr fw (by decide) (by decide)
  have S2 : MSn (hp_wf σ1 72 19 0) 0 (fun _ => 0) := ⟨hp_wf_at, fun k hk => absurd hk (Nat.not_lt_zero k)⟩
  have f4 : (hp_wf σ1 72 19 0).2.2.1 72 4 = nI kn := by rw [W2.f (by decide)]; exact h4
  have f5 : (hp_wf σ1 72 19 0).2.2.1 72 5 = nI e := by rw [W2.f (by decide)]; exact h5
  have f76 : ∀ k, k < 24 → (hp_wf σ1 72 19 0).1 76 k = f k := fun k hk => by
    show σ1.1 76 k = f k
    rw [a1.r List.not_mem_nil]
    exact h76 k hk
  have pre : g204_30 N 72 (nI (tkX B n p)) (hp σ, cs) = lf_cv (f202 N 72 (hp (hp_wf σ1 72 19 0), cs)) fun w17 => if lf_is w17 72 12 = true then (lf_cv (f202 N 72 w17) fun w23 => g204_55 N N 72 (nI (tkX B n p)) w23) else none := by
    unfold g204_30
    rw [o72, m_ok hg.1, lf_ci_r, if_pos (by decide), o72, a3, lf_cv_r, w72_19, o72]
  generalize hp_wf σ1 72 19 0 = σ2 at W2 M2 T2 G2 S2 f4 f5 f76 pre
  rw [pre]
  have lN' : ∀ {τ : hp_S} {x : Int32}, ¬ τ.2.2.1 72 9 = 0 → g204_55 N N 72 x (hp τ, cs) = some (.inl none, (hp τ, cs)) := by
    intro τ x h
    obtain ⟨M, hM'⟩ : ∃ q, N = q + 1 := ⟨N - 1, by omega⟩
    have e0 : g204_55 N (M + 1) 72 x (hp τ, cs) = some (.inl none, (hp τ, cs)) := m_55no h
    rw [← hM'] at e0
    exact e0
  have L0 : rdLs 0 (fun _ => 0) kn := rdLs_0
  have er0 : rdQ B n p kn = if rdK B n (tkE B n p) (tkX B n p) kn 0 (fun _ => 0) = 0 then rdP B n (tkX B n p) kn 12 1 (rdU (fun _ => 0) 0 (rdN B n (tkE B n p))) (tkE B n (tkE B n p)) else (rdK B n (tkE B n p) (tkX B n p) kn 0 (fun _ => 0), tkA B n (tkE B n p), 0, (fun _ => 0), tkE B n (tkE B n p)) := by
    unfold rdQ
    rw [rdP, if_neg (show ¬ (tkK B n (tkE B n p) = 3 ∧ 2 ≤ 0) from fun h => absurd h.2 (by omega))]
  have kl0 := rdK_le (B := B) (n := n) (p := tkE B n p) (sh := tkX B n p) (kn := kn) (c := 0) (g := fun _ => 0)
  obtain ⟨u1, u2⟩ := m_knot (N := N) (cs := cs) (sh := tkX B n p) hN hB T2 M2 G2 hE.2 hkn f4 S2 (by omega) L0 (fun h => absurd h.2 (by omega))
  by_cases d1 : rdK B n (tkE B n p) (tkX B n p) kn 0 (fun _ => 0) = 0
  case neg =>
    rw [if_neg d1] at er0
    obtain ⟨τ, q1, q2, q3⟩ := u2 d1
    have nb := q2.no d1 (by omega)
    rw [er0]
    refine ⟨fun h => absurd h.1 d1, fun _ => ⟨τ, W2.tr (q1.wk (fun _ z => absurd z List.not_mem_nil) (by decide)), q2, ?_⟩, fun h => absurd h.1 d1⟩
    rw [q3, lf_cv_r, o72, m_202no nb, lf_cv_r, lN' nb]
  rw [if_pos d1] at er0
  obtain ⟨k1, k2, k3, k5, k6, k7⟩ := rdK_0 d1
  obtain ⟨σ3, b1, b2, b3, b4⟩ := u1 d1
  have W3 : fr [76, 78] [(72, 9), (72, 10), (72, 12), (72, 13), (72, 14), (72, 15), (72, 16), (72, 17), (72, 19)] σ σ3 := W2.tr (b1.wk (by decide) (by decide))
  have T3 := hT.fr W3 (by decide) (by decide)
  have G3 := G2.fr b1 (by decide) (by decide)
  have L1 := rdU_L L0 k6 k7
  have hE2 := tkE_le (B := B) hE.2
  rw [b4, lf_cv_r, o72]
  generalize hg1 : rdU (fun _ => 0) 0 (rdN B n (tkE B n p)) = gg at er0 b3 L1
  obtain ⟨v1, v2⟩ := m_knot (N := N) (cs := cs) (sh := tkX B n p) hN hB T3 b2 G3 hE2.2 hkn (by rw [b1.f (by decide)]; exact f4) b3 (by omega) L1 (fun h => absurd h.2 (by omega))
  have er1 : rdQ B n p kn = if rdK B n (tkE B n (tkE B n p)) (tkX B n p) kn 1 gg = 0 then rdP B n (tkX B n p) kn 11 2 (rdU gg 1 (rdN B n (tkE B n (tkE B n p)))) (tkE B n (tkE B n (tkE B n p))) else (rdK B n (tkE B n (tkE B n p)) (tkX B n p) kn 1 gg, tkA B n (tkE B n (tkE B n p)), 1, gg, tkE B n (tkE B n (tkE B n p))) := by
    rw [er0, rdP, if_neg (show ¬ (tkK B n (tkE B n (tkE B n p)) = 3 ∧ 2 ≤ 1) from fun h => absurd h.2 (by omega))]
  have kl1 := rdK_le (B := B) (n := n) (p := tkE B n (tkE B n p)) (sh := tkX B n p) (kn := kn) (c := 1) (g := gg)
  by_cases d2 : rdK B n (tkE B n (tkE B n p)) (tkX B n p) kn 1 gg = 0
  case neg =>
    rw [if_neg d2] at er1
    obtain ⟨τ, q1, q2, q3⟩ := v2 d2
    have nb := q2.no d2 (show rdK B n (tkE B n (tkE B n p)) (tkX B n p) kn 1 gg ≤ 6 by omega)
    rw [er1]
    refine ⟨fun h => absurd h.1 d2, fun _ => ⟨τ, W3.tr (q1.wk (fun _ z => absurd z List.not_mem_nil) (by decide)), q2, ?_⟩, fun h => absurd h.1 d2⟩
    rw [q3, lf_cv_r, lN' nb]
  rw [if_pos d2] at er1
  obtain ⟨j1, j2, j3, j5, j6, j7⟩ := rdK_0 d2
  obtain ⟨σ4, g1, g2, g3, g4⟩ := v1 d2
  have W4 : fr [76, 78] [(72, 9), (72, 10), (72, 12), (72, 13), (72, 14), (72, 15), (72, 16), (72, 17), (72, 19)] σ σ4 := W3.tr (g1.wk (by decide) (by decide))
  have T4 := hT.fr W4 (by decide) (by decide)
  have G4 := G3.fr g1 (by decide) (by decide)
  have L2 := rdU_L L1 j6 j7
  have hE3 := tkE_le (B := B) hE2.2
  rw [g4, lf_cv_r]
  obtain ⟨y1, y2⟩ := m_w55 (N := N) (cs := cs) (sh := tkX B n p) hN hB hkn hx 11 2 (rdU gg 1 (rdN B n (tkE B n (tkE B n p)))) (tkE B n (tkE B n (tkE B n p))) N σ4 rfl (by omega) (by omega) (fun _ => by omega) (by omega) hE3.2 L2 T4 g2 G4 g3 (by rw [W4.f (by decide)]; exact h4)
  rw [← er1] at y1 y2
  obtain ⟨r1, r2, r3, r4⟩ := rdQ_ok (B := B) (kn := kn) hq
  have fin : (rdQ B n p kn).1 = 0 → ∃ τ, fr [76, 78] [(72, 9), (72, 10), (72, 12), (72, 13), (72, 14), (72, 15), (72, 16), (72, 17), (72, 19)] σ τ ∧ MLr τ (rdQ B n p kn).2.1 (rdV B n p kn e f) ∧ τ.2.2.1 72 12 = nI (rdQ B n p kn).2.2.2.2 ∧ g204_55 N N 72 (nI (tkX B n p)) (hp σ4, cs) = g204_322 N 72 (hp τ, cs) := by
    intro h0
    obtain ⟨σ5, x1, x2, x3, x4, x5⟩ := y1 h0
    obtain ⟨s1, s2, s3, s4⟩ := r4 h0
    have W5 : fr [76, 78] [(72, 9), (72, 10), (72, 12), (72, 13), (72, 14), (72, 15), (72, 16), (72, 17), (72, 19)] σ σ5 := W4.tr (x1.wk (by decide) (by decide))
    have h76' : ∀ k, k < 24 → σ5.1 76 k = f k := fun k hk => by
      rw [x1.r (by decide), g1.r (by decide), b1.r (by decide)]
      exact f76 k hk
    obtain ⟨τ, q1, q2, q3⟩ := m_lines (N := N) (cs := cs) (sh := tkX B n p) hN hkn he s1 s2 s3 hx hG (G4.fr x1 (by decide) (by decide)) h76' x4 (by rw [W5.f (by decide)]; exact h5) x2
    refine ⟨τ, W5.tr (q1.wk (by decide) (by decide)), q2, by rw [q1.f (by decide)]; exact x3, ?_⟩
    rw [x5, q3]
  refine ⟨fun h => ?_, fun h => ?_, fun h => ?_⟩
  · obtain ⟨τ, q1, q2, q3, q4⟩ := fin h.1
    have gd : MGd τ := ⟨by rw [q2.1, h.2]; rfl, q2.2.1 h.2⟩
    obtain ⟨υ, w1, w2, w3⟩ := m_goes (N := N) (cs := cs) hN hB (hT.fr q1 (by decide) (by decide)) r3 q3
    refine ⟨υ, q1.tr (w1.wk (by decide) (by decide)), gd.fr w1 (by decide) (by decide), w2, fun k hk => by rw [w1.r List.not_mem_nil]; exact q2.2.2.2 k hk, ?_⟩
    rw [q4]
    unfold g204_322
    rw [o72, m_ok gd.1, lf_ci_r, if_neg (by decide), o72, w3, lf_cv_r]
  · obtain ⟨τ, q1, q2, q3⟩ := y2 h
    exact ⟨τ, W4.tr (q1.wk (by decide) (by decide)), q2, q3⟩
  · obtain ⟨τ, q1, q2, q3, q4⟩ := fin h.1
    have vo := rdV_ok (B := B) hkn hq h.1 hG
    refine ⟨τ, q1, ⟨q2.1, q2.2.2.1 h.2⟩, ?_⟩
    rw [q4]
    unfold g204_322
    rw [o72, m_no (by rw [q2.1]; exact nI_z (by have := vo.1; omega) h.2), lf_ci_r, if_pos rfl]
end RDV
