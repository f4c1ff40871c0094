section FN
variable {cs : Nat × Nat} {N n d s : Nat} {f : Nat → Int32}
def TTf (k n : Nat) (f : Nat → Int32) : Nat := if k = 0 then (lq f n 0 n).length else n
theorem TTf_i {k j : Nat} (h : j < TTf k n f) : if k = 0 then j < (lq f n 0 n).length else j < n := by
  unfold TTf at h
  by_cases c : k = 0
  · rw [if_pos c] at h ⊢; exact h
  · rw [if_neg c] at h ⊢; exact h
theorem TTf_le {k : Nat} (hg : GW n d f) : TTf k n f ≤ 96 := by
  have := hg.l96
  have := hg.2.1
  unfold TTf
  split <;> omega
theorem m_lj2 {k i : Nat} {k114 : Nat → Int32 → Int32 → Int32 → Int32 → Int32 → lf_W → lf_R} (hg : GW n d f) (hN : iv_N N) (hk : k = 0 ∨ k = 1) : ∀ (m j u : Nat) (q : fq) (σ : hp_S), j + m = TTf k n f → i < j → m < u → q.1 ≤ 101 → MV σ n d f → lnM σ (lq f n 0 n) → MQf σ q → ∃ τ, fr mA mF σ τ ∧ MV τ n d f ∧ lnM τ (lq f n 0 n) ∧ MQf τ (fin (vFa k 2 (lq f n 0 n) (al n, f)) i m j q) ∧ g258_141 N k114 u 72 (nI k) (nI 2) (nI (TTf k n f)) (iB q.1) (nI i) (nI j) (hp σ, cs) = k114 72 (nI k) (nI 2) (nI (TTf k n f)) (iB (fin (vFa k 2 (lq f n 0 n) (al n, f)) i m j q).1) (nI (i + 1)) (hp τ, cs) := by
  have hT := TTf_le (k := k) hg
  intro m
  induction m with
  | zero =>
    intro j u q σ hj hij hu hq hm hL hQ
    obtain ⟨u, rfl⟩ : ∃ q, u = q + 1 := ⟨u - 1, by omega⟩
    refine ⟨σ, fr.rf, hm, hL, hQ, ?_⟩
    unfold g258_141 g258_157
    rw [if_pos (by decide), if_pos (nI_le (by omega) (by omega)), nI_1]
    rfl
  | succ m ih =>
    intro j u q σ hj hij hu hq hm hL hQ
    obtain ⟨u, rfl⟩ : ∃ q, u = q + 1 := ⟨u - 1, by omega⟩
    obtain ⟨τ, a1, a2, a3, a4, a5⟩ := m_step (N := N) (cs := cs) (M := 2) (T := TTf k n f) (i := i) (j := j) (q := q) (s0 := TTf k n f) (k114 := k114) (k141 := g258_141 N k114 u) hg hN hk (by omega) (by omega) (TTf_i (by omega)) (by omega) (by omega) (by omega) hq hm hL hQ
    obtain ⟨υ, p1, p2, p3, p4, p5⟩ := ih (j + 1) u _ τ (by omega) (by omega) (by omega) (fb_le (fun i j => vFa_le i j) hq) a2 a3 a4
    refine ⟨υ, a1.tr p1, p2, p3, p4, ?_⟩
    unfold g258_141
    rw [if_pos (by decide), a5]
    exact p5
theorem m_li {k M : Nat} (hg : GW n d f) (hN : iv_N N) (hk : k = 0 ∨ k = 1) (hM : M = 1 ∨ M = 2) : ∀ (m i u : Nat) (q : fq) (σ : hp_S), i + m = TTf k n f → m < u → q.1 ≤ 101 → MV σ n d f → lnM σ (lq f n 0 n) → MQf σ q → ∃ τ, fr mA mF σ τ ∧ MV τ n d f ∧ MQf τ (fout (vFa k M (lq f n 0 n) (al n, f)) M (TTf k n f) m i q) ∧ g258_114 N u 72 (nI k) (nI M) (nI (TTf k n f)) (iB q.1) (nI i) (hp σ, cs) = some (.inl (some (.int (iB (fout (vFa k M (lq f n 0 n) (al n, f)) M (TTf k n f) m i q).1))), (hp τ, cs)) := by
  have hT := TTf_le (k := k) hg
  intro m
  induction m with
  | zero =>
    intro i u q σ hi hu hq hm hL hQ
    obtain ⟨u, rfl⟩ : ∃ q, u = q + 1 := ⟨u - 1, by omega⟩
    refine ⟨σ, fr.rf, hm, hQ, ?_⟩
    unfold g258_114
    rw [if_pos (nI_le (by omega) (by omega))]
    rfl
  | succ m ih =>
    intro i u q σ hi hu hq hm hL hQ
    obtain ⟨u, rfl⟩ : ∃ q, u = q + 1 := ⟨u - 1, by omega⟩
    have body : ∃ τ, fr mA mF σ τ ∧ MV τ n d f ∧ lnM τ (lq f n 0 n) ∧ MQf τ (fbd (vFa k M (lq f n 0 n) (al n, f)) M (TTf k n f) i q) ∧ g258_114 N (u + 1) 72 (nI k) (nI M) (nI (TTf k n f)) (iB q.1) (nI i) (hp σ, cs) = g258_114 N u 72 (nI k) (nI M) (nI (TTf k n f)) (iB (fbd (vFa k M (lq f n 0 n) (al n, f)) M (TTf k n f) i q).1) (nI (i + 1)) (hp τ, cs) := by
      rcases hM with rfl | rfl
      · obtain ⟨N', hN'⟩ : ∃ x, N = x + 1 + 1 := ⟨N - 2, by unfold iv_N at hN; omega⟩
        obtain ⟨τ, a1, a2, a3, a4, a5⟩ := m_step (N := N) (cs := cs) (M := 1) (T := TTf k n f) (i := i) (j := i) (q := q) (s0 := i + 1) (k114 := g258_114 N u) (k141 := g258_141 N (g258_114 N u) (N' + 1)) hg hN hk (by omega) (by omega) (TTf_i (by omega)) (by omega) (by omega) (by omega) hq hm hL hQ
        refine ⟨τ, a1, a2, a3, a4, ?_⟩
        have e1 : g258_114 N (u + 1) 72 (nI k) (nI 1) (nI (TTf k n f)) (iB q.1) (nI i) (hp σ, cs) = g258_141 N (g258_114 N u) (N' + 1 + 1) 72 (nI k) (nI 1) (nI (TTf k n f)) (iB q.1) (nI i) (nI i) (hp σ, cs) := by
          conv => lhs; unfold g258_114
          unfold g258_139
          rw [if_neg (nI_ge (by omega) (by omega)), if_neg (show ¬ nI 1 ≤ 0 from by decide), if_neg (fun z => z rfl)]
          rw [show g258_141 N (g258_114 N u) N 72 (nI k) (nI 1) (nI (TTf k n f)) (iB q.1) (nI i) (nI i) (hp σ, cs) = g258_141 N (g258_114 N u) (N' + 1 + 1) 72 (nI k) (nI 1) (nI (TTf k n f)) (iB q.1) (nI i) (nI i) (hp σ, cs) from by rw [← hN']]
        have e2 : ∀ (x : Int32) (w : lf_W), g258_141 N (g258_114 N u) (N' + 1) 72 (nI k) (nI 1) (nI (TTf k n f)) x (nI i) (nI (i + 1)) w = g258_114 N u 72 (nI k) (nI 1) (nI (TTf k n f)) x (nI (i + 1)) w := by
          intro x w
          unfold g258_141 g258_157
          rw [if_neg (fun z => z rfl), nI_1, if_pos (nI_le (by omega) (by omega))]
        rw [e1]
        conv => lhs; unfold g258_141
        rw [if_neg (fun z => z rfl), nI_1, a5, e2]
        rfl
      · obtain ⟨τ, a1, a2, a3, a4, a5⟩ := m_lj2 (N := N) (cs := cs) (i := i) (k114 := g258_114 N u) hg hN hk (TTf k n f - (i + 1)) (i + 1) N q σ (by omega) (by omega) (by unfold iv_N at hN; omega) hq hm hL hQ
        refine ⟨τ, a1, a2, a3, a4, ?_⟩
        conv => lhs; unfold g258_114
        unfold g258_139
        rw [if_neg (nI_ge (by omega) (by omega)), if_neg (show ¬ nI 2 ≤ 0 from by decide), if_pos (by decide), nI_1, a5]
        rfl
    obtain ⟨τ, a1, a2, a3, a4, a5⟩ := body
    obtain ⟨υ, p1, p2, p3, p4⟩ := ih (i + 1) u _ τ (by omega) (by omega) (fbd_le (fun i j => vFa_le i j) hq) a2 a3 a4
    refine ⟨υ, a1.tr p1, p2, p3, ?_⟩
    rw [a5]
    exact p4
abbrev nA : List Nat := [76, 79, 80, 81, 103]
abbrev nF : List (Nat × Nat) := [(72, 20), (72, 24), (72, 25), (72, 58)]
theorem m_fpre {k : Nat} {σ' μ : hp_S} {x y : Int32} (hk : k = 0 ∨ k = 1) (hy : ¬ y < 0 ∧ ¬ 2 < y) (hm : μ.2.2.1 72 0 = 0) (hl : f178 N 72 x (hp σ', cs) = some (.inl (some (.int 1)), (hp μ, cs))) {ψ : hp_S} (hL : f216 N 72 (hp μ, cs) = some (.inl none, (hp ψ, cs))) : f258 N 72 x (nI k) y (hp σ', cs) = if ¬ nI k = 0 then ((lf_fi (hp ψ, cs) 72 12 4).bind fun v28 => g258_65 N 72 (nI k) y v28 (hp ψ, cs)) else ((lf_fi (hp ψ, cs) 72 12 20).bind fun v30 => g258_65 N 72 (nI k) y v30 (hp ψ, cs)) := by
  have e : g258_18 N 72 (nI k) y 72 (hp μ, cs) = if ¬ nI k = 0 then ((lf_fi (hp ψ, cs) 72 12 4).bind fun v28 => g258_65 N 72 (nI k) y v28 (hp ψ, cs)) else ((lf_fi (hp ψ, cs) 72 12 20).bind fun v30 => g258_65 N 72 (nI k) y v30 (hp ψ, cs)) := by
    unfold g258_18 g258_23
    rw [o72, m_rt hm (by decide), lf_ci_r, if_neg (by decide), m_within_in hy.1 hy.2, lf_ci_r, o72, m_rt hm (by decide), lf_ci_r, if_pos (by decide), o72, hL, lf_cv_r]
  unfold f258
  rw [o72, hl, lf_ci_r, if_neg (by decide)]
  rcases hk with rfl | rfl
  · rw [if_pos (show nI 0 = 0 from rfl)]
    exact e
  · rw [if_neg (by decide), if_neg (fun z => z rfl)]
    exact e
theorem m_none9 {k M : Nat} {μ : hp_S} (hg : GW n d f) (hN : iv_N N) (hk : k = 0 ∨ k = 1) (hM : M ≤ 2) (hno : (if k = 0 then (lq f n 0 n).length else n - 1) < M) (hm : MV μ n d f) : ∃ τ, fr nA nF μ τ ∧ ((fr [79, 80] [(72, 20)] μ τ)) ∧ ∀ (σ' : hp_S) (x : Int32), f178 N 72 x (hp σ', cs) = some (.inl (some (.int 1)), (hp μ, cs)) → f258 N 72 x (nI k) (nI M) (hp σ', cs) = some (.inl (some (.int (-1))), (hp τ, cs)) := by
  have hn := hg.2.1
  have h96 := hg.l96
  obtain ⟨ψ, r1, r2, r3⟩ := m_lists (σ := μ) (cs := cs) (N := N) hn hN hm.1 (fun k hk => hm.2.2.2 k (by omega)) h96
  refine ⟨ψ, r1.wk (fun _ z => by simp at z; rcases z with z | z <;> simp [z]) (fun _ z => by simp at z; simp [z]), r1, fun σ' x hl => ?_⟩
  rw [m_fpre hk ⟨nI_pos (by omega), nI_nlt (b := M) (a := 2) (by omega) (by omega)⟩ hm.2.2.1 hl r3]
  rcases hk with rfl | rfl
  · rw [if_pos rfl] at hno
    rw [if_neg (fun z => z rfl), i72_20, r2.1]
    unfold g258_65
    rw [if_pos (nI_lt hno (by omega))]
  · rw [if_neg (by decide)] at hno
    rw [if_pos (by decide), i72_4, r1.f (by decide), hm.1]
    unfold g258_65
    by_cases c : n < M
    · rw [if_pos (nI_lt c (by omega))]
    · have : M = n := by omega
      rw [if_neg (nI_nlt (by omega) (by omega)), if_neg (fun z => z rfl), i72_4, r1.f (by decide), hm.1, if_neg (fun z => z (by rw [this]))]
theorem m_found9 {k M : Nat} {μ : hp_S} (hg : GW n d f) (hN : iv_N N) (hk : k = 0 ∨ k = 1) (hM : M ≤ 2) (hno : ¬ (if k = 0 then (lq f n 0 n).length else n - 1) < M) (hm : MV μ n d f) : ∃ τ, fr nA nF μ τ ∧ τ.2.2.1 72 58 = nI M ∧ (1 ≤ M → MQf τ (fres (vFa k M (lq f n 0 n) (al n, f)) M (TTf k n f))) ∧ ∀ (σ' : hp_S) (x : Int32), f178 N 72 x (hp σ', cs) = some (.inl (some (.int 1)), (hp μ, cs)) → f258 N 72 x (nI k) (nI M) (hp σ', cs) = some (.inl (some (.int (iB (fres (vFa k M (lq f n 0 n) (al n, f)) M (TTf k n f)).1))), (hp τ, cs)) := by
  have h1 := hg.1
  have hn := hg.2.1
  have hw := hg.2.2.2.2.1
  have h96 := hg.l96
  have hT := TTf_le (k := k) hg
  obtain ⟨ψ, r1, r2, r3⟩ := m_lists (σ := μ) (cs := cs) (N := N) hn hN hm.1 (fun k hk => hm.2.2.2 k (by omega)) h96
  have hmψ : MV ψ n d f := hm.kept r1 (by decide) (by decide) (by decide) (by decide)
  have wψ : fr nA nF μ ψ := r1.wk (fun _ z => by simp at z; rcases z with z | z <;> simp [z]) (fun _ z => by simp at z; simp [z])
  have pre : ∀ (σ' : hp_S) (x : Int32), f178 N 72 x (hp σ', cs) = some (.inl (some (.int 1)), (hp μ, cs)) → f258 N 72 x (nI k) (nI M) (hp σ', cs) = g258_88 N 72 (nI k) (nI M) (nI (TTf k n f)) (hp ψ, cs) := by
    intro σ' x hl
    rw [m_fpre hk ⟨nI_pos (by omega), nI_nlt (b := M) (a := 2) (by omega) (by omega)⟩ hm.2.2.1 hl r3]
    rcases hk with rfl | rfl
    · rw [if_pos rfl] at hno
      rw [if_neg (fun z => z rfl), i72_20, r2.1]
      unfold g258_65
      rw [if_neg (nI_nlt (by omega) (by omega)), if_pos (by decide)]
      rfl
    · rw [if_neg (by decide)] at hno
      rw [if_pos (by decide), i72_4, hmψ.1]
      unfold g258_65
      rw [if_neg (nI_nlt (by omega) (by omega)), if_neg (fun z => z rfl), i72_4, hmψ.1, if_pos (by rw [q_eq (by omega) (by omega)]; omega)]
      rfl
  by_cases c : M = 0
  · subst c
    obtain ⟨σ3, c1, c2⟩ := m_farOf (σ := ψ) (cs := cs) (N := N) (A := al n) (g := f) hn hN (fun i hi => (al_in hn).mp hi) (fun x y hx hy hxy => (hw x (by have := (al_in hn).mp hx; omega) y hxy).2.2.2) hmψ.1 hmψ.2.2.2
    have c2' : f256 N 72 (lf_shl 1 (nI n) - 1) (hp ψ, cs) = _ := c2
    refine ⟨hp_wf σ3 72 58 (nI 0), (wψ.tr (c1.wk (fun _ z => by simp at z; simp [z]) (fun _ z => by simp at z; rcases z with z | z <;> simp [z]))).tr (fr.wf (by decide)), hp_wf_at, fun z => by omega, fun σ' x hl => ?_⟩
    have hgv : 1 ≤ gv f (al n) := by unfold gv; omega
    have hfr : fres (vFa k 0 (lq f n 0 n) (al n, f)) 0 (TTf k n f) = (gv f (al n), 0, 0) := by
      unfold fres
      rw [if_pos rfl]
      unfold fb vFa
      rw [if_pos rfl, if_pos (show (0, 0, 0).1 < gv f (al n) from hgv)]
    rw [pre σ' x hl, hfr]
    obtain ⟨N', hN'⟩ : ∃ x, N = x + 1 := ⟨N - 1, by unfold iv_N at hN; omega⟩
    have eend : ∀ (y : Int32) (w : lf_W), g258_114 N N 72 (nI k) (nI 0) (nI (TTf k n f)) y 0 w = some (.inl (some (.int y)), w) := by
      intro y w
      rw [show g258_114 N N 72 (nI k) (nI 0) (nI (TTf k n f)) y 0 w = g258_114 N (N' + 1) 72 (nI k) (nI 0) (nI (TTf k n f)) y 0 w from by rw [← hN']]
      unfold g258_114
      by_cases z : nI (TTf k n f) ≤ 0
      · rw [if_pos z]
      · rw [if_neg z, if_pos (by decide)]
    unfold g258_88 g258_104
    rw [if_neg (fun z => z rfl), o72, m_all hmψ.1, lf_ci_r, o72, c2', lf_ci_r, w72_58, eend]
    show _ = some (Sum.inl (some (Value.int (iB (gv f (al n))))), _)
    rw [show iB (gv f (al n)) = nI (gv f (al n) - 1) from by unfold iB; rw [if_neg (by omega)]]
  · obtain ⟨τ, a1, a2, a3, a4⟩ := m_li (N := N) (cs := cs) (k := k) (M := M) hg hN hk (by omega) (TTf k n f) 0 N (0, 0, 0) (hp_wf ψ 72 58 (nI M)) (by omega) (by unfold iv_N at hN; omega) (by show 0 ≤ 101; omega) ⟨by rw [hp_wf_ne (by decide)]; exact hmψ.1, by rw [hp_wf_ne (by decide)]; exact hmψ.2.1, by rw [hp_wf_ne (by decide)]; exact hmψ.2.2.1, hmψ.2.2.2⟩ ⟨by rw [hp_wf_ne (by decide)]; exact r2.1, r2.2⟩ (fun z => absurd rfl z)
    have hfr : fres (vFa k M (lq f n 0 n) (al n, f)) M (TTf k n f) = fout (vFa k M (lq f n 0 n) (al n, f)) M (TTf k n f) (TTf k n f) 0 (0, 0, 0) := by
      unfold fres
      rw [if_neg c]
    refine ⟨τ, (wψ.tr (fr.wf (by decide))).tr (a1.wk (fun _ z => by simp at z; rcases z with z | z | z <;> simp [z]) (fun _ z => by simp at z; rcases z with z | z <;> simp [z])), ?_, fun _ => by rw [hfr]; exact a3, fun σ' x hl => ?_⟩
    · rw [a1.f (by decide), hp_wf_at]
    · rw [pre σ' x hl, hfr]
      unfold g258_88 g258_104
      rw [if_pos (show ¬ nI M = 0 from nI_ne0 (by omega) (by omega)), w72_58]
      exact a4
end FN
theorem case_falls {J : iv_J} {rd : iv_rd} {N : Nat} (hN : iv_N N) : iv_caseN J rd N g327_1957 := by
  intro sc i σ cs hs hi hI
  have key : ∃ (τ : hp_S) (ds : Nat × Nat), iv J τ ∧ ds.1 ≤ cs.1 + 1 ∧ ds.2 ≤ cs.2 + 6 ∧ ∀ k : lf_W → lf_R, tl_I (tc_I [("java/util/NoSuchElementException", 1), ("java/lang/IllegalArgumentException", 2)] (f154 N 0 (sc.2 (i + 1)) (sc.2 (i + 2)) (sc.2 (i + 3)) (hp σ, cs))) (fun w => f258 N 72 (sc.2 (i + 1)) (sc.2 (i + 2)) (sc.2 (i + 3)) w) k = k (hp τ, ds) := by
    generalize sc.2 (i + 1) = x
    generalize sc.2 (i + 2) = y
    generalize sc.2 (i + 3) = z
    rcases iv_view hI x with h | ⟨s, n, d, hs8, rfl, hg, hv, hm⟩
    · refine n_askI hI (Or.inr ⟨"java/util/NoSuchElementException", 1, σ, iv_kept.rf σ, by decide, rfl, ?_, fun σ' ds hI' hk => ⟨hp_wf (hp_wf σ' 72 0 0) 72 0 1, 0, iv_k0.tr iv_k0, hp_wf_at, ?_⟩⟩)
      · unfold f154
        rw [o0, c_held_no h]
        rfl
      · show f258 N 72 x y z (hp σ', ds) = _
        unfold f258
        rw [o72, m_lays_no (h.kept hk), lf_ci_r, if_pos rfl]
    · have hn1 := hg.1
      have hn := hg.2.1
      have h96 := hg.l96
      have hne : ¬ σ.2.2.1 (2 + 2 * s) 1 = 0 := by rw [hv.1]; exact nI_ne0 (by omega) (by omega)
      have hsw := hI.2.2.2.2.2.2.2
      -- the kind
      have hkind : (¬ y = 0 ∧ ¬ y = 1 ∧ (y < 0 ∨ ¬ y ≤ 1)) ∨ ∃ k, (k = 0 ∨ k = 1) ∧ y = nI k := by
        rcases pk_ix y (n := 2) (by omega) with h | h | ⟨k, hk, rfl⟩
        · exact Or.inl ⟨by rintro rfl; exact absurd h (by decide), by rintro rfl; exact absurd h (by decide), Or.inl h⟩
        · refine Or.inl ⟨by rintro rfl; exact absurd h (by decide), by rintro rfl; exact absurd h (by decide), Or.inr (fun q => ?_)⟩
          rw [fa_le] at q h
          have h2 : (nI 2).toInt = 2 := rfl
          have h1 : (1 : Int32).toInt = 1 := rfl
          rw [h1] at q
          rw [h2] at h
          omega
        · exact Or.inr ⟨k, by omega, rfl⟩
      rcases hkind with ⟨y0, y1, hy⟩ | ⟨k, hk, rfl⟩
      · refine n_askI hI (Or.inr ⟨"java/util/NoSuchElementException", 1, σ, iv_kept.rf σ, by decide, rfl, ?_, fun σ' ds hI' hk => ?_⟩)
        · unfold f154
          rw [o0, c_held hs8 hne, lf_cr_r]
          by_cases c : y < 0
          · rw [if_pos c]
          · rw [if_neg c, if_neg (hy.resolve_left c)]
        · obtain ⟨m1, m2⟩ := hm σ' hk
          refine ⟨hp_wf (m_laid σ' s) 72 0 1, 0, m_laid_kept.tr (iv_kept.wm (by omega)), hp_wf_at, ?_⟩
          show f258 N 72 (nI s) y z (hp σ', ds) = _
          unfold f258 g258_23
          rw [o72, m2 N ds hN, lf_ci_r, if_neg (by decide), if_neg y0, if_pos y1, o72, m_rf m1.2.2.1 (by decide), lf_ci_r, if_pos rfl]
      · have hk01 : ¬ nI k < 0 ∧ nI k ≤ 1 := by rcases hk with rfl | rfl <;> exact ⟨by decide, by decide⟩
        have hmany : ((z < 0 ∨ ¬ z ≤ 2) ∧ (z < 0 ∨ 2 < z)) ∨ ∃ M, M ≤ 2 ∧ z = nI M := by
          rcases pk_ix z (n := 3) (by omega) with h | h | ⟨M, hM, rfl⟩
          · exact Or.inl ⟨Or.inl h, Or.inl h⟩
          · rw [fa_le] at h
            have h3 : (nI 3).toInt = 3 := rfl
            have h2 : (2 : Int32).toInt = 2 := rfl
            refine Or.inl ⟨Or.inr (fun q => ?_), Or.inr ?_⟩
            · rw [fa_le, h2] at q
              rw [h3] at h
              omega
            · rw [fa_lt, h2]
              rw [h3] at h
              omega
          · exact Or.inr ⟨M, by omega, rfl⟩
        rcases hmany with ⟨hz1, hz2⟩ | ⟨M, hM, rfl⟩
        · refine n_askI hI (Or.inr ⟨"java/lang/IllegalArgumentException", 2, σ, iv_kept.rf σ, by decide, rfl, ?_, fun σ' ds hI' hk' => ?_⟩)
          · unfold f154
            rw [o0, c_held hs8 hne, lf_cr_r, if_neg hk01.1, if_pos hk01.2]
            by_cases c : z < 0
            · rw [if_pos c]
            · rw [if_neg c, if_neg (hz1.resolve_left c)]
          · obtain ⟨m1, m2⟩ := hm σ' hk'
            refine ⟨hp_wf (m_laid σ' s) 72 0 2, 0, m_laid_kept.tr (iv_kept.wm (by omega)), hp_wf_at, ?_⟩
            show f258 N 72 (nI s) (nI k) z (hp σ', ds) = _
            have hwi : f176 N z 0 2 (hp (m_laid σ' s), ds) = some (.inl (some (.int 0)), (hp (m_laid σ' s), ds)) := by
              rcases hz2 with h | h
              · exact m_within_lo h
              · exact m_within_hi h
            have e : g258_18 N 72 (nI k) z 72 (hp (m_laid σ' s), ds) = some (.inl (some (.int 0)), (hp (hp_wf (m_laid σ' s) 72 0 2), ds)) := by
              unfold g258_18 g258_23
              rw [o72, m_rt m1.2.2.1 (by decide), lf_ci_r, if_neg (by decide), hwi, lf_ci_r, o72, m_rf m1.2.2.1 (by decide), lf_ci_r, if_neg (fun q => q rfl)]
            unfold f258
            rw [o72, m2 N ds hN, lf_ci_r, if_neg (by decide)]
            rcases hk with rfl | rfl
            · rw [if_pos (show nI 0 = 0 from rfl)]; exact e
            · rw [if_neg (by decide), if_neg (fun q => q rfl)]; exact e
        · have hM01 : ¬ nI M < 0 ∧ nI M ≤ 2 := ⟨nI_pos (by omega), nI_le (b := 2) hM (by omega)⟩
          have cpre : f154 N 0 (nI s) (nI k) (nI M) (hp σ, cs) = lf_ci (f17 N 53 (2 + 2 * s) (nI k) (nI M) (hp σ, cs)) fun v7 w1 => some (.inl (some (.int v7)), w1) := by
            unfold f154 g154_57
            rw [o0, c_held hs8 hne, lf_cr_r, if_neg hk01.1, if_pos hk01.2, if_neg hM01.1, if_pos hM01.2, r0_9]
            rcases hk with rfl | rfl
            · rw [if_pos (by decide), o53]
              rfl
            · rw [if_neg (fun q => q rfl), o53]
              rfl
          obtain ⟨cw1, cw2⟩ := c_worst (N := N) (cs := cs) (σ := σ) hs8 hg hN hk hM hv hsw.1
          by_cases cno : (if k = 0 then (lq (σ.1 (3 + 2 * s)) n 0 n).length else n - 1) < M
          · obtain ⟨τ, q1, q2⟩ := cw1 cno
            refine n_askI hI (Or.inl ⟨-1, τ, q1.kept rfl rfl, by rw [cpre, q2, lf_ci_r], fun σ' hI' hk' => ?_⟩)
            obtain ⟨m1, m2⟩ := hm σ' hk'
            obtain ⟨ψ, r1, r2, r3⟩ := m_none9 (N := N) (cs := cs) hg hN hk hM cno m1
            refine ⟨ψ, m_laid_kept.tr (r2.kept rfl rfl), ?_, ?_, r3 σ' (nI s) (m2 N cs hN)⟩
            · rw [r2.l (by decide), m_laid_l]
            · rw [r2.f (by decide)]; exact m1.2.2.1
          · obtain ⟨τ, q1, q2, q3, q4, q5⟩ := cw2 cno
            have hcl : f154 N 0 (nI s) (nI k) (nI M) (hp σ, cs) = some (.inl (some (.int (iB (fres (vFa k M (lq (σ.1 (3 + 2 * s)) n 0 n) (al n, σ.1 (3 + 2 * s))) M (TTf k n (σ.1 (3 + 2 * s)))).1))), (hp τ, cs)) := by
              rw [cpre, q5, lf_ci_r]
              rfl
            have q4' : CQ M τ (fres (vFa k M (lq (σ.1 (3 + 2 * s)) n 0 n) (al n, σ.1 (3 + 2 * s))) M (TTf k n (σ.1 (3 + 2 * s)))) := q4
            clear q4 q5
            generalize hres : fres (vFa k M (lq (σ.1 (3 + 2 * s)) n 0 n) (al n, σ.1 (3 + 2 * s))) M (TTf k n (σ.1 (3 + 2 * s))) = res at *
            obtain ⟨n1, n2, n3, n4⟩ := hI.1 s hs8
            have w1 : fr [30, 31, 54, 55, 56, 117] wF σ (hp_wl τ 117 0 (iB res.1).toInt64) := (q1.wk (fun _ z => by simp at z; rcases z with z | z | z | z | z <;> simp [z]) (fun _ z => z)).tr (fr.wl (by decide))
            have e73 : (hp_wl τ 117 0 (iB res.1).toInt64).1 73 = σ.1 73 := w1.r (by decide)
            have e74 : (hp_wl τ 117 0 (iB res.1).toInt64).1 74 = σ.1 74 := w1.r (by decide)
            have e75 : (hp_wl τ 117 0 (iB res.1).toInt64).1 75 = σ.1 75 := w1.r (by decide)
            have k73 : σ.1 73 s = nI n := n1.symm.trans hv.1
            have hmv : MV (m_laid (hp_wl τ 117 0 (iB res.1).toInt64) s) n d (σ.1 (3 + 2 * s)) := ⟨by rw [m_laid_k, e73]; exact k73, by rw [m_laid_d, e74]; exact n2.symm.trans hv.2.1, m_laid_0, fun j hj => by rw [m_laid_j hj, e75]; exact (n3 j hj).symm⟩
            have hlay : f178 N 72 (nI s) (hp (hp_wl τ 117 0 (iB res.1).toInt64), cs) = some (.inl (some (.int 1)), (hp (m_laid (hp_wl τ 117 0 (iB res.1).toInt64) s), cs)) := m_lays hs8 (by rw [e73, k73]; exact nI_pos1 hn1 hn) hN
            obtain ⟨ψ, r1, r2, r3, r4⟩ := m_found9 (N := N) (cs := cs) hg hN hk hM cno hmv
            rw [hres] at r3 r4
            have w2 : fr [76] [(72, 0), (72, 4), (72, 5)] (hp_wl τ 117 0 (iB res.1).toInt64) (m_laid (hp_wl τ 117 0 (iB res.1).toInt64) s) := (fr.wf (by decide)).tr ((fr.wf (by decide)).tr ((fr.wf (by decide)).tr (fr.fill (by decide))))
            have W : fr [30, 31, 54, 55, 56, 117, 76, 79, 80, 81, 103] [(29, 0), (29, 1), (29, 3), (29, 4), (53, 4), (53, 5), (53, 6), (53, 7), (53, 8), (53, 9), (72, 0), (72, 4), (72, 5), (72, 20), (72, 24), (72, 25), (72, 58)] σ ψ := ((w1.wk (fun _ z => by simp at z; rcases z with z | z | z | z | z | z <;> simp [z]) (fun _ z => by simp at z; rcases z with z | z | z | z | z | z | z | z | z | z <;> simp [z])).tr (w2.wk (fun _ z => by simp at z; simp [z]) (fun _ z => by simp at z; rcases z with z | z | z <;> simp [z]))).tr (r1.wk (fun _ z => by simp at z; rcases z with z | z | z | z | z <;> simp [z]) (fun _ z => by simp at z; rcases z with z | z | z | z <;> simp [z]))
            have w56 : ψ.1 56 = τ.1 56 := by
              rw [r1.r (by decide), w2.r (by decide)]
              rfl
            have w53 : ψ.2.2.1 53 4 = nI M := by
              rw [r1.f (by decide), w2.f (by decide)]
              exact q3
            have hres1 : 1 ≤ M → 1 ≤ res.1 := by
              intro hM1
              rw [← hres]
              unfold fres
              rw [if_neg (by omega)]
              refine fout_pos (fun i j => vFa_1 i j) hM1 hM ?_ _
              unfold TTf
              by_cases ck : k = 0
              · rw [if_pos ck] at cno ⊢; omega
              · rw [if_neg ck] at cno ⊢; omega
            have hfall : iv_fall ψ := by
              refine ⟨M, hM, w53, r2, fun j hj => ?_⟩
              have hr := hres1 (by omega)
              obtain ⟨g1, g2⟩ := q4'.2 (by omega)
              obtain ⟨g3, g4⟩ := r3 (by omega) (by omega)
              rw [w56]
              by_cases cj : j = 0
              · rw [cj, g3]; exact g1 (by omega)
              · have : j = 1 := by omega
                rw [this, g4]; exact g2 (by omega)
            have hsw2 : iv_sw ψ := by
              refine ⟨?_, by rw [W.g (by decide), W.g (by decide)]; exact hsw.2.1, by rw [W.g (by decide), W.g (by decide)]; exact hsw.2.2⟩
              rw [r1.g (by decide), r1.g (by decide), w2.g (by decide), w2.g (by decide)]
              exact q2
            obtain ⟨h1, h2, h3, h4, h5, h6, h7, -⟩ := hI
            refine ⟨ψ, cs, ⟨h1.fr (fun s hs => ⟨W.f (by simp <;> omega), W.f (by simp <;> omega), W.r (by simp <;> omega)⟩) (W.r (by decide)) (W.r (by decide)) (W.r (by decide)), h2.fr (W.f (by decide)) (W.f (by decide)) (W.r (by decide)) (W.r (by decide)), h3.fr (W.f (by decide)) (W.f (by decide)), h4.fr (fun k hk => W.f (by simp <;> omega)) (fun k k1 k2 => W.f (by simp <;> omega)), hfall, h6.fr (W.f (by decide)) (W.f (by decide)) (W.r (by decide)) (W.r (by decide)), ?_, hsw2⟩, Nat.le_add_right _ _, Nat.le_add_right _ _, fun kk => ?_⟩
            · rw [iv_cs.fr (fun a ha => W.r (by rcases ha with rfl | rfl | rfl | rfl | rfl | rfl | rfl | rfl | rfl <;> decide))]
              exact h7
            · refine tl_I_ok (tc_I_ret hcl) (r4 _ _ hlay) (by rw [r1.f (by decide)]; exact m_laid_0) (fun _ => ?_)
              rw [r1.l (by decide), m_laid_l, tl_wl_at]
  obtain ⟨τ, ds, q1, q2, q3, q4⟩ := key
  refine ⟨τ, ds, q1, q2, q3, fun k23 => ?_⟩
  rw [← q4 (k23 (nI i + 6))]
  unfold g327_1957 h313 f313
  simp only [iv_s1 hs hi, iv_s2 hs hi, iv_s3 hs hi, Option.bind_some, if_pos hp_x]
  rfl
