/-! how many of the own numbers lie over x -/
def dI (X : Int64) (i : Nat) : Nat → (Nat → Int64) → (Nat → Int64)
  | 0, P => P
  | m + 1, P => dI X i m (fun j => if j = i + m then P (i + m) + X * P (i + m + 1) else P j)
def dO (X : Int64) (n : Nat) : Nat → Nat → (Nat → Int64) → (Nat → Int64)
  | 0, _, P => P
  | m + 1, i, P => dO X n m (i + 1) (dI X i (n - i) P)
def sC (P : Nat → Int64) : Nat → Nat → Bool → Nat
  | 0, c, _ => c
  | m + 1, c, p => if P m = 0 then sC P m c p else if decide (0 < P m) = p then sC P m c p else sC P m (c + 1) (!p)
theorem cnt_m {i m : Nat} (h : i + m < 2 ^ 30) : (nI (i + m) - 1 < nI i) ↔ m = 0 := by
  rw [fa_lt, show nI (i + m) - 1 = nI (i + m) - nI 1 from rfl, pk_sub_toInt h (by omega), nI_toInt (by omega)]
  omega
theorem cnt_0 {m : Nat} (h : m < 2 ^ 30) : (nI m - 1 < 0) ↔ m = 0 := by
  have := cnt_m (i := 0) (m := m) (by omega)
  rw [Nat.zero_add] at this
  exact this
section AV
variable {cs : Nat × Nat} {N n : Nat}
theorem c_dI {x : Int32} {i : Nat} {k13 : Nat → Int32 → Int32 → Int32 → lf_W → lf_R} (hn : n ≤ 12) (hi : i < n) : ∀ (m u : Nat) (P : Nat → Int64) (σ : hp_S), i + m ≤ n → m < u → (∀ j, j ≤ n → σ.2.1 41 j = P j) → ∃ τ, fr [41] [] σ τ ∧ (∀ j, j ≤ n → τ.2.1 41 j = dI x.toInt64 i m P j) ∧ g67_24 N k13 u 37 x (nI n) (nI i) (nI (i + m) - 1) (hp σ, cs) = k13 37 x (nI n) (nI (i + 1)) (hp τ, cs) := by
  intro m
  induction m with
  | zero =>
    intro u P σ hm hu hP
    obtain ⟨u, rfl⟩ : ∃ q, u = q + 1 := ⟨u - 1, by omega⟩
    refine ⟨σ, fr.rf, hP, ?_⟩
    unfold g67_24
    rw [if_pos ((cnt_m (by omega)).mpr rfl), nI_1]
  | succ m ih =>
    intro u P σ hm hu hP
    obtain ⟨u, rfl⟩ : ∃ q, u = q + 1 := ⟨u - 1, by omega⟩
    have em : nI (i + (m + 1)) - 1 = nI (i + m) := pk_sub (a := i + (m + 1)) (b := 1) (by omega)
    have ed : nI (i + m) + (-1) = nI (i + m) - 1 := by rw [Int32.sub_eq_add_neg]
    obtain ⟨τ, q1, q2, q3⟩ := ih u (fun j => if j = i + m then P (i + m) + x.toInt64 * P (i + m + 1) else P j) (hp_wl σ 41 (i + m) (P (i + m) + x.toInt64 * P (i + m + 1))) (by omega) (by omega) (fun j hj => by
      by_cases c : j = i + m
      · rw [if_pos c, c, hp_wl_at]
      · rw [if_neg c, hp_wl_nj c, hP j hj])
    refine ⟨τ, (fr.wl (by decide)).tr q1, q2, ?_⟩
    unfold g67_24
    rw [if_neg (fun q => absurd ((cnt_m (by omega)).mp q) (by omega)), em, r37_3, a41 (by omega), r37_3, nI_1, a41 (by omega), hP _ (by omega), hP _ (by omega), b41 (by omega), ed]
    exact q3
theorem c_dO {x : Int32} (hn : n ≤ 12) (hN : iv_N N) : ∀ (m i u : Nat) (P : Nat → Int64) (σ : hp_S), i + m = n → m < u → (∀ j, j ≤ n → σ.2.1 41 j = P j) → ∃ τ, fr [41] [] σ τ ∧ (∀ j, j ≤ n → τ.2.1 41 j = dO x.toInt64 n m i P j) ∧ g67_13 N u 37 x (nI n) (nI i) (hp σ, cs) = g67_74 N N 37 0 1 (nI n) (hp τ, cs) := by
  intro m
  induction m with
  | zero =>
    intro i u P σ hi hu hP
    obtain ⟨u, rfl⟩ : ∃ q, u = q + 1 := ⟨u - 1, by omega⟩
    refine ⟨σ, fr.rf, hP, ?_⟩
    unfold g67_13
    rw [if_pos (nI_le (by omega) (by omega))]
  | succ m ih =>
    intro i u P σ hi hu hP
    obtain ⟨u, rfl⟩ : ∃ q, u = q + 1 := ⟨u - 1, by omega⟩
    obtain ⟨τ, q1, q2, q3⟩ := c_dI (N := N) (cs := cs) (x := x) (i := i) (k13 := g67_13 N u) hn (by omega) (n - i) N P σ (by omega) (by unfold iv_N at hN; omega) hP
    rw [show i + (n - i) = n by omega] at q3
    obtain ⟨υ, p1, p2, p3⟩ := ih (i + 1) u _ τ (by omega) (by omega) q2
    refine ⟨υ, q1.tr p1, p2, ?_⟩
    unfold g67_13
    rw [if_neg (nI_ge (by omega) (by omega)), q3]
    exact p3
theorem c_sC {P : Nat → Int64} {σ : hp_S} (hn : n ≤ 12) (hP : ∀ j, j ≤ n → σ.2.1 41 j = P j) : ∀ (m u c : Nat) (p : Bool), m ≤ n + 1 → m < u → g67_74 N u 37 (nI c) (if p = true then 1 else 0) (nI m - 1) (hp σ, cs) = some (.inl (some (.int (nI (sC P m c p)))), (hp σ, cs)) := by
  intro m
  induction m with
  | zero =>
    intro u c p hm hu
    obtain ⟨u, rfl⟩ : ∃ q, u = q + 1 := ⟨u - 1, by omega⟩
    unfold g67_74
    rw [if_pos ((cnt_0 (by omega)).mpr rfl)]
    rfl
  | succ m ih =>
    intro u c p hm hu
    obtain ⟨u, rfl⟩ : ∃ q, u = q + 1 := ⟨u - 1, by omega⟩
    have em : nI (m + 1) - 1 = nI m := pk_sub (a := m + 1) (b := 1) (by omega)
    have ed : nI m + (-1) = nI m - 1 := by rw [Int32.sub_eq_add_neg]
    have es : sC P (m + 1) c p = if P m = 0 then sC P m c p else if decide (0 < P m) = p then sC P m c p else sC P m (c + 1) (!p) := rfl
    rw [es, g67_74]
    unfold g67_108 g67_123 g67_128
    rw [if_neg (fun q => absurd ((cnt_0 (by omega)).mp q) (by omega)), em, r37_3, a41 (by omega), hP m (by omega)]
    by_cases c0 : P m = 0
    · rw [if_pos ((lg_cmp_eq _ _).mpr c0), if_pos c0, ed]
      exact ih u c p (by omega) (by omega)
    · rw [if_neg (fun q => c0 ((lg_cmp_eq _ _).mp q)), if_neg c0, r37_3, a41 (by omega), hP m (by omega), ed]
      by_cases c1 : 0 < P m
      · rw [if_neg (fun q => by
          have := (lg_cmp_le _ _).mp q
          rw [fa_le64] at this
          rw [fa_lt64] at c1
          omega), decide_eq_true c1]
        cases p with
        | true =>
          rw [if_pos rfl, if_pos rfl]
          exact ih u c true (by omega) (by omega)
        | false =>
          rw [if_neg (by decide), if_neg (by decide), if_neg (by decide), nI_1]
          exact ih u (c + 1) true (by omega) (by omega)
      · rw [if_pos ((lg_cmp_le _ _).mpr (by rw [fa_le64]; rw [fa_lt64] at c1; omega)), decide_eq_false c1]
        cases p with
        | true =>
          rw [if_neg (by decide), if_pos (by decide), if_neg (by decide), nI_1]
          exact ih u (c + 1) false (by omega) (by omega)
        | false =>
          rw [if_pos rfl, if_pos (by decide)]
          exact ih u c false (by omega) (by omega)
theorem m_dI {x : Int32} {i : Nat} {k49 : Nat → Int32 → Int32 → lf_W → lf_R} (hn : n ≤ 12) (hi : i < n) : ∀ (m u : Nat) (P : Nat → Int64) (σ : hp_S), i + m ≤ n → m < u → (∀ j, j ≤ n → σ.2.1 85 j = P j) → ∃ τ, fr [85] [] σ τ ∧ (∀ j, j ≤ n → τ.2.1 85 j = dI x.toInt64 i m P j) ∧ g235_65 N k49 u 72 x (nI i) (nI (i + m) - 1) (hp σ, cs) = k49 72 x (nI (i + 1)) (hp τ, cs) := by
  intro m
  induction m with
  | zero =>
    intro u P σ hm hu hP
    obtain ⟨u, rfl⟩ : ∃ q, u = q + 1 := ⟨u - 1, by omega⟩
    refine ⟨σ, fr.rf, hP, ?_⟩
    unfold g235_65
    rw [if_pos ((cnt_m (by omega)).mpr rfl), nI_1]
  | succ m ih =>
    intro u P σ hm hu hP
    obtain ⟨u, rfl⟩ : ∃ q, u = q + 1 := ⟨u - 1, by omega⟩
    have em : nI (i + (m + 1)) - 1 = nI (i + m) := pk_sub (a := i + (m + 1)) (b := 1) (by omega)
    have ed : nI (i + m) + (-1) = nI (i + m) - 1 := by rw [Int32.sub_eq_add_neg]
    obtain ⟨τ, q1, q2, q3⟩ := ih u (fun j => if j = i + m then P (i + m) + x.toInt64 * P (i + m + 1) else P j) (hp_wl σ 85 (i + m) (P (i + m) + x.toInt64 * P (i + m + 1))) (by omega) (by omega) (fun j hj => by
      by_cases c : j = i + m
      · rw [if_pos c, c, hp_wl_at]
      · rw [if_neg c, hp_wl_nj c, hP j hj])
    refine ⟨τ, (fr.wl (by decide)).tr q1, q2, ?_⟩
    unfold g235_65
    rw [if_neg (fun q => absurd ((cnt_m (by omega)).mp q) (by omega)), em, r72_29, a85 (by omega), r72_29, nI_1, a85 (by omega), hP _ (by omega), hP _ (by omega), b85 (by omega), ed]
    exact q3
theorem m_dO {x : Int32} (hn : n ≤ 12) (hN : iv_N N) : ∀ (m i u : Nat) (P : Nat → Int64) (σ : hp_S), i + m = n → m < u → σ.2.2.1 72 4 = nI n → (∀ j, j ≤ n → σ.2.1 85 j = P j) → ∃ τ, fr [85] [] σ τ ∧ (∀ j, j ≤ n → τ.2.1 85 j = dO x.toInt64 n m i P j) ∧ g235_49 N u 72 x (nI i) (hp σ, cs) = g235_116 N N 72 0 1 (nI n) (hp τ, cs) := by
  intro m
  induction m with
  | zero =>
    intro i u P σ hi hu e hP
    obtain ⟨u, rfl⟩ : ∃ q, u = q + 1 := ⟨u - 1, by omega⟩
    refine ⟨σ, fr.rf, hP, ?_⟩
    unfold g235_49
    rw [i72_4, e, if_pos (nI_le (by omega) (by omega)), i72_4, e]
  | succ m ih =>
    intro i u P σ hi hu e hP
    obtain ⟨u, rfl⟩ : ∃ q, u = q + 1 := ⟨u - 1, by omega⟩
    obtain ⟨τ, q1, q2, q3⟩ := m_dI (N := N) (cs := cs) (x := x) (i := i) (k49 := g235_49 N u) hn (by omega) (n - i) N P σ (by omega) (by unfold iv_N at hN; omega) hP
    rw [show i + (n - i) = n by omega] at q3
    obtain ⟨υ, p1, p2, p3⟩ := ih (i + 1) u _ τ (by omega) (by omega) (by rw [q1.f List.not_mem_nil]; exact e) q2
    refine ⟨υ, q1.tr p1, p2, ?_⟩
    unfold g235_49
    rw [i72_4, e, if_neg (nI_ge (by omega) (by omega)), i72_4, e, q3]
    exact p3
theorem m_sC {P : Nat → Int64} {σ : hp_S} (hn : n ≤ 12) (hP : ∀ j, j ≤ n → σ.2.1 85 j = P j) : ∀ (m u c : Nat) (p : Bool), m ≤ n + 1 → m < u → g235_116 N u 72 (nI c) (if p = true then 1 else -1) (nI m - 1) (hp σ, cs) = some (.inl (some (.int (nI (sC P m c p)))), (hp σ, cs)) := by
  intro m
  induction m with
  | zero =>
    intro u c p hm hu
    obtain ⟨u, rfl⟩ : ∃ q, u = q + 1 := ⟨u - 1, by omega⟩
    unfold g235_116
    rw [if_pos ((cnt_0 (by omega)).mpr rfl)]
    rfl
  | succ m ih =>
    intro u c p hm hu
    obtain ⟨u, rfl⟩ : ∃ q, u = q + 1 := ⟨u - 1, by omega⟩
    have em : nI (m + 1) - 1 = nI m := pk_sub (a := m + 1) (b := 1) (by omega)
    have ed : nI m + (-1) = nI m - 1 := by rw [Int32.sub_eq_add_neg]
    have es : sC P (m + 1) c p = if P m = 0 then sC P m c p else if decide (0 < P m) = p then sC P m c p else sC P m (c + 1) (!p) := rfl
    rw [es, g235_116]
    unfold g235_154 g235_177 g235_183
    rw [if_neg (fun q => absurd ((cnt_0 (by omega)).mp q) (by omega)), em, r72_29, a85 (by omega), hP m (by omega), ed]
    have z0 : nI c + 0 = nI c := Int32.add_zero _
    by_cases c1 : 0 < P m
    · have c0 : ¬ P m = 0 := by
        intro q
        rw [q] at c1
        exact absurd c1 (by decide)
      rw [if_neg (fun q => by
        have := (lg_cmp_le _ _).mp q
        rw [fa_le64] at this
        rw [fa_lt64] at c1
        omega), if_neg c0, decide_eq_true c1, if_pos (by decide)]
      cases p with
      | true =>
        rw [if_pos rfl, if_pos rfl, z0]
        exact ih u c true (by omega) (by omega)
      | false =>
        rw [if_neg (by decide), if_neg (by decide), nI_1]
        exact ih u (c + 1) true (by omega) (by omega)
    · rw [if_pos ((lg_cmp_le _ _).mpr (by rw [fa_le64]; rw [fa_lt64] at c1; omega)), r72_29, a85 (by omega), hP m (by omega), decide_eq_false c1]
      by_cases c0 : P m = 0
      · rw [if_pos ((lg_cmp_ge _ _).mpr (by rw [c0, fa_le64]; omega)), if_pos c0, if_neg (fun q => q rfl)]
        exact ih u c p (by omega) (by omega)
      · rw [if_neg (fun q => by
          have h1 := (lg_cmp_ge _ _).mp q
          rw [fa_le64] at h1
          rw [fa_lt64] at c1
          exact c0 (by rw [fa_eq64]; omega)), if_neg c0, if_pos (by decide)]
        cases p with
        | true =>
          rw [if_neg (by decide), if_neg (by decide), nI_1]
          exact ih u (c + 1) false (by omega) (by omega)
        | false =>
          rw [if_pos rfl, if_pos (by decide), z0]
          exact ih u c false (by omega) (by omega)
end AV
theorem case_above {J : iv_J} {rd : iv_rd} {N : Nat} (hN : iv_N N) : iv_caseN J rd N g327_1263 := by
  intro sc i σ cs hs hi hI
  have key : ∃ (τ : hp_S) (ds : Nat × Nat), iv J τ ∧ ds.1 ≤ cs.1 + 1 ∧ ds.2 ≤ cs.2 + 6 ∧ ∀ k : lf_W → lf_R, tl_I (tc_I [("java/util/NoSuchElementException", 1), ("java/lang/IllegalArgumentException", 2)] (f145 N 0 (sc.2 (i + 1)) (sc.2 (i + 2)) (hp σ, cs))) (fun w => f235 N 72 (sc.2 (i + 1)) (sc.2 (i + 2)) w) k = k (hp τ, ds) := by
    generalize sc.2 (i + 1) = x
    generalize sc.2 (i + 2) = y
    refine askI (x := x) hI hN rfl (fun h => ?_) (fun σ' ds w h => ?_) (fun s n d f hs8 hx hg hv => ?_)
    · unfold f145
      rw [o0, c_held_no h]
      rfl
    · unfold f235
      rw [o72, h, lf_ci_r, if_pos rfl]
    · subst hx
      have hn1 := hg.1
      have hn := hg.2.1
      have hne : ¬ σ.2.2.1 (2 + 2 * s) 1 = 0 := by rw [hv.1]; exact nI_ne0 (by omega) (by omega)
      by_cases good : ¬ (12 : Int32) < nI n ∧ ¬ y < -12 ∧ ¬ 12 < y
      · obtain ⟨g0, g1, g2⟩ := good
        have h12 : n ≤ 12 := by
          have : ¬ nI 12 < nI n := g0
          rw [q_lt (by omega) (by omega)] at this
          omega
        obtain ⟨τ, q1, q2, q3, q4⟩ := c_expand (σ := σ) (cs := cs) (N := N) hs8 hn1 h12 hg.2.2.2.2.1 hN hI.2.2.2.2.2.2.2.2.1 hv.1 hv.2.2
        have hP : ∀ j, j ≤ n → τ.2.1 41 j = cf f n (n - j) := fun j hj => by rw [← q3 (n - j) (by omega), show n - (n - j) = j by omega]
        obtain ⟨υ, p1, p2, p3⟩ := c_dO (N := N) (cs := cs) (x := y) h12 hN n 0 N (fun j => cf f n (n - j)) τ (by omega) (by unfold iv_N at hN; omega) hP
        have w1 : fr [38, 39, 40, 41] [(37, 0), (37, 1)] σ υ := q1.tr (p1.wk (fun _ z => by simp at z; simp [z]) (fun _ z => absurd z List.not_mem_nil))
        have hs1 := c_sC (N := N) (cs := cs) (σ := υ) (P := dO y.toInt64 n n 0 (fun j => cf f n (n - j))) h12 p2 (n + 1) N 0 true (by omega) (by unfold iv_N at hN; omega)
        have en : nI (n + 1) - 1 = nI n := pk_sub (a := n + 1) (b := 1) (by omega)
        rw [en, if_pos rfl] at hs1
        refine Or.inl ⟨nI (sC (dO y.toInt64 n n 0 (fun j => cf f n (n - j))) (n + 1) 0 true), υ, w1.keptS rfl rfl (fun h => h.of37 w1 (by rw [p1.g List.not_mem_nil, p1.g List.not_mem_nil]; exact q2) (by decide) (by decide) (by decide) (by decide)), ?_, fun σ' μ ds hm hl => ?_⟩
        · unfold f145 f67
          rw [o0, c_held hs8 hne, lf_cr_r, sN_1 hs8, hv.1, if_neg g0, if_neg g1, if_pos (fa_of_nlt g2), r0_6, o37, sN_1 hs8, hv.1, o37, q4, lf_cv_r, show (0 : Int32) = nI 0 from rfl, p3]
          rw [show (0 : Int32) = nI 0 from rfl, hs1, lf_ci_r]
        · obtain ⟨ψ, r1, r2, r3⟩ := m_polys (σ := μ) (cs := ds) (N := N) (f := f) h12 hg.2.2.2.2.1 hN hm.1 hm.2.2.2
          have hP2 : ∀ j, j ≤ n → ψ.2.1 85 j = cf f n (n - j) := fun j hj => by rw [← r2 (n - j) (by omega), show n - (n - j) = j by omega]
          obtain ⟨ω, z1, z2, z3⟩ := m_dO (N := N) (cs := ds) (x := y) h12 hN n 0 N (fun j => cf f n (n - j)) ψ (by omega) (by unfold iv_N at hN; omega) (by rw [r1.f List.not_mem_nil]; exact hm.1) hP2
          have hs2 := m_sC (N := N) (cs := ds) (σ := ω) (P := dO y.toInt64 n n 0 (fun j => cf f n (n - j))) h12 z2 (n + 1) N 0 true (by omega) (by unfold iv_N at hN; omega)
          rw [en, if_pos rfl] at hs2
          refine ⟨ω, (r1.kept rfl rfl).tr (z1.kept rfl rfl), by rw [z1.l (by decide), r1.l (by decide)], by rw [z1.f List.not_mem_nil, r1.f List.not_mem_nil]; exact hm.2.2.1, ?_⟩
          show f235 N 72 (nI s) y (hp σ', ds) = _
          unfold f235 g235_34
          rw [o72, hl, lf_ci_r, if_neg (by decide), i72_4, hm.1, if_neg g0, m_within_in g1 g2, lf_ci_r, if_neg (by decide), o72, m_rt hm.2.2.1 (by decide), lf_ci_r, if_pos (by decide), o72, r3, lf_cv_r, show (0 : Int32) = nI 0 from rfl, z3]
          rw [show (0 : Int32) = nI 0 from rfl, hs2]
      · refine Or.inr ⟨"java/lang/IllegalArgumentException", 2, σ, iv_kept.rf σ, by decide, rfl, ?_, fun σ' μ ds hm hl => ⟨hp_wf μ 72 0 2, 0, iv_kept.wm (by omega), hp_wf_at, ?_⟩⟩
        · unfold f145
          rw [o0, c_held hs8 hne, lf_cr_r, sN_1 hs8, hv.1]
          by_cases c0 : (12 : Int32) < nI n
          · rw [if_pos c0]
          rw [if_neg c0]
          by_cases c1 : y < -12
          · rw [if_pos c1]
          rw [if_neg c1]
          by_cases c2 : 12 < y
          · rw [if_neg (fun q => by
              rw [fa_le] at q
              rw [fa_lt] at c2
              omega)]
          · exact absurd ⟨c0, c1, c2⟩ good
        · have ef : g235_33 N 72 y 72 (hp μ, ds) = some (.inl (some (.int 0)), (hp (hp_wf μ 72 0 2), ds)) := by
            unfold g235_33 g235_34
            rw [o72, m_rf hm.2.2.1 (by decide), lf_ci_r, if_neg (fun q => q rfl)]
          show f235 N 72 (nI s) y (hp σ', ds) = _
          unfold f235
          rw [o72, hl, lf_ci_r, if_neg (by decide), i72_4, hm.1]
          by_cases c0 : (12 : Int32) < nI n
          · rw [if_pos c0]; exact ef
          rw [if_neg c0]
          by_cases c1 : y < -12
          · rw [m_within_lo c1, lf_ci_r, if_pos rfl]; exact ef
          by_cases c2 : 12 < y
          · rw [m_within_hi c2, lf_ci_r, if_pos rfl]; exact ef
          · exact absurd ⟨c0, c1, c2⟩ good
  obtain ⟨τ, ds, q1, q2, q3, q4⟩ := key
  refine ⟨τ, ds, q1, q2, q3, fun k23 => ?_⟩
  rw [← q4 (k23 (nI i + 6))]
  unfold g327_1263 h304 f304
  simp only [iv_s1 hs hi, iv_s2 hs hi, Option.bind_some, if_pos hp_x]
  rfl
