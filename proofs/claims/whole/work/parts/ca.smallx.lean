/-! small nets, the model: every net is looked at -/
section SMX
variable {cs : Nat × Nat} {N n x d k : Nat} {σ τ : hp_S}
theorem pc_32 (hn : n ≤ 6) (y : Nat) : pcY n y ≤ 32 := by
  have h15 := pp_15 hn
  unfold pcY
  have := sm_le (F := fun i => if y.testBit i = true then 1 else 0) (G := fun _ => 1) (n := ppY n) (fun i _ => by
    (try dsimp only)
    split <;> omega)
  rw [sm_one] at this
  omega
theorem nar_0 : vp_nar .boolean (0 : Int32) = 0 := rfl
theorem nar_1 : vp_nar .boolean (1 : Int32) = 1 := rfl
theorem m_127n {x1 x2 x3 x4 : Int32} {k34 : Nat → Int32 → Int32 → Int32 → Int32 → Int32 → lf_W → lf_R} (hx : x < 32768) : g253_127 N k34 72 x1 x2 x3 x4 (nI x) 0 (nI x) 95 (hp σ, cs) = k34 72 x1 x2 x3 x4 (nI (x + 1)) (hp (hp_wi (hp_wi σ 95 x 0) 96 x 0), cs) := by
  unfold g253_127 g253_197
  rw [b95 hx, r72_51, b96 hx, r72_50, a95 hx, nar_0, hp_wi_ne (by decide), hp_wi_at, if_neg (fun z => z rfl), nI_1]
theorem m_127y {x1 x2 x3 x4 : Int32} {o : Option Nat} {k34 : Nat → Int32 → Int32 → Int32 → Int32 → Int32 → lf_W → lf_R} (hn : n ≤ 6) (hN : iv_N N) (hx : x < 2 ^ ppY n) (ho : ∀ m, o = some m → m < x) (h8 : σ.2.2.1 72 48 = oI1 n o) (h9 : σ.2.2.1 72 49 = oI2 o) : ∃ τ, fr [95, 96] [(72, 46), (72, 48), (72, 49)] σ τ ∧ τ.1 = (hp_wi (hp_wi σ 95 x 1) 96 x 0).1 ∧ τ.2.2.1 72 46 = σ.2.2.1 72 46 + 1 ∧ τ.2.2.1 72 48 = oI1 n (pkY n o x) ∧ τ.2.2.1 72 49 = oI2 (pkY n o x) ∧ g253_127 N k34 72 x1 x2 x3 x4 (nI x) 1 (nI x) 95 (hp σ, cs) = k34 72 x1 x2 x3 x4 (nI (x + 1)) (hp τ, cs) := by
  have h15 := pp_15 hn
  have hp15 : 2 ^ ppY n ≤ 2 ^ 15 := Nat.pow_le_pow_right (by omega) h15
  have p1 := pc_32 hn x
  have w0 : fr [95, 96] [(72, 46), (72, 48), (72, 49)] σ (hp_wf (hp_wi (hp_wi σ 95 x 1) 96 x 0) 72 46 (σ.2.2.1 72 46 + 1)) := ((fr.wi (by decide)).tr (fr.wi (by decide))).tr (fr.wf (by decide))
  have e46 : (hp_wi (hp_wi σ 95 x 1) 96 x 0).2.2.1 72 46 = σ.2.2.1 72 46 := rfl
  have e48 : (hp_wf (hp_wi (hp_wi σ 95 x 1) 96 x 0) 72 46 (σ.2.2.1 72 46 + 1)).2.2.1 72 48 = oI1 n o := by
    rw [hp_wf_ne (by decide)]
    exact h8
  have e49 : (hp_wf (hp_wi (hp_wi σ 95 x 1) 96 x 0) 72 46 (σ.2.2.1 72 46 + 1)).2.2.1 72 49 = oI2 o := by
    rw [hp_wf_ne (by decide)]
    exact h9
  have pre : g253_127 N k34 72 x1 x2 x3 x4 (nI x) 1 (nI x) 95 (hp σ, cs) = if oI1 n o = (-1) then (g253_182 N k34 72 x1 x2 x3 x4 (nI x) (hp (hp_wf (hp_wi (hp_wi σ 95 x 1) 96 x 0) 72 46 (σ.2.2.1 72 46 + 1)), cs)) else if nI (pcY n x) < oI1 n o then (g253_182 N k34 72 x1 x2 x3 x4 (nI x) (hp (hp_wf (hp_wi (hp_wi σ 95 x 1) 96 x 0) 72 46 (σ.2.2.1 72 46 + 1)), cs)) else (g253_197 N k34 72 x1 x2 x3 x4 (nI x) (hp (hp_wf (hp_wi (hp_wi σ 95 x 1) 96 x 0) 72 46 (σ.2.2.1 72 46 + 1)), cs)) := by
    unfold g253_127
    rw [b95 (by omega), r72_51, b96 (by omega), r72_50, a95 (by omega), nar_0, nar_1, hp_wi_ne (by decide), hp_wi_at, if_pos (by decide), i72_46, e46, w72_46, i72_48, e48, m_pc hN, lf_ci_r, i72_48, e48, pcY_pc hn hx]
  have yes : pkY n o x = some x → ∃ τ, fr [95, 96] [(72, 46), (72, 48), (72, 49)] σ τ ∧ τ.1 = (hp_wi (hp_wi σ 95 x 1) 96 x 0).1 ∧ τ.2.2.1 72 46 = σ.2.2.1 72 46 + 1 ∧ τ.2.2.1 72 48 = oI1 n (pkY n o x) ∧ τ.2.2.1 72 49 = oI2 (pkY n o x) ∧ g253_182 N k34 72 x1 x2 x3 x4 (nI x) (hp (hp_wf (hp_wi (hp_wi σ 95 x 1) 96 x 0) 72 46 (σ.2.2.1 72 46 + 1)), cs) = k34 72 x1 x2 x3 x4 (nI (x + 1)) (hp τ, cs) := by
    intro e
    refine ⟨hp_wf (hp_wf (hp_wf (hp_wi (hp_wi σ 95 x 1) 96 x 0) 72 46 (σ.2.2.1 72 46 + 1)) 72 48 (nI (pcY n x))) 72 49 (nI x), (w0.tr (fr.wf (by decide))).tr (fr.wf (by decide)), rfl, ?_, ?_, ?_, ?_⟩
    · rw [hp_wf_ne (by decide), hp_wf_ne (by decide), hp_wf_at]
    · rw [hp_wf_ne (by decide), hp_wf_at, e]
      rfl
    · rw [hp_wf_at, e]
      rfl
    · unfold g253_182 g253_197
      rw [m_pc hN, lf_ci_r, pcY_pc hn hx, w72_48, w72_49, nI_1]
  cases o with
  | none =>
    obtain ⟨τ, q1, q2, q3, q4, q5, q6⟩ := yes rfl
    refine ⟨τ, q1, q2, q3, q4, q5, ?_⟩
    rw [pre, if_pos (show oI1 n none = -1 from rfl)]
    exact q6
  | some m =>
    have hm := ho m rfl
    have p2 := pc_32 hn m
    have o1 : oI1 n (some m) = nI (pcY n m) := rfl
    have ep : pkY n (some m) x = @ite (Option Nat) (ltY n x m) (Classical.propDecidable _) (some x) (some m) := rfl
    have n1 : ¬ nI (pcY n m) = (-1) := by rw [q_ne1 (by omega)]; exact id
    by_cases c : pcY n x < pcY n m
    · obtain ⟨τ, q1, q2, q3, q4, q5, q6⟩ := yes (by rw [ep, if_pos (show ltY n x m from Or.inl c)])
      refine ⟨τ, q1, q2, q3, q4, q5, ?_⟩
      rw [pre, o1, if_neg n1, if_pos (nI_lt c (by omega))]
      exact q6
    · have e : pkY n (some m) x = some m := by
        rw [ep, if_neg (fun z => by unfold ltY at z; omega)]
      refine ⟨_, w0, rfl, hp_wf_at, by rw [e]; exact e48, by rw [e]; exact e49, ?_⟩
      rw [pre, o1, if_neg n1, if_neg (nI_nlt (by omega) (by omega))]
      unfold g253_197
      rw [nI_1]
/-- below x all is looked at -/
def LKy (σ : hp_S) (n d k x : Nat) : Prop := (∀ y, y < x → (wtY n d k y → σ.1 95 y = 1) ∧ (¬ wtY n d k y → σ.1 95 y = 0)) ∧ (∀ y, y < x → σ.1 96 y = 0) ∧ σ.2.2.1 72 46 = nI (ctY (wtY n d k) x) ∧ ∃ o, BSo (wtY n d k) n x o ∧ σ.2.2.1 72 48 = oI1 n o ∧ σ.2.2.1 72 49 = oI2 o
theorem BSo_lt {P : Nat → Prop} {b : Nat} {o : Option Nat} (h : BSo P n b o) : ∀ m, o = some m → m < b := by
  intro m hm
  rcases h with ⟨h1, h2⟩ | ⟨j, h1, h2, h3, h4⟩
  · rw [h1] at hm; cases hm
  · rw [h1] at hm
    have : j = m := Option.some.inj hm
    omega
theorem m_l34 (hn1 : 1 ≤ n) (hn : n ≤ 6) (hN : iv_N N) (hk : k < 2 ^ 31) (hd : d ≤ 8) : ∀ (m x u : Nat) (σ : hp_S), x + m = 2 ^ ppY n → m < u → LKy σ n d k x → ∃ τ, fr [76, 81, 95, 96, 97] [(72, 4), (72, 5), (72, 24), (72, 25), (72, 46), (72, 48), (72, 49)] σ τ ∧ LKy τ n d k (2 ^ ppY n) ∧ g253_34 N u 72 (nI n) (nI d) (nI k) (nI (2 ^ ppY n)) (nI x) (hp σ, cs) = g253_206 N N 72 (nI n) (nI (2 ^ ppY n)) 0 (hp τ, cs) := by
  have h15 := pp_15 hn
  have hp15 : 2 ^ ppY n ≤ 2 ^ 15 := Nat.pow_le_pow_right (by omega) h15
  intro m
  induction m with
  | zero =>
    intro x u σ hx hu hL
    obtain ⟨u, rfl⟩ : ∃ q, u = q + 1 := ⟨u - 1, by omega⟩
    have : x = 2 ^ ppY n := by omega
    subst this
    refine ⟨σ, fr.rf, hL, ?_⟩
    unfold g253_34
    rw [if_pos (nI_le (Nat.le_refl _) (by omega))]
  | succ m ih =>
    intro x u σ hx hu hL
    obtain ⟨u, rfl⟩ : ∃ q, u = q + 1 := ⟨u - 1, by omega⟩
    have hxp : x < 2 ^ ppY n := by omega
    obtain ⟨σ1, a1, a2, a3, a4, a5⟩ := m_sketch (N := N) (cs := cs) (σ := σ) (x := x) hn hN hxp
    obtain ⟨σ2, b1, b2, b3⟩ := m_w54 (N := N) (cs := cs) (σ := σ1) (x := x) (d := d) (k := k) (x4 := nI (2 ^ ppY n)) (x5 := nI x) (k34 := g253_34 N u) hn1 hn hN hk hd a4 a2
    have w12 : fr [76, 81, 95, 96, 97] [(72, 4), (72, 5), (72, 24), (72, 25), (72, 46), (72, 48), (72, 49)] σ σ2 := (a1.wk (fun _ z => by simp at z; rcases z with z | z <;> simp [z]) (fun _ z => by simp at z; rcases z with z | z <;> simp [z])).tr (b1.wk (fun _ z => by simp at z; simp [z]) (fun _ z => by simp at z; rcases z with z | z <;> simp [z]))
    obtain ⟨l1, l2, l3, o, l4, l5, l6⟩ := hL
    have s95 : σ2.1 95 = σ.1 95 := by rw [b1.r (by decide), a1.r (by decide)]
    have s96 : σ2.1 96 = σ.1 96 := by rw [b1.r (by decide), a1.r (by decide)]
    have s46 : σ2.2.2.1 72 46 = σ.2.2.1 72 46 := by rw [b1.f (by decide), a1.f (by decide)]
    have s48 : σ2.2.2.1 72 48 = σ.2.2.1 72 48 := by rw [b1.f (by decide), a1.f (by decide)]
    have s49 : σ2.2.2.1 72 49 = σ.2.2.1 72 49 := by rw [b1.f (by decide), a1.f (by decide)]
    have pre : g253_34 N (u + 1) 72 (nI n) (nI d) (nI k) (nI (2 ^ ppY n)) (nI x) (hp σ, cs) = g253_54 N (g253_34 N u) N 72 (nI n) (nI d) (nI k) (nI (2 ^ ppY n)) (nI x) 1 0 (hp σ1, cs) := by
      rw [g253_34]
      rw [if_neg (nI_ge (by omega) (by omega)), o72, a5, lf_cv_r]
    by_cases c : wtY n d k x
    · obtain ⟨σ3, c1, c2, c3, c4, c5, c6⟩ := m_127y (N := N) (cs := cs) (σ := σ2) (x := x) (o := o) (x1 := nI n) (x2 := nI d) (x3 := nI k) (x4 := nI (2 ^ ppY n)) (k34 := g253_34 N u) hn hN hxp (BSo_lt l4) (by rw [s48]; exact l5) (by rw [s49]; exact l6)
      have w13 : fr [76, 81, 95, 96, 97] [(72, 4), (72, 5), (72, 24), (72, 25), (72, 46), (72, 48), (72, 49)] σ σ3 := w12.tr (c1.wk (fun _ z => by simp at z; rcases z with z | z <;> simp [z]) (fun _ z => by simp at z; rcases z with z | z | z <;> simp [z]))
      obtain ⟨τ, q1, q2, q3⟩ := ih (x + 1) u σ3 (by omega) (by omega) ⟨fun y hy => by
          rw [c2, hp_wi_ne (by decide)]
          by_cases e : y = x
          · rw [e, hp_wi_at]
            exact ⟨fun _ => rfl, fun z => absurd c z⟩
          · rw [hp_wi_nj e, s95]
            exact l1 y (by omega), fun y hy => by
          rw [c2]
          by_cases e : y = x
          · rw [e, hp_wi_at]
          · rw [hp_wi_nj e, hp_wi_ne (by decide), s96]
            exact l2 y (by omega), by rw [c3, s46, l3, nI_1, (ctY_s (P := wtY n d k) (m := x)).1 c], pkY n o x, BSo_y l4 c, c4, c5⟩
      exact ⟨τ, w13.tr q1, q2, by rw [pre, b2 c, c6, q3]⟩
    · have c1 : fr [76, 81, 95, 96, 97] [(72, 4), (72, 5), (72, 24), (72, 25), (72, 46), (72, 48), (72, 49)] σ2 (hp_wi (hp_wi σ2 95 x 0) 96 x 0) := (fr.wi (by decide)).tr (fr.wi (by decide))
      obtain ⟨τ, q1, q2, q3⟩ := ih (x + 1) u (hp_wi (hp_wi σ2 95 x 0) 96 x 0) (by omega) (by omega) ⟨fun y hy => by
          rw [hp_wi_ne (by decide)]
          by_cases e : y = x
          · rw [e, hp_wi_at]
            exact ⟨fun z => absurd z c, fun _ => rfl⟩
          · rw [hp_wi_nj e, s95]
            exact l1 y (by omega), fun y hy => by
          by_cases e : y = x
          · rw [e, hp_wi_at]
          · rw [hp_wi_nj e, hp_wi_ne (by decide), s96]
            exact l2 y (by omega), by
          show σ2.2.2.1 72 46 = _
          rw [s46, l3, (ctY_s (P := wtY n d k) (m := x)).2 c], o, BSo_n l4 c, by
          show σ2.2.2.1 72 48 = _
          rw [s48]; exact l5, by
          show σ2.2.2.1 72 49 = _
          rw [s49]; exact l6⟩
      exact ⟨τ, (w12.tr c1).tr q1, q2, by rw [pre, b3 c, m_127n (by omega), q3]⟩
/-- kinds below x -/
def KNy (σ : hp_S) (n d k x : Nat) : Prop := (∀ y, y < 2 ^ ppY n → (wtY n d k y → σ.1 95 y = 1) ∧ (¬ wtY n d k y → σ.1 95 y = 0)) ∧ NTy σ n (fun y => ∃ m, m < x ∧ mnY n m ∧ wtY n d k m ∧ eqY n m y) ∧ σ.2.2.1 72 47 = nI (ctY (fun m => mnY n m ∧ wtY n d k m) x)
theorem m_l206 (hn1 : 1 ≤ n) (hn : n ≤ 6) (hN : iv_N N) : ∀ (m x u : Nat) (σ : hp_S), x + m = 2 ^ ppY n → m < u → KNy σ n d k x → ∃ τ, fr [76, 96, 97, 98] [(72, 4), (72, 5), (72, 47)] σ τ ∧ KNy τ n d k (2 ^ ppY n) ∧ g253_206 N u 72 (nI n) (nI (2 ^ ppY n)) (nI x) (hp σ, cs) = some (.inl none, (hp τ, cs)) := by
  have h15 := pp_15 hn
  have hp15 : 2 ^ ppY n ≤ 2 ^ 15 := Nat.pow_le_pow_right (by omega) h15
  intro m
  induction m with
  | zero =>
    intro x u σ hx hu hL
    obtain ⟨u, rfl⟩ : ∃ q, u = q + 1 := ⟨u - 1, by omega⟩
    have : x = 2 ^ ppY n := by omega
    subst this
    refine ⟨σ, fr.rf, hL, ?_⟩
    unfold g253_206
    rw [if_pos (nI_le (Nat.le_refl _) (by omega))]
  | succ m ih =>
    intro x u σ hx hu hL
    obtain ⟨u, rfl⟩ : ∃ q, u = q + 1 := ⟨u - 1, by omega⟩
    have hxp : x < 2 ^ ppY n := by omega
    obtain ⟨l1, l2, l3⟩ := hL
    have nomn : (¬ (mnY n x ∧ wtY n d k x)) → KNy σ n d k (x + 1) := by
      intro c
      refine ⟨l1, fun y hy => ?_, by rw [l3, (ctY_s (P := fun m => mnY n m ∧ wtY n d k m) (m := x)).2 c]⟩
      obtain ⟨m1, m2⟩ := l2 y hy
      refine ⟨fun z => m1 ?_, fun z => m2 ?_⟩
      · obtain ⟨j, j1, j2, j3, j4⟩ := z
        by_cases e : j = x
        · rw [e] at j2 j3
          exact absurd ⟨j2, j3⟩ c
        · exact ⟨j, by omega, j2, j3, j4⟩
      · rintro ⟨j, j1, j2, j3, j4⟩
        exact z ⟨j, by omega, j2, j3, j4⟩
    by_cases c : wtY n d k x
    · have e95 := (l1 x hxp).1 c
      by_cases g : mnY n x
      · have hno : ¬ ∃ m, m < x ∧ mnY n m ∧ wtY n d k m ∧ eqY n m x := by
          rintro ⟨j, j1, j2, j3, j4⟩
          have := g j (by omega) (eqY_sy j4)
          omega
        have e96 := (l2 x hxp).2 hno
        have w1 : fr [76, 96, 97, 98] [(72, 4), (72, 5), (72, 47)] σ (hp_wf σ 72 47 (σ.2.2.1 72 47 + 1)) := fr.wf (by decide)
        obtain ⟨σ1, a1, a2, a3, a4, a5⟩ := m_sketch (N := N) (cs := cs) (σ := hp_wf σ 72 47 (σ.2.2.1 72 47 + 1)) (x := x) hn hN hxp
        obtain ⟨σ2, b1, b2, b3⟩ := m_notes (N := N) (cs := cs) (σ := σ1) (x := x) (M0 := fun y => ∃ m, m < x ∧ mnY n m ∧ wtY n d k m ∧ eqY n m y) hn1 hn hN a2 a3 (fun y hy => by
          rw [a1.r (by decide)]
          exact l2 y hy)
        have w2 : fr [76, 96, 97, 98] [(72, 4), (72, 5), (72, 47)] σ σ2 := (w1.tr (a1.wk (fun _ z => by simp at z; rcases z with z | z <;> simp [z]) (fun _ z => by simp at z; rcases z with z | z <;> simp [z]))).tr (b1.wk (fun _ z => by simp at z; rcases z with z | z <;> simp [z]) (fun _ z => absurd z List.not_mem_nil))
        obtain ⟨τ, q1, q2, q3⟩ := ih (x + 1) u σ2 (by omega) (by omega) ⟨fun y hy => by rw [w2.r (by decide)]; exact l1 y hy, fun y hy => by
            obtain ⟨m1, m2⟩ := b2 y hy
            refine ⟨fun z => m1 ?_, fun z => m2 ?_⟩
            · obtain ⟨j, j1, j2, j3, j4⟩ := z
              by_cases e : j = x
              · rw [e] at j4
                exact Or.inr ⟨hy, j4⟩
              · exact Or.inl ⟨j, by omega, j2, j3, j4⟩
            · rintro (⟨j, j1, j2, j3, j4⟩ | ⟨j1, j2⟩)
              · exact z ⟨j, by omega, j2, j3, j4⟩
              · exact z ⟨x, by omega, g, c, j2⟩, by
            rw [b1.f List.not_mem_nil, a1.f (by decide), hp_wf_at, l3, nI_1, (ctY_s (P := fun m => mnY n m ∧ wtY n d k m) (m := x)).1 ⟨g, c⟩]⟩
        refine ⟨τ, w2.tr q1, q2, ?_⟩
        rw [g253_206, if_neg (nI_ge (by omega) (by omega)), r72_50, a95 (by omega), e95, if_neg (by decide), r72_51, a96 (by omega), e96, if_pos rfl, i72_47, w72_47, o72, a5, lf_cv_r, o72, b3, lf_cv_r]
        unfold g253_258
        rw [nI_1]
        exact q3
      · have hyes : ∃ m, m < x ∧ mnY n m ∧ wtY n d k m ∧ eqY n m x := by
          obtain ⟨j, j1, j2, j3, j4⟩ := mn_ex hxp
          have hne : j ≠ x := fun e => g (by rw [← e]; exact j2)
          exact ⟨j, by omega, j2, (wt_eq hn j3).mpr c, j3⟩
        have e96 := (l2 x hxp).1 hyes
        obtain ⟨τ, q1, q2, q3⟩ := ih (x + 1) u σ (by omega) (by omega) (nomn (fun z => g z.1))
        refine ⟨τ, q1, q2, ?_⟩
        rw [g253_206, if_neg (nI_ge (by omega) (by omega)), r72_50, a95 (by omega), e95, if_neg (by decide), r72_51, a96 (by omega), e96, if_neg (by decide)]
        unfold g253_258
        rw [nI_1]
        exact q3
    · have e95 := (l1 x hxp).2 c
      obtain ⟨τ, q1, q2, q3⟩ := ih (x + 1) u σ (by omega) (by omega) (nomn (fun z => c z.2))
      refine ⟨τ, q1, q2, ?_⟩
      rw [g253_206, if_neg (nI_ge (by omega) (by omega)), r72_50, a95 (by omega), e95, if_pos rfl]
      unfold g253_258
      rw [nI_1]
      exact q3
/-- the model's answer, worked out -/
theorem m_253 (hn1 : 1 ≤ n) (hn : n ≤ 6) (hN : iv_N N) (hk : k < 2 ^ 31) (hd : d ≤ 8) : ∃ τ o, fr [76, 81, 95, 96, 97, 98] [(72, 4), (72, 5), (72, 24), (72, 25), (72, 46), (72, 47), (72, 48), (72, 49)] σ τ ∧ BSo (wtY n d k) n (2 ^ ppY n) o ∧ τ.2.2.1 72 46 = nI (ctY (wtY n d k) (2 ^ ppY n)) ∧ τ.2.2.1 72 47 = nI (ctY (fun m => mnY n m ∧ wtY n d k m) (2 ^ ppY n)) ∧ τ.2.2.1 72 48 = oI1 n o ∧ τ.2.2.1 72 49 = oI2 o ∧ f253 N 72 (nI n) (nI d) (nI k) (hp σ, cs) = some (.inl none, (hp τ, cs)) := by
  have h15 := pp_15 hn
  have hp15 : 2 ^ ppY n ≤ 2 ^ 15 := Nat.pow_le_pow_right (by omega) h15
  have w0 : fr [76, 81, 95, 96, 97, 98] [(72, 4), (72, 5), (72, 24), (72, 25), (72, 46), (72, 47), (72, 48), (72, 49)] σ (hp_wf (hp_wf (hp_wf (hp_wf σ 72 46 0) 72 47 0) 72 48 (-1)) 72 49 (-1)) := (((fr.wf (by decide)).tr (fr.wf (by decide))).tr (fr.wf (by decide))).tr (fr.wf (by decide))
  obtain ⟨σ1, a1, a2, a3⟩ := m_l34 (N := N) (cs := cs) (d := d) (k := k) hn1 hn hN hk hd (2 ^ ppY n) 0 N (hp_wf (hp_wf (hp_wf (hp_wf σ 72 46 0) 72 47 0) 72 48 (-1)) 72 49 (-1)) (by omega) (by unfold iv_N at hN; omega) ⟨fun y hy => absurd hy (Nat.not_lt_zero _), fun y hy => absurd hy (Nat.not_lt_zero _), by
    rw [hp_wf_ne (by decide), hp_wf_ne (by decide), hp_wf_ne (by decide), hp_wf_at]
    rfl, none, Or.inl ⟨rfl, fun y hy => absurd hy (Nat.not_lt_zero _)⟩, by
    rw [hp_wf_ne (by decide), hp_wf_at]
    rfl, by
    rw [hp_wf_at]
    rfl⟩
  obtain ⟨l1, l2, l3, o, l4, l5, l6⟩ := a2
  obtain ⟨τ, b1, b2, b3⟩ := m_l206 (N := N) (cs := cs) (d := d) (k := k) hn1 hn hN (2 ^ ppY n) 0 N σ1 (by omega) (by unfold iv_N at hN; omega) ⟨l1, fun y hy => ⟨fun z => by
      obtain ⟨j, j1, -⟩ := z
      exact absurd j1 (Nat.not_lt_zero _), fun _ => l2 y hy⟩, by
    rw [a1.f (by decide), hp_wf_ne (by decide), hp_wf_ne (by decide), hp_wf_at]
    rfl⟩
  refine ⟨τ, o, (w0.tr (a1.wk (fun _ z => by simp at z; rcases z with z | z | z | z | z <;> simp [z]) (fun _ z => by simp at z; rcases z with z | z | z | z | z | z | z <;> simp [z]))).tr (b1.wk (fun _ z => by simp at z; rcases z with z | z | z | z <;> simp [z]) (fun _ z => by simp at z; rcases z with z | z | z <;> simp [z])), l4, by rw [b1.f (by decide)]; exact l3, b2.2.2, by rw [b1.f (by decide)]; exact l5, by rw [b1.f (by decide)]; exact l6, ?_⟩
  have esh : lf_shl 1 (nI n * (nI n - 1) / 2) = nI (2 ^ ppY n) := by
    rw [pp_I hn1 hn]
    exact shl_nI (by omega)
  unfold f253
  rw [w72_46, w72_47, w72_48, w72_49, esh]
  rw [show g253_34 N N 72 (nI n) (nI d) (nI k) (nI (2 ^ ppY n)) 0 (hp (hp_wf (hp_wf (hp_wf (hp_wf σ 72 46 0) 72 47 0) 72 48 (-1)) 72 49 (-1)), cs) = _ from a3]
  exact b3
end SMX
