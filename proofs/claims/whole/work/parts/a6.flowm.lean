/-! the model's search -/
section FM
variable {cs : Nat × Nat} {N n a b P : Nat} {ρ : Nat → Nat → Nat} {f : Nat → Int32}
def RO (σ : hp_S) (P : Nat) (ρ : Nat → Nat → Nat) : Prop := ∀ u v, u < P → v < P → σ.1 82 (48 * u + v) = nI (ρ u v)
def RB (ρ : Nat → Nat → Nat) : Prop := ∀ u v, ρ u v ≤ 1000000
def FQ (σ : hp_S) (P : Nat) (s : qS) : Prop := (∀ j, j < s.k → σ.1 84 j = nI (s.q j)) ∧ ∀ v, v < P → σ.1 83 v = if s.fm v = 99 then -1 else nI (s.fm v)
theorem ix_c (i j : Nat) : (48 : Int32) * nI i + nI j = nI (48 * i + j) := by rw [show (48 : Int32) = nI 48 from rfl, pk_mul, nI_add]
theorem app_fm {u : Nat} : ∀ (l : List Nat) (s : qS) (v : Nat), v ∉ l → (app u l s).fm v = s.fm v
  | [], _, _, _ => rfl
  | w :: l, s, v, h => by
    show (app u l (s.put u w)).fm v = _
    rw [app_fm l _ v (fun q => h (List.mem_cons_of_mem _ q))]
    show (if v = w then u else s.fm v) = s.fm v
    rw [if_neg (fun q => h (by rw [q]; exact List.mem_cons_self))]
theorem app_q {u : Nat} : ∀ (l : List Nat) (s : qS) (j : Nat), j < s.k → (app u l s).q j = s.q j
  | [], _, _, _ => rfl
  | w :: l, s, j, h => by
    show (app u l (s.put u w)).q j = _
    rw [app_q l _ j (by show j < s.k + 1; omega)]
    exact qup_ne (by omega)
theorem m_ex {s0 : qS} {i : Nat} (hP : P ≤ 48) (hB : RB ρ) (hI : BI (eR ρ) P a s0) (hi : i < s0.k) {k43 : Nat → Int32 → Int32 → Int32 → Int32 → Int32 → lf_W → lf_R} {x1 x2 : Int32} : ∀ (m v u : Nat) (σ : hp_S), v + m = P → m < u → RO σ P ρ → FQ σ P (app (s0.q i) ((List.range v).filter (fun v => eR ρ (s0.q i) v && decide (s0.fm v = 99))) s0) → ∃ τ, fr [83, 84] [] σ τ ∧ FQ τ P (app (s0.q i) (nw (eR ρ) P s0 (s0.q i)) s0) ∧ g226_63 N k43 u 72 x1 x2 (nI P) (nI (app (s0.q i) ((List.range v).filter (fun v => eR ρ (s0.q i) v && decide (s0.fm v = 99))) s0).k) (nI i) (nI v) (hp σ, cs) = k43 72 x1 x2 (nI P) (nI (app (s0.q i) (nw (eR ρ) P s0 (s0.q i)) s0).k) (nI (i + 1)) (hp τ, cs) := by
  have hqi := hI.lt i hi
  intro m
  induction m with
  | zero =>
    intro v u σ hv hu hR hF
    obtain ⟨u, rfl⟩ : ∃ q, u = q + 1 := ⟨u - 1, by omega⟩
    have : v = P := by omega
    subst this
    refine ⟨σ, fr.rf, hF, ?_⟩
    unfold g226_63
    rw [if_pos (nI_le (by omega) (by omega)), nI_1]
    rfl
  | succ m ih =>
    intro v u σ hv hu hR hF
    obtain ⟨u, rfl⟩ : ∃ q, u = q + 1 := ⟨u - 1, by omega⟩
    obtain ⟨r1, r2, r3, r4⟩ := app_bi hP (i := i) ((List.range v).filter (fun v => eR ρ (s0.q i) v && decide (s0.fm v = 99))) s0 hI hi (List.Nodup.sublist List.filter_sublist List.nodup_range) (fun w hw => by
      rw [List.mem_filter, List.mem_range, Bool.and_eq_true, decide_eq_true_iff] at hw
      exact ⟨by omega, hw.2.2, hw.2.1⟩)
    have hnot : v ∉ (List.range v).filter (fun v => eR ρ (s0.q i) v && decide (s0.fm v = 99)) := by
      intro q
      rw [List.mem_filter, List.mem_range] at q
      omega
    have hfv : (app (s0.q i) ((List.range v).filter (fun v => eR ρ (s0.q i) v && decide (s0.fm v = 99))) s0).fm v = s0.fm v := app_fm _ _ _ hnot
    have hnext : (List.range (v + 1)).filter (fun v => eR ρ (s0.q i) v && decide (s0.fm v = 99)) = (List.range v).filter (fun v => eR ρ (s0.q i) v && decide (s0.fm v = 99)) ++ (if (eR ρ (s0.q i) v && decide (s0.fm v = 99)) = true then [v] else []) := by
      rw [List.range_succ, List.filter_append]
      congr 1
      by_cases c : (eR ρ (s0.q i) v && decide (s0.fm v = 99)) = true
      · rw [if_pos c]
        simp only [List.filter, c]
      · rw [if_neg c]
        have c' : (eR ρ (s0.q i) v && decide (s0.fm v = 99)) = false := by
          cases h : (eR ρ (s0.q i) v && decide (s0.fm v = 99)) with
          | false => rfl
          | true => exact absurd h c
        simp only [List.filter, c']
    have hF2 := hF.2 v (by omega)
    rw [hfv] at hF2
    have hq84 : σ.1 84 i = nI (s0.q i) := by rw [hF.1 i (by omega), r3 i hi]
    unfold g226_63 g226_130
    rw [if_neg (nI_ge (by omega) (by omega)), r72_27, a83 (by omega), hF2]
    have hfl : s0.fm v = 99 ∨ (s0.fm v ≠ 99 ∧ s0.fm v < 48) := by
      by_cases c : s0.fm v = 99
      · exact Or.inl c
      · refine Or.inr ⟨c, ?_⟩
        obtain ⟨j, hj, e⟩ := (hI.mem v (by omega)).mp c
        by_cases d : j = 0
        · rw [← e, d, hI.q0, hI.fa]
          have := hI.lt 0 hI.k1
          rw [hI.q0] at this
          omega
        · obtain ⟨i', i1, i2, i3⟩ := hI.par j (by omega) hj
          rw [← e, i2]
          have := hI.lt i' (by omega)
          omega
    rcases hfl with c1 | ⟨c1, c1'⟩
    · rw [if_pos c1, if_neg (fun q => q rfl), r72_26, r72_28, a84 (by have := hI.le; omega), hq84, ix_c, a82 (by omega), hR _ _ hqi (by omega)]
      by_cases c2 : ρ (s0.q i) v = 0
      · have hp : ¬ (eR ρ (s0.q i) v && decide (s0.fm v = 99)) = true := by
          intro q
          rw [Bool.and_eq_true] at q
          exact of_decide_eq_true q.1 c2
        rw [if_neg hp, List.append_nil] at hnext
        obtain ⟨τ, q1, q2, q3⟩ := ih (v + 1) u σ (by omega) (by omega) hR (by rw [hnext]; exact hF)
        refine ⟨τ, q1, q2, ?_⟩
        rw [hnext] at q3
        rw [c2, if_neg (fun q => q rfl), nI_1]
        exact q3
      · have hp : (eR ρ (s0.q i) v && decide (s0.fm v = 99)) = true := by
          rw [Bool.and_eq_true]
          exact ⟨decide_eq_true c2, decide_eq_true c1⟩
        rw [if_pos hp] at hnext
        have hk48 := r1.le
        have hput := r1.put hP (i := i) (v := v) (by omega) (by omega) (by rw [hfv]; exact c1) (by rw [r3 i hi]; exact decide_eq_true c2)
        have hk48' := hput.le
        have hk48'' : (app (s0.q i) ((List.range v).filter (fun v => eR ρ (s0.q i) v && decide (s0.fm v = 99))) s0).k + 1 ≤ P := hk48'
        have hst : app (s0.q i) ((List.range (v + 1)).filter (fun v => eR ρ (s0.q i) v && decide (s0.fm v = 99))) s0 = (app (s0.q i) ((List.range v).filter (fun v => eR ρ (s0.q i) v && decide (s0.fm v = 99))) s0).put (s0.q i) v := by
          rw [hnext, app_append]
          rfl
        obtain ⟨τ, q1, q2, q3⟩ := ih (v + 1) u (hp_wi (hp_wi σ 83 v (nI (s0.q i))) 84 (app (s0.q i) ((List.range v).filter (fun v => eR ρ (s0.q i) v && decide (s0.fm v = 99))) s0).k (nI v)) (by omega) (by omega) (fun x y hx hy => by rw [hp_wi_ne (by decide), hp_wi_ne (by decide)]; exact hR x y hx hy) (by
          rw [hst]
          refine ⟨fun j hj => ?_, fun w hw => ?_⟩
          · have hj' : j < (app (s0.q i) ((List.range v).filter (fun v => eR ρ (s0.q i) v && decide (s0.fm v = 99))) s0).k + 1 := hj
            show _ = nI (qup _ _ v j)
            by_cases c : j = (app (s0.q i) ((List.range v).filter (fun v => eR ρ (s0.q i) v && decide (s0.fm v = 99))) s0).k
            · rw [c, hp_wi_at, qup_at]
            · rw [hp_wi_nj c, qup_ne c, hp_wi_ne (by decide)]; exact hF.1 j (by omega)
          · rw [hp_wi_ne (by decide)]
            show _ = if (if w = v then s0.q i else _) = 99 then -1 else nI (if w = v then s0.q i else _)
            by_cases c : w = v
            · rw [c, hp_wi_at, if_pos rfl, if_neg (by omega)]
            · rw [hp_wi_nj c, if_neg c]; exact hF.2 w hw)
        refine ⟨τ, (fr.wi (by decide)).tr ((fr.wi (by decide)).tr q1), q2, ?_⟩
        rw [hst] at q3
        rw [if_pos (by
          have := hB (s0.q i) v
          rw [show (0 : Int32) = nI 0 from rfl, q_eq (by omega) (by omega)]
          exact c2), r72_27, r72_28, a84 (by have := hI.le; omega), hq84, b83 (by omega), r72_28, b84 (by omega), nI_1, nI_1]
        exact q3
    · have hp : ¬ (eR ρ (s0.q i) v && decide (s0.fm v = 99)) = true := by
        intro q
        rw [Bool.and_eq_true] at q
        exact c1 (of_decide_eq_true q.2)
      rw [if_neg hp, List.append_nil] at hnext
      obtain ⟨τ, q1, q2, q3⟩ := ih (v + 1) u σ (by omega) (by omega) hR (by rw [hnext]; exact hF)
      refine ⟨τ, q1, q2, ?_⟩
      rw [hnext] at q3
      rw [if_neg c1, if_pos (by rw [q_ne1 (by omega)]; exact id), nI_1]
      exact q3
theorem m_bf (hP : P ≤ 48) (hN : iv_N N) (hb : b < P) (hB : RB ρ) : ∀ (m i u : Nat) (s : qS) (σ : hp_S), i + m = 48 → m < u → i ≤ s.k → BI (eR ρ) P a s → RO σ P ρ → FQ σ P s → ∃ τ, fr [83, 84] [] σ τ ∧ FQ τ P (bfs (eR ρ) P b m i s) ∧ g226_43 N u 72 (nI a) (nI b) (nI P) (nI s.k) (nI i) (hp σ, cs) = g226_142 N 72 (nI a) (nI b) (hp τ, cs) := by
  have hfl : ∀ s : qS, BI (eR ρ) P a s → s.fm b ≠ 99 → s.fm b < 48 := by
    intro s hI c
    obtain ⟨j, hj, e⟩ := (hI.mem b hb).mp c
    by_cases d : j = 0
    · rw [← e, d, hI.q0, hI.fa]
      have := hI.lt 0 hI.k1
      rw [hI.q0] at this
      omega
    · obtain ⟨i', i1, i2, i3⟩ := hI.par j (by omega) hj
      rw [← e, i2]
      have := hI.lt i' (by omega)
      omega
  intro m
  induction m with
  | zero =>
    intro i u s σ hi hu hik hI hR hF
    obtain ⟨u, rfl⟩ : ∃ q, u = q + 1 := ⟨u - 1, by omega⟩
    have := hI.le
    refine ⟨σ, fr.rf, hF, ?_⟩
    unfold g226_43
    rw [if_pos (nI_le (by omega) (by omega))]
  | succ m ih =>
    intro i u s σ hi hu hik hI hR hF
    obtain ⟨u, rfl⟩ : ∃ q, u = q + 1 := ⟨u - 1, by omega⟩
    have hle := hI.le
    have e0 : bfs (eR ρ) P b (m + 1) i s = if i < s.k ∧ s.fm b = 99 then bfs (eR ρ) P b m (i + 1) (app (s.q i) (nw (eR ρ) P s (s.q i)) s) else s := rfl
    by_cases c1 : i < s.k
    · by_cases c2 : s.fm b = 99
      · rw [e0, if_pos ⟨c1, c2⟩]
        obtain ⟨r1, r2, -, -⟩ := app_bi hP (i := i) (nw (eR ρ) P s (s.q i)) s hI c1 nw_nodup (fun v hv => by
          obtain ⟨a1, a2, a3⟩ := nw_mem.mp hv
          exact ⟨a1, a3, a2⟩)
        obtain ⟨τ, q1, q2, q3⟩ := m_ex (N := N) (cs := cs) (s0 := s) (i := i) (k43 := g226_43 N u) (x1 := nI a) (x2 := nI b) hP hB hI c1 P 0 N σ (by omega) (by unfold iv_N at hN; omega) hR hF
        obtain ⟨υ, p1, p2, p3⟩ := ih (i + 1) u _ τ (by omega) (by omega) (by omega) r1 (fun x y hx hy => by rw [q1.r (by decide)]; exact hR x y hx hy) q2
        refine ⟨υ, q1.tr p1, p2, ?_⟩
        unfold g226_43
        rw [if_neg (nI_ge (by omega) (by omega)), r72_27, a83 (by omega), hF.2 b hb, if_pos c2, if_neg (fun q => q rfl)]
        exact q3.trans p3
      · rw [e0, if_neg (fun q => c2 q.2)]
        refine ⟨σ, fr.rf, hF, ?_⟩
        have := hfl s hI c2
        unfold g226_43
        rw [if_neg (nI_ge (by omega) (by omega)), r72_27, a83 (by omega), hF.2 b hb, if_neg c2, if_pos (by rw [q_ne1 (by omega)]; exact id)]
    · rw [e0, if_neg (fun q => c1 q.1)]
      refine ⟨σ, fr.rf, hF, ?_⟩
      unfold g226_43
      rw [if_pos (nI_le (by omega) (by omega))]
theorem fm48 {E : Nat → Nat → Bool} {s : qS} {v : Nat} (hP : P ≤ 48) (hI : BI E P a s) (hv : v < P) (c : ¬ s.fm v = 99) : s.fm v < 48 := by
  obtain ⟨j, hj, e⟩ := (hI.mem v hv).mp c
  by_cases d : j = 0
  · rw [← e, d, hI.q0, hI.fa]
    have := hI.lt 0 hI.k1
    rw [hI.q0] at this
    omega
  · obtain ⟨i', i1, i2, i3⟩ := hI.par j (by omega) hj
    rw [← e, i2]
    have := hI.lt i' (by omega)
    omega
theorem m_none : ∀ (m v u : Nat) (σ : hp_S), v + m = P → P ≤ 48 → a < P → m < u → ∃ τ, fr [83, 84] [] σ τ ∧ (∀ x, x < P → τ.1 83 x = if x = a then nI a else if v ≤ x then -1 else σ.1 83 x) ∧ τ.1 84 0 = nI a ∧ g226_3 N u 72 (nI a) (nI b) (nI P) (nI v) (hp σ, cs) = g226_43 N N 72 (nI a) (nI b) (nI P) 1 0 (hp τ, cs) := by
  intro m
  induction m with
  | zero =>
    intro v u σ hv hP ha hu
    obtain ⟨u, rfl⟩ : ∃ q, u = q + 1 := ⟨u - 1, by omega⟩
    refine ⟨hp_wi (hp_wi σ 83 a (nI a)) 84 0 (nI a), (fr.wi (by decide)).tr (fr.wi (by decide)), fun x hx => ?_, hp_wi_at, ?_⟩
    · rw [hp_wi_ne (by decide)]
      by_cases c : x = a
      · rw [c, hp_wi_at, if_pos rfl]
      · rw [hp_wi_nj c, if_neg c, if_neg (by omega)]
    · unfold g226_3
      rw [if_pos (nI_le (by omega) (by omega)), r72_27, b83 (by omega), r72_28, show (0 : Int32) = nI 0 from rfl, b84 (by omega)]
  | succ m ih =>
    intro v u σ hv hP ha hu
    obtain ⟨u, rfl⟩ : ∃ q, u = q + 1 := ⟨u - 1, by omega⟩
    obtain ⟨τ, q1, q2, q3, q4⟩ := ih (v + 1) u (hp_wi σ 83 v (-1)) (by omega) hP ha (by omega)
    refine ⟨τ, (fr.wi (by decide)).tr q1, fun x hx => ?_, q3, ?_⟩
    · rw [q2 x hx]
      by_cases c : x = a
      · rw [if_pos c, if_pos c]
      · rw [if_neg c, if_neg c]
        by_cases d : x = v
        · rw [d, hp_wi_at, if_neg (by omega), if_pos (by omega)]
        · rw [hp_wi_nj d]
          by_cases g : v ≤ x
          · rw [if_pos g, if_pos (by omega)]
          · rw [if_neg g, if_neg (by omega)]
    · unfold g226_3
      rw [if_neg (nI_ge (by omega) (by omega)), r72_27, b83 (by omega), nI_1]
      exact q4
/-- the way back -/
theorem m_snd {s : qS} (hP : P ≤ 48) (hI : BI (eR ρ) P a s) : ∀ (j u m : Nat) (ρ' : Nat → Nat → Nat) (σ : hp_S), j < m → j < u → j < s.k → RO σ P ρ' → FQ σ P s → (∀ i' j', i' < j' → j' ≤ j → ρ' (s.q i') (s.q j') = ρ (s.q i') (s.q j')) → ∃ τ, fr [82] [] σ τ ∧ RO τ P (snd s.fm a m (s.q j) ρ') ∧ g226_157 N u 72 (nI a) (nI (s.q j)) (hp σ, cs) = some (.inl (some (.int 1)), (hp τ, cs)) := by
  have ha : a < P := by have := hI.lt 0 hI.k1; rw [hI.q0] at this; exact this
  intro j
  induction j using Nat.strongRecOn with
  | ind j ih =>
    intro u m ρ' σ hm hu hj hR hF hρ
    obtain ⟨m, rfl⟩ : ∃ q, m = q + 1 := ⟨m - 1, by omega⟩
    obtain ⟨u, rfl⟩ : ∃ q, u = q + 1 := ⟨u - 1, by omega⟩
    have es : snd s.fm a (m + 1) (s.q j) ρ' = if s.q j = a then ρ' else snd s.fm a m (s.fm (s.q j)) (up ρ' (s.fm (s.q j)) (s.q j)) := rfl
    have hjn := hI.lt j hj
    rw [es]
    unfold g226_157
    by_cases c : s.q j = a
    · refine ⟨σ, fr.rf, by rw [if_pos c]; exact hR, ?_⟩
      rw [if_pos (by rw [c])]
    · rw [if_neg c, if_neg (by rw [q_eq (by omega) (by omega)]; exact c)]
      have hj0 : 0 < j := by
        apply Nat.pos_of_ne_zero
        intro q
        rw [q, hI.q0] at c
        exact c rfl
      obtain ⟨i, i1, i2, i3⟩ := hI.par j hj0 hj
      have hin := hI.lt i (by omega)
      have hne : s.q i ≠ s.q j := hI.inj i j i1 hj
      have hnz : ρ' (s.q i) (s.q j) ≠ 0 := by
        rw [hρ i j i1 (Nat.le_refl _)]
        exact of_decide_eq_true i3
      have hf : σ.1 83 (s.q j) = nI (s.q i) := by rw [hF.2 (s.q j) hjn, i2, if_neg (by omega)]
      rw [i2]
      have hρ2 : ∀ i' j', i' < j' → j' ≤ i → up ρ' (s.q i) (s.q j) (s.q i') (s.q j') = ρ (s.q i') (s.q j') := fun i' j' h1 h2 => by
        rw [up_ne (fun q => hI.inj j' j (by omega) hj q.2) (fun q => hI.inj i' j (by omega) hj q.1)]
        exact hρ i' j' h1 (by omega)
      have e1 : nI (ρ' (s.q i) (s.q j)) - 1 = nI (up ρ' (s.q i) (s.q j) (s.q i) (s.q j)) := by
        obtain ⟨z, hz⟩ : ∃ z, ρ' (s.q i) (s.q j) = z + 1 := ⟨ρ' (s.q i) (s.q j) - 1, by omega⟩
        rw [up_at hne, hz, nI_m1]
        rfl
      have e2 : nI (ρ' (s.q j) (s.q i)) + 1 = nI (up ρ' (s.q i) (s.q j) (s.q j) (s.q i)) := by
        rw [up_bk hne, nI_1]
      have hR2 : RO (hp_wi (hp_wi σ 82 (48 * s.q i + s.q j) (nI (up ρ' (s.q i) (s.q j) (s.q i) (s.q j)))) 82 (48 * s.q j + s.q i) (nI (up ρ' (s.q i) (s.q j) (s.q j) (s.q i)))) P (up ρ' (s.q i) (s.q j)) := by
        intro x y hx hy
        by_cases c1 : x = s.q j ∧ y = s.q i
        · rw [c1.1, c1.2, hp_wi_at]
        · rw [hp_wi_nj (by omega)]
          by_cases c2 : x = s.q i ∧ y = s.q j
          · rw [c2.1, c2.2, hp_wi_at]
          · rw [hp_wi_nj (by omega), hR x y hx hy, up_ne c2 c1]
      obtain ⟨τ, q1, q2, q3⟩ := ih i i1 u m _ _ (by omega) (by omega) (by omega) hR2 ⟨fun j' h => by rw [hp_wi_ne (by decide), hp_wi_ne (by decide)]; exact hF.1 j' h, fun v h => by rw [hp_wi_ne (by decide), hp_wi_ne (by decide)]; exact hF.2 v h⟩ hρ2
      refine ⟨τ, (fr.wi (by decide)).tr ((fr.wi (by decide)).tr q1), q2, ?_⟩
      rw [r72_26, r72_27, a83 (by omega), hf, ix_c, a82 (by omega), hR _ _ hin hjn, e1, b82 (by omega), r72_26, r72_27, a83 (by omega), hp_wi_ne (by decide), hf, ix_c, a82 (by omega), hp_wi_nj (by omega), hR _ _ hjn hin, e2, b82 (by omega), r72_27, a83 (by omega), hp_wi_ne (by decide), hp_wi_ne (by decide), hf]
      exact q3
/-- finds -/
theorem m_finds {σ : hp_S} (hP : P ≤ 48) (hN : iv_N N) (ha : a < P) (hb : b < P) (hB : RB ρ) (hR : RO σ P ρ) : ∃ τ, fr [82, 83, 84] [] σ τ ∧ ((bfr (eR ρ) P a b).fm b = 99 → f226 N 72 (nI a) (nI b) (nI P) (hp σ, cs) = some (.inl (some (.int 0)), (hp τ, cs))) ∧ (¬ (bfr (eR ρ) P a b).fm b = 99 → RO τ P (snd (bfr (eR ρ) P a b).fm a 49 b ρ) ∧ f226 N 72 (nI a) (nI b) (nI P) (hp σ, cs) = some (.inl (some (.int 1)), (hp τ, cs))) := by
  obtain ⟨τ, q1, q2, q3, q4⟩ := m_none (N := N) (cs := cs) (a := a) (b := b) P 0 N σ (by omega) hP ha (by unfold iv_N at hN; omega)
  obtain ⟨υ, p1, p2, p3⟩ := m_bf (N := N) (cs := cs) (a := a) (b := b) (ρ := ρ) hP hN hb hB 48 0 N (bf0 a) τ rfl (by unfold iv_N at hN; omega) (by omega) (bi_0 hP ha) (fun x y hx hy => by rw [q1.r (by decide)]; exact hR x y hx hy) ⟨fun j hj => by
      have hj' : j < 1 := hj
      rw [show j = 0 by omega, q3]
      rfl, fun v hv => by
      rw [q2 v hv]
      show _ = if (if v = a then a else 99) = 99 then -1 else nI (if v = a then a else 99)
      by_cases c : v = a
      · rw [if_pos c, if_pos c, if_neg (by omega)]
      · rw [if_neg c, if_neg c, if_pos rfl, if_pos (by omega)]⟩
  have e1 : f226 N 72 (nI a) (nI b) (nI P) (hp σ, cs) = g226_142 N 72 (nI a) (nI b) (hp υ, cs) := by
    unfold f226
    rw [show (0 : Int32) = nI 0 from rfl, q4]
    exact p3
  have p2' : FQ υ P (bfr (eR ρ) P a b) := p2
  obtain ⟨h1, -⟩ := bfr_bi (E := eR ρ) (b := b) hP ha
  by_cases c : (bfr (eR ρ) P a b).fm b = 99
  · refine ⟨υ, (q1.tr p1).wk (fun _ z => by simp at z; rcases z with z | z <;> simp [z]) (fun _ z => z), fun _ => ?_, fun q => absurd c q⟩
    rw [e1]
    unfold g226_142
    rw [r72_27, a83 (by omega), p2'.2 b hb, if_pos c, if_neg (fun q => q rfl)]
  · obtain ⟨j, hj, e⟩ := (h1.mem b hb).mp c
    have hle := h1.le
    obtain ⟨ω, w1, w2, w3⟩ := m_snd (N := N) (cs := cs) (ρ := ρ) hP h1 j N 49 ρ υ (by omega) (by unfold iv_N at hN; omega) hj (fun x y hx hy => by rw [p1.r (by decide), q1.r (by decide)]; exact hR x y hx hy) p2' (fun _ _ _ _ => rfl)
    rw [e] at w2 w3
    refine ⟨ω, ((q1.tr p1).wk (fun _ z => by simp at z; rcases z with z | z <;> simp [z]) (fun _ z => z)).tr (w1.wk (fun _ z => by simp at z; simp [z]) (fun _ z => z)), fun q => absurd q c, fun _ => ⟨w2, ?_⟩⟩
    have hlt : (bfr (eR ρ) P a b).fm b < 48 := fm48 hP h1 hb c
    rw [e1]
    unfold g226_142
    rw [r72_27, a83 (by omega), p2'.2 b hb, if_neg c, if_pos (by rw [q_ne1 (by omega)]; exact id)]
    exact w3
theorem m_wL (hn : n ≤ 24) (hw : gw f n) (hN : iv_N N) (ha : a < n) (hb : b < n) (hab : a ≠ b) : ∀ (m u w : Nat) (ρ : Nat → Nat → Nat) (σ : hp_S), Ph n (S1 a) ρ ≤ m → m + 1 < u → w + m ≤ 100 → KL f n ρ → RO σ n ρ → σ.2.2.1 72 4 = nI n → ∃ τ, fr [82, 83, 84] [] σ τ ∧ g227_81 N u 72 (nI a) (nI b) (nI w) (hp σ, cs) = some (.inl (some (.int (nI (w + fl n a b (m + 1) ρ)))), (hp τ, cs)) := by
  have hRB : ∀ ρ, KL f n ρ → RB ρ := by
    intro ρ hK u v
    by_cases c : ρ u v = 0
    · omega
    · obtain ⟨h1, h2⟩ := hK.1.2 u v c
      have := hK.2 u v h1 h2
      by_cases d : bt (f u) v = true
      · rw [if_pos d] at this; omega
      · rw [if_neg d] at this; omega
  intro m
  induction m with
  | zero =>
    intro u w ρ σ hm hu hwm hK hR e
    obtain ⟨u, rfl⟩ : ∃ q, u = q + 1 := ⟨u - 1, by omega⟩
    obtain ⟨τ, q1, q2, q3⟩ := m_finds (N := N) (cs := cs) (σ := σ) (a := a) (b := b) (P := n) (ρ := ρ) (by omega) hN ha hb (hRB ρ hK) hR
    have efl : fl n a b 1 ρ = if (bfr (eR ρ) n a b).fm b = 99 then 0 else 1 + fl n a b 0 (snd (bfr (eR ρ) n a b).fm a 49 b ρ) := rfl
    by_cases c : (bfr (eR ρ) n a b).fm b = 99
    · refine ⟨τ, q1, ?_⟩
      unfold g227_81
      rw [i72_4, e, o72, q2 c, lf_ci_r, if_pos rfl, efl, if_pos c]
      rfl
    · have := (snd_b (S := S1 a) (K := fun _ => True) (by omega) ha hb c (fun _ _ _ _ _ _ _ _ => trivial) (decide_eq_true rfl) trivial (fun q => hab (of_decide_eq_true q).symm)).2
      omega
  | succ m ih =>
    intro u w ρ σ hm hu hwm hK hR e
    obtain ⟨u, rfl⟩ : ∃ q, u = q + 1 := ⟨u - 1, by omega⟩
    obtain ⟨τ, q1, q2, q3⟩ := m_finds (N := N) (cs := cs) (σ := σ) (a := a) (b := b) (P := n) (ρ := ρ) (by omega) hN ha hb (hRB ρ hK) hR
    have efl : fl n a b (m + 1 + 1) ρ = if (bfr (eR ρ) n a b).fm b = 99 then 0 else 1 + fl n a b (m + 1) (snd (bfr (eR ρ) n a b).fm a 49 b ρ) := rfl
    by_cases c : (bfr (eR ρ) n a b).fm b = 99
    · refine ⟨τ, q1, ?_⟩
      unfold g227_81
      rw [i72_4, e, o72, q2 c, lf_ci_r, if_pos rfl, efl, if_pos c]
      rfl
    · obtain ⟨k1, k2⟩ := snd_b (S := S1 a) (K := KL f n) (by omega) ha hb c (fun ρ' u x h1 h2 h3 h4 h5 => h1.up hw hn h2 h3 h4 h5) (decide_eq_true rfl) hK (fun q => hab (of_decide_eq_true q).symm)
      obtain ⟨r1, r2⟩ := q3 c
      obtain ⟨υ, p1, p2⟩ := ih u (w + 1) _ τ (by omega) (by omega) (by omega) k1 r1 (by rw [q1.f List.not_mem_nil]; exact e)
      refine ⟨υ, q1.tr p1, ?_⟩
      unfold g227_81
      rw [i72_4, e, o72, r2, lf_ci_r, if_neg (by decide), nI_1, p2, efl, if_neg c, Nat.add_assoc]
theorem m_rz {k2 : Nat → Int32 → Int32 → Int32 → lf_W → lf_R} : ∀ (m j u : Nat) (σ : hp_S), j + m = 2304 → m < u → ∃ τ, fr [82] [] σ τ ∧ (∀ i, i < 2304 → τ.1 82 i = if j ≤ i then 0 else σ.1 82 i) ∧ g227_2 N u 72 (nI a) (nI b) (nI j) (hp σ, cs) = g227_24 N N 72 (nI a) (nI b) 0 (hp τ, cs) := by
  intro m
  induction m with
  | zero =>
    intro j u σ hj hu
    obtain ⟨u, rfl⟩ : ∃ q, u = q + 1 := ⟨u - 1, by omega⟩
    refine ⟨σ, fr.rf, fun i hi => by rw [if_neg (by omega)], ?_⟩
    unfold g227_2
    rw [if_pos (show (2304 : Int32) ≤ nI j from nI_le (a := 2304) (by omega) (by omega))]
  | succ m ih =>
    intro j u σ hj hu
    obtain ⟨u, rfl⟩ : ∃ q, u = q + 1 := ⟨u - 1, by omega⟩
    obtain ⟨τ, q1, q2, q3⟩ := ih (j + 1) u (hp_wi σ 82 j 0) (by omega) (by omega)
    refine ⟨τ, (fr.wi (by decide)).tr q1, fun i hi => ?_, ?_⟩
    · rw [q2 i hi]
      by_cases c : i = j
      · rw [c, hp_wi_at, if_neg (by omega), if_pos (by omega)]
      · rw [hp_wi_nj c]
        by_cases d : j + 1 ≤ i
        · rw [if_pos d, if_pos (by omega)]
        · rw [if_neg d, if_neg (by omega)]
    · unfold g227_2
      rw [if_neg (show ¬ (2304 : Int32) ≤ nI j from nI_ge (b := 2304) (by omega) (by omega)), r72_26, b82 (by omega), nI_1]
      exact q3
theorem m_r1 {x : Nat} (hn : n ≤ 24) (hx : x < n) {k24 : Nat → Int32 → Int32 → Int32 → lf_W → lf_R} : ∀ (m y u : Nat) (σ : hp_S), y + m = n → m < u → σ.2.2.1 72 4 = nI n → (∀ j, j < 24 → σ.1 76 j = f j) → (∀ v, y ≤ v → v < n → σ.1 82 (48 * x + v) = 0) → ∃ τ, fr [82] [] σ τ ∧ (∀ v, y ≤ v → v < n → τ.1 82 (48 * x + v) = if bt (f x) v = true then 1 else 0) ∧ (∀ i, (i < 48 * x + y ∨ 48 * x + n ≤ i) → τ.1 82 i = σ.1 82 i) ∧ g227_35 N k24 u 72 (nI a) (nI b) (nI x) (nI y) (hp σ, cs) = k24 72 (nI a) (nI b) (nI (x + 1)) (hp τ, cs) := by
  intro m
  induction m with
  | zero =>
    intro y u σ hy hu e ef hz
    obtain ⟨u, rfl⟩ : ∃ q, u = q + 1 := ⟨u - 1, by omega⟩
    refine ⟨σ, fr.rf, fun v h1 h2 => by omega, fun _ _ => rfl, ?_⟩
    unfold g227_35
    rw [i72_4, e, if_pos (nI_le (by omega) (by omega)), nI_1]
  | succ m ih =>
    intro y u σ hy hu e ef hz
    obtain ⟨u, rfl⟩ : ∃ q, u = q + 1 := ⟨u - 1, by omega⟩
    unfold g227_35 g227_67
    rw [i72_4, e, if_neg (nI_ge (by omega) (by omega)), o72, m_joined (by omega) (by omega), lf_ci_r, ef x (by omega)]
    by_cases c : bt (f x) y = true
    · obtain ⟨τ, q1, q2, q3, q4⟩ := ih (y + 1) u (hp_wi σ 82 (48 * x + y) 1) (by omega) (by omega) e (fun j hj => by rw [hp_wi_ne (by decide)]; exact ef j hj) (fun v h1 h2 => by rw [hp_wi_nj (by omega)]; exact hz v (by omega) h2)
      refine ⟨τ, (fr.wi (by decide)).tr q1, fun v h1 h2 => ?_, fun i hi => by rw [q3 i (by omega), hp_wi_nj (by omega)], ?_⟩
      · by_cases d : v = y
        · rw [d, q3 _ (by omega), hp_wi_at, if_pos c]
        · exact q2 v (by omega) h2
      · rw [if_pos c, if_neg (by decide), r72_26, ix_c, b82 (by omega), nI_1]
        exact q4
    · obtain ⟨τ, q1, q2, q3, q4⟩ := ih (y + 1) u σ (by omega) (by omega) e ef (fun v h1 h2 => hz v (by omega) h2)
      refine ⟨τ, q1, fun v h1 h2 => ?_, fun i hi => q3 i (by omega), ?_⟩
      · by_cases d : v = y
        · rw [d, q3 _ (by omega), hz y (by omega) (by omega), if_neg c]
        · exact q2 v (by omega) h2
      · rw [if_neg c, if_pos rfl, nI_1]
        exact q4
theorem m_r2 (hn : n ≤ 24) (hN : iv_N N) : ∀ (m x u : Nat) (σ : hp_S), x + m = n → m < u → σ.2.2.1 72 4 = nI n → (∀ j, j < 24 → σ.1 76 j = f j) → (∀ z v, x ≤ z → z < n → v < n → σ.1 82 (48 * z + v) = 0) → ∃ τ, fr [82] [] σ τ ∧ (∀ z v, x ≤ z → z < n → v < n → τ.1 82 (48 * z + v) = if bt (f z) v = true then 1 else 0) ∧ (∀ i, i < 48 * x → τ.1 82 i = σ.1 82 i) ∧ g227_24 N u 72 (nI a) (nI b) (nI x) (hp σ, cs) = g227_81 N N 72 (nI a) (nI b) 0 (hp τ, cs) := by
  intro m
  induction m with
  | zero =>
    intro x u σ hx hu e ef hz
    obtain ⟨u, rfl⟩ : ∃ q, u = q + 1 := ⟨u - 1, by omega⟩
    refine ⟨σ, fr.rf, fun z v h1 h2 => by omega, fun _ _ => rfl, ?_⟩
    unfold g227_24
    rw [i72_4, e, if_pos (nI_le (by omega) (by omega))]
  | succ m ih =>
    intro x u σ hx hu e ef hz
    obtain ⟨u, rfl⟩ : ∃ q, u = q + 1 := ⟨u - 1, by omega⟩
    obtain ⟨τ, q1, q2, q3, q4⟩ := m_r1 (N := N) (cs := cs) (a := a) (b := b) (f := f) (x := x) (k24 := g227_24 N u) hn (by omega) n 0 N σ (by omega) (by unfold iv_N at hN; omega) e ef (fun v _ h => hz x v (by omega) (by omega) h)
    obtain ⟨υ, p1, p2, p3, p4⟩ := ih (x + 1) u τ (by omega) (by omega) (by rw [q1.f List.not_mem_nil]; exact e) (fun j hj => by rw [q1.r (by decide)]; exact ef j hj) (fun z v h1 h2 h3 => by rw [q3 _ (by omega)]; exact hz z v (by omega) h2 h3)
    refine ⟨υ, q1.tr p1, fun z v h1 h2 h3 => ?_, fun i hi => by rw [p3 i (by omega), q3 i (by omega)], ?_⟩
    · by_cases c : z = x
      · rw [c, p3 _ (by omega)]; exact q2 v (by omega) h3
      · exact p2 z v (by omega) h2 h3
    · unfold g227_24
      rw [i72_4, e, if_neg (nI_ge (by omega) (by omega)), show (0 : Int32) = nI 0 from rfl, q4]
      exact p4
/-- waysByLines -/
theorem m_ways {σ : hp_S} {d : Nat} (hg : GW n d f) (hN : iv_N N) (e : σ.2.2.1 72 4 = nI n) (ef : ∀ j, j < 24 → σ.1 76 j = f j) (ha : a < n) (hb : b < n) (hab : a ≠ b) : ∃ τ, fr [82, 83, 84] [] σ τ ∧ f227 N 72 (nI a) (nI b) (hp σ, cs) = some (.inl (some (.int (nI (fl n a b 9 (rL f n))))), (hp τ, cs)) := by
  have hn := hg.2.1
  have hw := hg.2.2.2.2.1
  obtain ⟨τ, q1, q2, q3⟩ := m_rz (N := N) (cs := cs) (a := a) (b := b) (k2 := fun _ _ _ _ _ => none) 2304 0 N σ (by omega) (by unfold iv_N at hN; omega)
  obtain ⟨υ, p1, p2, p3, p4⟩ := m_r2 (N := N) (cs := cs) (a := a) (b := b) (f := f) hn hN n 0 N τ (by omega) (by unfold iv_N at hN; omega) (by rw [q1.f List.not_mem_nil]; exact e) (fun j hj => by rw [q1.r (by decide)]; exact ef j hj) (fun z v _ h2 h3 => by rw [q2 _ (by omega), if_pos (by omega)])
  have hPh := rL_Ph (f := f) (a := a) (d := 8) hn ha (by have := hg.2.2.2.2.2 a (by omega); have := hg.2.2.2.1; omega)
  obtain ⟨ω, r1, r2⟩ := m_wL (N := N) (cs := cs) (a := a) (b := b) (f := f) hn hw hN ha hb hab 8 N 0 (rL f n) υ hPh (by unfold iv_N at hN; omega) (by omega) (rL_KL hn hw) (fun x y hx hy => by
    rw [p2 x y (by omega) hx hy]
    unfold rL
    by_cases c : bt (f x) y = true
    · rw [if_pos c, if_pos ⟨hx, hy, c⟩]; rfl
    · rw [if_neg c, if_neg (fun q => c q.2.2)]; rfl) (by rw [p1.f List.not_mem_nil, q1.f List.not_mem_nil]; exact e)
  refine ⟨ω, ((q1.tr p1).wk (fun _ z => by simp at z; simp [z]) (fun _ z => z)).tr r1, ?_⟩
  unfold f227
  rw [show (0 : Int32) = nI 0 from rfl, q3, show (0 : Int32) = nI 0 from rfl, p4]
  rw [Nat.zero_add] at r2
  exact r2
theorem fl_8 {d : Nat} (hg : GW n d f) (ha : a < n) (hb : b < n) (hab : a ≠ b) : fl n a b 9 (rL f n) ≤ 8 := by
  have hn := hg.2.1
  have hPh := rL_Ph (f := f) (a := a) (d := 8) hn ha (by have := hg.2.2.2.2.2 a (by omega); have := hg.2.2.2.1; omega)
  have := fl_le (S := S1 a) (show n ≤ 48 by omega) ha hb (decide_eq_true rfl) (fun q => hab (of_decide_eq_true q).symm) 9 (rL f n)
  omega
end FM
theorem case_apart {J : iv_J} {rd : iv_rd} {N : Nat} (hN : iv_N N) : iv_caseN J rd N g327_1116 := by
  intro sc i σ cs hs hi hI
  have key : ∃ (τ : hp_S) (ds : Nat × Nat), iv J τ ∧ ds.1 ≤ cs.1 + 1 ∧ ds.2 ≤ cs.2 + 6 ∧ ∀ k : lf_W → lf_R, tl_I (tc_I [("java/util/NoSuchElementException", 1)] (f143 N 0 (sc.2 (i + 1)) (sc.2 (i + 2)) (sc.2 (i + 3)) (hp σ, cs))) (fun w => f232 N 72 (sc.2 (i + 1)) (sc.2 (i + 2)) (sc.2 (i + 3)) w) k = k (hp τ, ds) := by
    generalize sc.2 (i + 1) = x
    generalize sc.2 (i + 2) = y
    generalize sc.2 (i + 3) = z
    refine askI (x := x) hI hN rfl (fun h => ?_) (fun σ' ds w h => ?_) (fun s n d f hs8 hx hg hv => ?_)
    · unfold f143
      rw [o0, c_hw_no h]
      rfl
    · unfold f232
      rw [o72, h, lf_ci_r, if_pos rfl]
    · subst hx
      have hn1 := hg.1
      have hn := hg.2.1
      rcases two_or n hn y z with h | ⟨p, q, hp', hq', rfl, rfl⟩
      · refine Or.inr ⟨"java/util/NoSuchElementException", 1, σ, iv_kept.rf σ, by decide, rfl, ?_, fun σ' μ ds hm hl => ⟨hp_wf μ 72 0 1, 0, iv_kept.wm (by omega), hp_wf_at, ?_⟩⟩
        · unfold f143
          rw [o0, c_hw_out hs8 hn1 hn hv.1 h]
          rfl
        · show f232 N 72 (nI s) y z (hp σ', ds) = _
          unfold f232
          rw [o72, hl, lf_ci_r, if_neg (by decide), o72, m_has_out hn hm.1 hm.2.2.1 h, lf_ci_r, if_neg (fun q => q rfl)]
      · by_cases c : p = q
        · refine Or.inl ⟨0, σ, iv_kept.rf σ, ?_, fun σ' μ ds hm hl => ⟨μ, iv_kept.rf μ, rfl, hm.2.2.1, ?_⟩⟩
          · unfold f143
            rw [o0, c_hw_in hs8 hn hv.1 hp' hq', lf_cr_r, if_neg (fun z => z (by rw [c]))]
          · show f232 N 72 (nI s) (nI p) (nI q) (hp σ', ds) = _
            unfold f232
            rw [o72, hl, lf_ci_r, if_neg (by decide), o72, m_has_in hn hm.1 hm.2.2.1 hp' hq', lf_ci_r, if_pos (by decide), if_neg (fun z => z (by rw [c]))]
        · have h8 := fl_8 hg hp' hq' c
          obtain ⟨τ, q1, q2⟩ := c_ways (σ := σ) (cs := cs) (N := N) (a := p) (b := q) (L := 24) hs8 hg hN hv hp' hq' c (by omega)
          rw [show min 24 (fl n p q 9 (rL f n)) = fl n p q 9 (rL f n) by omega] at q2
          refine Or.inl ⟨nI (fl n p q 9 (rL f n)), τ, q1.kept rfl rfl, ?_, fun σ' μ ds hm hl => ?_⟩
          · unfold f143
            rw [o0, c_hw_in hs8 hn hv.1 hp' hq', lf_cr_r, if_pos (by rw [q_eq (by omega) (by omega)]; exact c), r0_5, o33]
            have q2' : f30 N 33 (2 + 2 * s) (nI p) (nI q) 24 (hp σ, cs) = some (.inl (some (.int (nI (fl n p q 9 (rL f n))))), (hp τ, cs)) := q2
            rw [q2', lf_ci_r]
          · obtain ⟨ψ, r1, r2⟩ := m_ways (σ := μ) (cs := ds) (N := N) (a := p) (b := q) hg hN hm.1 hm.2.2.2 hp' hq' c
            refine ⟨ψ, r1.kept rfl rfl, r1.l (by decide), by rw [r1.f List.not_mem_nil]; exact hm.2.2.1, ?_⟩
            show f232 N 72 (nI s) (nI p) (nI q) (hp σ', ds) = _
            unfold f232
            rw [o72, hl, lf_ci_r, if_neg (by decide), o72, m_has_in hn hm.1 hm.2.2.1 hp' hq', lf_ci_r, if_pos (by decide), if_pos (by rw [q_eq (by omega) (by omega)]; exact c), o72, r2, lf_ci_r]
  obtain ⟨τ, ds, q1, q2, q3, q4⟩ := key
  refine ⟨τ, ds, q1, q2, q3, fun k23 => ?_⟩
  rw [← q4 (k23 (nI i + 6))]
  unfold g327_1116 h302 f302
  simp only [iv_s1 hs hi, iv_s2 hs hi, iv_s3 hs hi, Option.bind_some, if_pos hp_x]
  rfl
