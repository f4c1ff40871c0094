/-! small nets, the model: sketches, what is wanted -/
section SMM
variable {cs : Nat × Nat} {N n x d k : Nat} {σ τ : hp_S}
theorem ix_6 (i j : Nat) : (6 : Int32) * nI i + nI j = nI (6 * i + j) := by rw [show (6 : Int32) = nI 6 from rfl, pk_mul, nI_add]
/-- the pair comes before a, b -/
def bfY (a b r i : Nat) : Prop := min r i < a ∨ (min r i = a ∧ max r i < b)
def UMy (σ : hp_S) (n x a b : Nat) : Prop := ∀ r i, r < 24 → (bt (σ.1 76 r) i = true ↔ r < n ∧ i < n ∧ r ≠ i ∧ x.testBit (pqY n r i) = true ∧ bfY a b r i)
def PAy (σ : hp_S) (n a b : Nat) : Prop := ∀ r i, r < n → i < n → r ≠ i → bfY a b r i → σ.1 97 (6 * r + i) = nI (pqY n r i)
theorem m_k24 {a : Nat} {k12 : Nat → Int32 → Int32 → Int32 → Int32 → lf_W → lf_R} (hn : n ≤ 6) (hx : x < 2 ^ ppY n) (ha : a < n) : ∀ (m b u : Nat) (σ : hp_S), b + m = n → a < b → m < u → UMy σ n x a b → PAy σ n a b → ∃ τ, fr [76, 97] [] σ τ ∧ UMy τ n x a n ∧ PAy τ n a n ∧ g248_24 N k12 u 72 (nI n) (nI x) (nI (prY n a + (b - a - 1))) (nI a) (nI b) (hp σ, cs) = k12 72 (nI n) (nI x) (nI (prY n (a + 1))) (nI (a + 1)) (hp τ, cs) := by
  have h15 := pp_15 hn
  have hx32 : x < 2 ^ 32 := Nat.lt_of_lt_of_le hx (Nat.pow_le_pow_right (by omega) (by omega))
  intro m
  induction m with
  | zero =>
    intro b u σ hb hab hu hU hA
    obtain ⟨u, rfl⟩ : ∃ q, u = q + 1 := ⟨u - 1, by omega⟩
    have : b = n := by omega
    subst this
    refine ⟨σ, fr.rf, hU, hA, ?_⟩
    unfold g248_24
    rw [if_pos (nI_le (Nat.le_refl _) (by omega)), nI_1, show prY b a + (b - a - 1) = prY b (a + 1) from (by show _ = prY b a + (b - 1 - a); omega)]
  | succ m ih =>
    intro b u σ hb hab hu hU hA
    obtain ⟨u, rfl⟩ : ∃ q, u = q + 1 := ⟨u - 1, by omega⟩
    have hbn : b < n := by omega
    have hpq : pqY n a b = prY n a + (b - a - 1) := by unfold pqY; rw [if_pos hab]
    have hlt := pq_lt hn ha hbn (by omega)
    have ebt : bt (nI x) (prY n a + (b - a - 1)) = x.testBit (pqY n a b) := by rw [bt_nI hx32, hpq]
    have hsp : ∀ r i, r ≠ i → (bfY a (b + 1) r i ↔ bfY a b r i ∨ (r = a ∧ i = b) ∨ (r = b ∧ i = a)) := fun r i hri => by
      unfold bfY
      omega
    have hA2 : PAy (hp_wi (hp_wi σ 97 (6 * a + b) (nI (pqY n a b))) 97 (6 * b + a) (nI (pqY n a b))) n a (b + 1) := by
      intro r i hr hi hri hbf
      by_cases e1 : r = b ∧ i = a
      · obtain ⟨rfl, rfl⟩ := e1
        rw [hp_wi_at, pqY_c (by omega)]
      · rw [hp_wi_nj (by omega)]
        by_cases e2 : r = a ∧ i = b
        · obtain ⟨rfl, rfl⟩ := e2
          rw [hp_wi_at]
        · rw [hp_wi_nj (by omega)]
          refine hA r i hr hi hri ?_
          rcases (hsp r i hri).mp hbf with w | w | w
          · exact w
          · exact absurd w e2
          · exact absurd w e1
    have pre : g248_24 N k12 (u + 1) 72 (nI n) (nI x) (nI (prY n a + (b - a - 1))) (nI a) (nI b) (hp σ, cs) = if ¬ (if x.testBit (pqY n a b) = true then (1 : Int32) else 0) = 1 then g248_75 N k12 (g248_24 N k12 u) 72 (nI n) (nI x) (nI (prY n a + (b - a - 1))) (nI a) (nI b) (hp (hp_wi (hp_wi σ 97 (6 * a + b) (nI (pqY n a b))) 97 (6 * b + a) (nI (pqY n a b))), cs) else (lf_cv (f183 N 72 (nI a) (nI b) (hp (hp_wi (hp_wi σ 97 (6 * a + b) (nI (pqY n a b))) 97 (6 * b + a) (nI (pqY n a b))), cs)) fun w11 => g248_75 N k12 (g248_24 N k12 u) 72 (nI n) (nI x) (nI (prY n a + (b - a - 1))) (nI a) (nI b) w11) := by
      rw [g248_24]
      rw [if_neg (nI_ge hbn (by omega)), r72_52, ix_6, b97 (by omega), r72_52, ix_6, b97 (by omega), sh_bit (by omega), ebt, o72, hpq]
    have enx : prY n a + (b - a - 1) + 1 = prY n a + (b + 1 - a - 1) := by omega
    by_cases c : x.testBit (pqY n a b) = true
    · obtain ⟨τ1, j1, j2, j3⟩ := m_jnX (N := N) (cs := cs) (σ := hp_wi (hp_wi σ 97 (6 * a + b) (nI (pqY n a b))) 97 (6 * b + a) (nI (pqY n a b))) (a := a) (b := b) (by omega) (by omega) (by omega)
      have w1 : fr [76, 97] [] σ τ1 := ((fr.wi (by decide)).tr (fr.wi (by decide))).tr (j1.wk (fun _ z => by simp at z; simp [z]) (fun _ z => z))
      obtain ⟨τ, q1, q2, q3, q4⟩ := ih (b + 1) u τ1 (by omega) (by omega) (by omega) (fun r i hr => by
        rw [j2 r i, hp_wi_ne (by decide), hp_wi_ne (by decide), hU r i hr]
        constructor
        · rintro (⟨w1, w2, w3, w4, w5⟩ | ⟨w1, w2⟩ | ⟨w1, w2⟩)
          · exact ⟨w1, w2, w3, w4, (hsp r i w3).mpr (Or.inl w5)⟩
          · subst w1 w2
            exact ⟨ha, hbn, by omega, c, (hsp _ _ (by omega)).mpr (Or.inr (Or.inl ⟨rfl, rfl⟩))⟩
          · subst w1 w2
            exact ⟨hbn, ha, by omega, by rw [pqY_c (by omega)]; exact c, (hsp _ _ (by omega)).mpr (Or.inr (Or.inr ⟨rfl, rfl⟩))⟩
        · rintro ⟨w1, w2, w3, w4, w5⟩
          rcases (hsp r i w3).mp w5 with w | w | w
          · exact Or.inl ⟨w1, w2, w3, w4, w⟩
          · exact Or.inr (Or.inl w)
          · exact Or.inr (Or.inr w)) (fun r i hr hi hri hbf => by rw [j1.r (by decide)]; exact hA2 r i hr hi hri hbf)
      refine ⟨τ, w1.tr q1, q2, q3, ?_⟩
      rw [pre, if_pos c, if_neg (fun z => z rfl), j3, lf_cv_r]
      unfold g248_75
      rw [nI_1, nI_1, enx]
      exact q4
    · have w1 : fr [76, 97] [] σ (hp_wi (hp_wi σ 97 (6 * a + b) (nI (pqY n a b))) 97 (6 * b + a) (nI (pqY n a b))) := (fr.wi (by decide)).tr (fr.wi (by decide))
      obtain ⟨τ, q1, q2, q3, q4⟩ := ih (b + 1) u _ (by omega) (by omega) (by omega) (fun r i hr => by
        rw [hp_wi_ne (by decide), hp_wi_ne (by decide), hU r i hr]
        constructor
        · rintro ⟨w1, w2, w3, w4, w5⟩
          exact ⟨w1, w2, w3, w4, (hsp r i w3).mpr (Or.inl w5)⟩
        · rintro ⟨w1, w2, w3, w4, w5⟩
          refine ⟨w1, w2, w3, w4, ?_⟩
          rcases (hsp r i w3).mp w5 with w | w | w
          · exact w
          · rw [w.1, w.2] at w4; exact absurd w4 c
          · rw [w.1, w.2, pqY_c (by omega)] at w4; exact absurd w4 c) hA2
      refine ⟨τ, w1.tr q1, q2, q3, ?_⟩
      rw [pre, if_neg c, if_pos (by decide)]
      unfold g248_75
      rw [nI_1, nI_1, enx]
      exact q4
theorem m_k12 (hn : n ≤ 6) (hN : iv_N N) (hx : x < 2 ^ ppY n) : ∀ (m a u : Nat) (σ : hp_S), a + m = n → m < u → UMy σ n x a 0 → PAy σ n a 0 → ∃ τ, fr [76, 97] [] σ τ ∧ UMy τ n x n 0 ∧ PAy τ n n 0 ∧ g248_12 N u 72 (nI n) (nI x) (nI (prY n a)) (nI a) (hp σ, cs) = some (.inl none, (hp τ, cs)) := by
  intro m
  induction m with
  | zero =>
    intro a u σ ha hu hU hA
    obtain ⟨u, rfl⟩ : ∃ q, u = q + 1 := ⟨u - 1, by omega⟩
    have : a = n := by omega
    subst this
    refine ⟨σ, fr.rf, hU, hA, ?_⟩
    unfold g248_12
    rw [if_pos (nI_le (Nat.le_refl _) (by omega))]
  | succ m ih =>
    intro a u σ ha hu hU hA
    obtain ⟨u, rfl⟩ : ∃ q, u = q + 1 := ⟨u - 1, by omega⟩
    have b1 : ∀ r i, r ≠ i → (bfY a 0 r i ↔ bfY a (a + 1) r i) := fun r i h => by unfold bfY; omega
    have b2 : ∀ r i, r < n → i < n → r ≠ i → (bfY a n r i ↔ bfY (a + 1) 0 r i) := fun r i h1 h2 h => by unfold bfY; omega
    obtain ⟨τ1, a1, a2, a3, a4⟩ := m_k24 (N := N) (cs := cs) (k12 := g248_12 N u) hn hx (show a < n by omega) (n - (a + 1)) (a + 1) N σ (by omega) (by omega) (by unfold iv_N at hN; omega) (fun r i hr => by
      rw [hU r i hr]
      exact ⟨fun w => ⟨w.1, w.2.1, w.2.2.1, w.2.2.2.1, (b1 r i w.2.2.1).mp w.2.2.2.2⟩, fun w => ⟨w.1, w.2.1, w.2.2.1, w.2.2.2.1, (b1 r i w.2.2.1).mpr w.2.2.2.2⟩⟩) (fun r i hr hi hri hbf => hA r i hr hi hri ((b1 r i hri).mpr hbf))
    obtain ⟨τ, q1, q2, q3, q4⟩ := ih (a + 1) u τ1 (by omega) (by omega) (fun r i hr => by
      rw [a2 r i hr]
      exact ⟨fun w => ⟨w.1, w.2.1, w.2.2.1, w.2.2.2.1, (b2 r i w.1 w.2.1 w.2.2.1).mp w.2.2.2.2⟩, fun w => ⟨w.1, w.2.1, w.2.2.1, w.2.2.2.1, (b2 r i w.1 w.2.1 w.2.2.1).mpr w.2.2.2.2⟩⟩) (fun r i hr hi hri hbf => a3 r i hr hi hri ((b2 r i hr hi hri).mpr hbf))
    refine ⟨τ, a1.tr q1, q2, q3, ?_⟩
    have e0 : prY n a + (a + 1 - a - 1) = prY n a := by omega
    rw [e0] at a4
    unfold g248_12
    rw [if_neg (nI_ge (by omega) (by omega)), nI_1, a4]
    exact q4
/-- a net is sketched -/
theorem m_sketch (hn : n ≤ 6) (hN : iv_N N) (hx : x < 2 ^ ppY n) : ∃ τ, fr [76, 97] [(72, 4), (72, 5)] σ τ ∧ (∀ a, a < 24 → τ.1 76 a = fxY n x a) ∧ (∀ r i, r < n → i < n → r ≠ i → τ.1 97 (6 * r + i) = nI (pqY n r i)) ∧ τ.2.2.1 72 4 = nI n ∧ f248 N 72 (nI n) (nI x) (hp σ, cs) = some (.inl none, (hp τ, cs)) := by
  have w0 : fr [76, 97] [(72, 4), (72, 5)] σ (m_cl σ (nI n) 8) := m_cl_fr.wk (fun _ z => by simp at z; simp [z]) (fun _ z => z)
  have e4 : (m_cl σ (nI n) 8).2.2.1 72 4 = nI n := by
    show (hp_wf (hp_wf σ 72 4 (nI n)) 72 5 8).2.2.1 72 4 = nI n
    rw [hp_wf_ne (by decide), hp_wf_at]
  obtain ⟨τ, q1, q2, q3, q4⟩ := m_k12 (N := N) (cs := cs) hn hN hx n 0 N (m_cl σ (nI n) 8) (by omega) (by unfold iv_N at hN; omega) (fun r i hr => by
    rw [show (m_cl σ (nI n) 8).1 76 r = 0 from hp_fill_at hr, b_0]
    exact ⟨fun z => absurd z (by decide), fun z => by
      have := z.2.2.2.2
      unfold bfY at this
      omega⟩) (fun r i _ _ _ hbf => by unfold bfY at hbf; omega)
  refine ⟨τ, w0.tr (q1.wk (fun _ z => z) (fun _ z => absurd z List.not_mem_nil)), fun a ha => b_eq (fun i => ?_), fun r i hr hi hri => q3 r i hr hi hri (by unfold bfY; omega), by rw [q1.f List.not_mem_nil]; exact e4, ?_⟩
  · rw [q2 a i ha, fx_bt hn]
    exact ⟨fun w => ⟨w.1, w.2.1, w.2.2.1, w.2.2.2.1⟩, fun w => ⟨w.1, w.2.1, w.2.2.1, w.2.2.2, by unfold bfY; omega⟩⟩
  · unfold f248
    rw [o72, m_clears hN, lf_cv_r]
    exact q4
theorem dS_al {f : Nat → Int32} {s : Nat} (hn : n ≤ 24) : dS f (al n) s = 0 ↔ ∀ a b, a < n → b < n → gR f (al n) s a b := by
  constructor
  · intro h a b ha hb
    have h1 := sm_zero h a (by omega)
    have h2 := sm_zero h1 b (by omega)
    apply (bal_bt (show a < 32 by omega)).mp
    apply Classical.byContradiction
    intro c
    (try dsimp only at h2)
    rw [(al_in hn).mpr ha, (al_in hn).mpr hb, ts_nt c] at h2
    exact absurd h2 (by decide)
  · intro h
    unfold dS
    rw [sm_congr (G := fun _ => 0) (fun a _ => ?_), sm_0]
    rw [sm_congr (G := fun _ => 0) (fun b _ => ?_), sm_0]
    by_cases ca : a < n
    · by_cases cb : b < n
      · rw [(bal_bt (show a < 32 by omega)).mpr (h a b ca cb), Bool.not_true, Bool.and_false]
        rfl
      · rw [ts_nt (fun z => cb ((al_in hn).mp z)), Bool.and_false, Bool.false_and]
        rfl
    · rw [ts_nt (fun z => ca ((al_in hn).mp z)), Bool.false_and, Bool.false_and]
      rfl
/-- the model's way to say what is wanted -/
theorem wt_m (hn1 : 1 ≤ n) (hn : n ≤ 6) : wtY n d k x ↔ (∀ a, a < n → i_pc (fxY n x a) ≤ d) ∧ dS (fxY n x) (al n) 23 = 0 ∧ gF (fxY n x) (al n) ≤ k := by
  have hs : (if k ≤ n then k else n) ≤ 23 := by split <;> omega
  constructor
  · rintro ⟨h1, h2⟩
    have h3 : dS (fxY n x) (al n) (if k ≤ n then k else n) = 0 := (dS_al (by omega)).mpr h2
    have h4 : dS (fxY n x) (al n) 23 = 0 := (dS_al (by omega)).mpr (fun a b ha hb => gR_mono (h2 a b ha hb) hs)
    refine ⟨h1, h4, ?_⟩
    rcases Nat.lt_or_ge (if k ≤ n then k else n) (gF (fxY n x) (al n)) with c | c
    · exact absurd h3 (gF_no c)
    · by_cases e : k ≤ n
      · rw [if_pos e] at c; exact c
      · rw [if_neg e] at c; omega
  · rintro ⟨h1, h2, h3⟩
    refine ⟨h1, fun a b ha hb => ?_⟩
    by_cases e : k ≤ n
    · rw [if_pos e]
      exact (dS_al (by omega)).mp (gF_ge h2 h3) a b ha hb
    · rw [if_neg e]
      have h4 := (dS_al (by omega)).mp h2 a b ha hb
      have h5 := (bal_bt (show a < 32 by omega)).mpr h4
      rw [bal_endn hn1 (by omega) ha (by omega), ← bal_endn (s := n) hn1 (by omega) ha (by omega)] at h5
      exact (bal_bt (by omega)).mp h5
theorem m_w54 {x4 x5 : Int32} {k34 : Nat → Int32 → Int32 → Int32 → Int32 → Int32 → lf_W → lf_R} (hn1 : 1 ≤ n) (hn : n ≤ 6) (hN : iv_N N) (hk : k < 2 ^ 31) (hd : d ≤ 8) (e4 : σ.2.2.1 72 4 = nI n) (ef : ∀ a, a < 24 → σ.1 76 a = fxY n x a) : ∃ τ, fr [81] [(72, 24), (72, 25)] σ τ ∧ (wtY n d k x → g253_54 N k34 N 72 (nI n) (nI d) (nI k) x4 x5 1 0 (hp σ, cs) = g253_127 N k34 72 (nI n) (nI d) (nI k) x4 x5 1 x5 95 (hp τ, cs)) ∧ (¬ wtY n d k x → g253_54 N k34 N 72 (nI n) (nI d) (nI k) x4 x5 1 0 (hp σ, cs) = g253_127 N k34 72 (nI n) (nI d) (nI k) x4 x5 0 x5 95 (hp τ, cs)) := by
  have loop : ∀ (m a u : Nat), a + m = n → m < u → g253_54 N k34 (u + 1) 72 (nI n) (nI d) (nI k) x4 x5 0 (nI a) (hp σ, cs) = g253_54 N k34 (u - m + 1) 72 (nI n) (nI d) (nI k) x4 x5 0 (nI n) (hp σ, cs) ∧ ((∀ b, a ≤ b → b < n → i_pc (fxY n x b) ≤ d) → g253_54 N k34 (u + 1) 72 (nI n) (nI d) (nI k) x4 x5 1 (nI a) (hp σ, cs) = g253_54 N k34 (u - m + 1) 72 (nI n) (nI d) (nI k) x4 x5 1 (nI n) (hp σ, cs)) ∧ (¬ (∀ b, a ≤ b → b < n → i_pc (fxY n x b) ≤ d) → g253_54 N k34 (u + 1) 72 (nI n) (nI d) (nI k) x4 x5 1 (nI a) (hp σ, cs) = g253_54 N k34 (u - m + 1) 72 (nI n) (nI d) (nI k) x4 x5 0 (nI n) (hp σ, cs)) := by
    intro m
    induction m with
    | zero =>
      intro a u ha hu
      have : a = n := by omega
      subst this
      exact ⟨rfl, fun _ => rfl, fun z => absurd (fun b h1 h2 => by omega) z⟩
    | succ m ih =>
      intro a u ha hu
      obtain ⟨u, rfl⟩ : ∃ q, u = q + 1 := ⟨u - 1, by omega⟩
      have han : a < n := by omega
      have p32 := ipc32 (fxY n x a)
      have eu : u + 1 - (m + 1) + 1 = u - m + 1 := by omega
      obtain ⟨i1, i2, i3⟩ := ih (a + 1) u (by omega) (by omega)
      have s0 : g253_54 N k34 (u + 1 + 1) 72 (nI n) (nI d) (nI k) x4 x5 0 (nI a) (hp σ, cs) = g253_54 N k34 (u + 1) 72 (nI n) (nI d) (nI k) x4 x5 0 (nI (a + 1)) (hp σ, cs) := by
        rw [g253_54, if_neg (nI_ge han (by omega)), if_pos rfl]
        unfold g253_83 g253_84
        rw [nI_1]
      have s1 : g253_54 N k34 (u + 1 + 1) 72 (nI n) (nI d) (nI k) x4 x5 1 (nI a) (hp σ, cs) = if nI d < nI (i_pc (fxY n x a)) then g253_54 N k34 (u + 1) 72 (nI n) (nI d) (nI k) x4 x5 0 (nI (a + 1)) (hp σ, cs) else g253_54 N k34 (u + 1) 72 (nI n) (nI d) (nI k) x4 x5 1 (nI (a + 1)) (hp σ, cs) := by
        rw [g253_54, if_neg (nI_ge han (by omega)), if_neg (by decide), r72_6, a76 (by omega), ef a (by omega), m_pc hN, lf_ci_r]
        unfold g253_83 g253_84
        rw [nI_1]
      rw [eu, s0, s1]
      refine ⟨i1, fun z => ?_, fun z => ?_⟩
      · rw [if_neg (nI_nlt (z a (Nat.le_refl _) han) (by omega))]
        exact i2 (fun b h1 h2 => z b (by omega) h2)
      · by_cases e : i_pc (fxY n x a) ≤ d
        · rw [if_neg (nI_nlt e (by omega))]
          exact i3 (fun y => z (fun b h1 h2 => by
            by_cases g : b = a
            · rw [g]; exact e
            · exact y b (by omega) h2))
        · rw [if_pos (nI_lt (by omega) (by omega))]
          exact i1
  obtain ⟨M, hM⟩ : ∃ q, N = q + 1 := ⟨N - 1, by unfold iv_N at hN; omega⟩
  obtain ⟨-, l1, l2⟩ := loop n 0 M (by omega) (by unfold iv_N at hN; omega)
  have e00 : g253_54 N k34 N 72 (nI n) (nI d) (nI k) x4 x5 1 0 (hp σ, cs) = g253_54 N k34 (M + 1) 72 (nI n) (nI d) (nI k) x4 x5 1 (nI 0) (hp σ, cs) := by
    rw [← hM]
    rfl
  have hstart1 : (∀ b, b < n → i_pc (fxY n x b) ≤ d) → g253_54 N k34 N 72 (nI n) (nI d) (nI k) x4 x5 1 0 (hp σ, cs) = g253_54 N k34 (M - n + 1) 72 (nI n) (nI d) (nI k) x4 x5 1 (nI n) (hp σ, cs) := fun z => e00.trans (l1 (fun b _ h => z b h))
  have hstart0 : ¬ (∀ b, b < n → i_pc (fxY n x b) ≤ d) → g253_54 N k34 N 72 (nI n) (nI d) (nI k) x4 x5 1 0 (hp σ, cs) = g253_54 N k34 (M - n + 1) 72 (nI n) (nI d) (nI k) x4 x5 0 (nI n) (hp σ, cs) := fun z => e00.trans (l2 (fun y => z (fun b h => y b (Nat.zero_le _) h)))
  have hA : ∀ i, bt (al n) i = true → i < n := fun i w => (al_in (by omega)).mp w
  have hw := fx_gw (x := x) hn
  have hsy : ∀ a b, bt (al n) a = true → bt (al n) b = true → bt (fxY n x a) b = true → bt (fxY n x b) a = true := fun a b ha _ h => (hw a (by have := hA a ha; omega) b h).2.2.2
  by_cases cd : ∀ b, b < n → i_pc (fxY n x b) ≤ d
  · obtain ⟨τ, v1, v2, v3⟩ := m_isWhole (σ := σ) (cs := cs) (N := N) (f := fxY n x) (A := al n) (by omega) hN hA hsy e4 (fun j hj => ef j hj)
    have hend : g253_54 N k34 (M - n + 1) 72 (nI n) (nI d) (nI k) x4 x5 1 (nI n) (hp σ, cs) = (lf_ci (f222 N 72 (al n) (hp σ, cs)) fun v18 w12 => if v18 = 0 then (g253_126 N k34 72 (nI n) (nI d) (nI k) x4 x5 x5 95 w12) else ((lf_fi w12 72 12 24).bind fun v20 => if nI k < v20 then (g253_126 N k34 72 (nI n) (nI d) (nI k) x4 x5 x5 95 w12) else (g253_127 N k34 72 (nI n) (nI d) (nI k) x4 x5 1 x5 95 w12))) := by
      rw [g253_54]
      rw [if_pos (nI_le (Nat.le_refl _) (by omega)), r72_50, if_neg (by decide), o72, m_all e4, lf_ci_r, o72]
      rfl
    refine ⟨τ, v1, fun z => ?_, fun z => ?_⟩
    · obtain ⟨-, w2, w3⟩ := (wt_m hn1 hn).mp z
      have g23 := gF_le (f := fxY n x) (A := al n)
      rw [hstart1 cd, hend, v3, lf_ci_r, if_pos w2, if_neg (by decide), i72_24, (v2 w2).1, if_neg (nI_nlt w3 (by omega))]
    · rw [hstart1 cd, hend, v3, lf_ci_r]
      by_cases w2 : dS (fxY n x) (al n) 23 = 0
      · have w3 : ¬ gF (fxY n x) (al n) ≤ k := fun w => z ((wt_m hn1 hn).mpr ⟨cd, w2, w⟩)
        have g23 := gF_le (f := fxY n x) (A := al n)
        rw [if_pos w2, if_neg (by decide), i72_24, (v2 w2).1, if_pos (nI_lt (by omega) (by omega))]
        rfl
      · rw [if_neg w2, if_pos rfl]
        rfl
  · refine ⟨σ, fr.rf, fun z => absurd ((wt_m hn1 hn).mp z).1 cd, fun z => ?_⟩
    rw [hstart0 cd, g253_54]
    rw [if_pos (nI_le (Nat.le_refl _) (by omega)), r72_50, if_pos rfl]
    rfl
end SMM
