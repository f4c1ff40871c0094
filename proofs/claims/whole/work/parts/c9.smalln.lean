/-! small nets, the model: all numberings of a net are noted -/
section SMN
variable {cs : Nat × Nat} {N n x : Nat} {P : Nat → Nat} {σ τ : hp_S} {M0 : Nat → Prop}
def ckI : Bool := (List.range 7).all fun n => (List.range n).all fun a => (List.range n).all fun b => (List.range n).all fun c => (List.range n).all fun e => decide (¬ (a < b)) || decide (¬ (c < e)) || decide (pqY n a b ≠ pqY n c e) || (decide (a = c) && decide (b = e))
theorem ckI_t : ckI = true := by decide +kernel
theorem pq_inj0 (hn : n ≤ 6) {a b c e : Nat} (hab : a < b) (hb : b < n) (hce : c < e) (he : e < n) (h : pqY n a b = pqY n c e) : a = c ∧ b = e := by
  have g := ckI_t
  unfold ckI at g
  rw [List.all_eq_true] at g
  have g2 := g n (List.mem_range.mpr (by omega))
  rw [List.all_eq_true] at g2
  have g3 := g2 a (List.mem_range.mpr (by omega))
  rw [List.all_eq_true] at g3
  have g4 := g3 b (List.mem_range.mpr hb)
  rw [List.all_eq_true] at g4
  have g5 := g4 c (List.mem_range.mpr (by omega))
  rw [List.all_eq_true] at g5
  have g6 := g5 e (List.mem_range.mpr he)
  simp only [Bool.and_eq_true, Bool.or_eq_true, decide_eq_true_iff] at g6
  rcases g6 with ((w | w) | w) | w
  · exact absurd hab w
  · exact absurd hce w
  · exact absurd h w
  · exact w
theorem pq_inj (hn : n ≤ 6) {a b c e : Nat} (hab : a ≠ b) (ha : a < n) (hb : b < n) (hce : c ≠ e) (hc : c < n) (he : e < n) (h : pqY n a b = pqY n c e) : (a = c ∧ b = e) ∨ (a = e ∧ b = c) := by
  rcases Nat.lt_or_gt_of_ne hab with w | w <;> rcases Nat.lt_or_gt_of_ne hce with v | v
  · exact Or.inl (pq_inj0 hn w hb v he h)
  · rw [pqY_c hce] at h
    exact Or.inr (pq_inj0 hn w hb v hc h)
  · rw [pqY_c hab] at h
    have := pq_inj0 hn w ha v he h
    exact Or.inr ⟨this.2, this.1⟩
  · rw [pqY_c hab, pqY_c hce] at h
    have := pq_inj0 hn w ha v hc h
    exact Or.inl ⟨this.2, this.1⟩
/-- the lines that are numbered anew so far -/
def NWy (n x : Nat) (P : Nat → Nat) (a b : Nat) (W : Int32) : Prop := ∀ i, bt W i = true ↔ ∃ r s, r < s ∧ s < n ∧ bt (fxY n x r) s = true ∧ i = pqY n (P r) (P s) ∧ (r < a ∨ (r = a ∧ s < b))
theorem m_n43 {a : Nat} {k22 : Nat → Int32 → Int32 → lf_W → lf_R} {k31 : Nat → Int32 → Int32 → Int32 → lf_W → lf_R} (hn : n ≤ 6) (ha : a < n) (hP : prm n P) (ef : ∀ a, a < 24 → σ.1 76 a = fxY n x a) (hA : ∀ r i, r < n → i < n → r ≠ i → σ.1 97 (6 * r + i) = nI (pqY n r i)) (hT : PTy σ n P) : ∀ (m b u : Nat) (W : Int32), b + m = n → a < b → m < u → NWy n x P a b W → ∃ W', NWy n x P a n W' ∧ g251_43 N k22 k31 u 72 (nI n) W (nI a) (nI b) (hp σ, cs) = k31 72 (nI n) W' (nI (a + 1)) (hp σ, cs) := by
  have h15 := pp_15 hn
  intro m
  induction m with
  | zero =>
    intro b u W hb hab hu hW
    obtain ⟨u, rfl⟩ : ∃ q, u = q + 1 := ⟨u - 1, by omega⟩
    have : b = n := by omega
    subst this
    refine ⟨W, hW, ?_⟩
    unfold g251_43
    rw [if_pos (nI_le (Nat.le_refl _) (by omega)), nI_1]
  | succ m ih =>
    intro b u W hb hab hu hW
    obtain ⟨u, rfl⟩ : ∃ q, u = q + 1 := ⟨u - 1, by omega⟩
    have hbn : b < n := by omega
    have pa := hP.1 a ha
    have pb := hP.1 b hbn
    have pne : P a ≠ P b := fun e => by have := hP.2 a b ha hbn e; omega
    have hlt := pq_lt hn pa pb pne
    by_cases c : bt (fxY n x a) b = true
    · obtain ⟨W', q1, q2⟩ := ih (b + 1) u (W ||| lf_shl 1 (nI (pqY n (P a) (P b)))) (by omega) (by omega) (by omega) (fun i => by
        rw [tk_on (by omega), hW i]
        constructor
        · rintro (⟨r, s, h1, h2, h3, h4, h5⟩ | w)
          · exact ⟨r, s, h1, h2, h3, h4, by omega⟩
          · exact ⟨a, b, hab, hbn, c, w, by omega⟩
        · rintro ⟨r, s, h1, h2, h3, h4, h5⟩
          by_cases e : r = a ∧ s = b
          · obtain ⟨rfl, rfl⟩ := e
            exact Or.inr h4
          · exact Or.inl ⟨r, s, h1, h2, h3, h4, by omega⟩)
      refine ⟨W', q1, ?_⟩
      unfold g251_43 g251_88
      rw [if_neg (nI_ge hbn (by omega)), o72, m_joined (by omega) (by omega), ef a (by omega), if_pos c, lf_ci_r, if_neg (by decide), r72_52, r72_53, a98 (by omega), hT a ha, r72_53, a98 (by omega), hT b hbn, ix_6, a97 (by omega), hA _ _ pa pb pne, nI_1]
      exact q2
    · obtain ⟨W', q1, q2⟩ := ih (b + 1) u W (by omega) (by omega) (by omega) (fun i => by
        rw [hW i]
        constructor
        · rintro ⟨r, s, h1, h2, h3, h4, h5⟩
          exact ⟨r, s, h1, h2, h3, h4, by omega⟩
        · rintro ⟨r, s, h1, h2, h3, h4, h5⟩
          refine ⟨r, s, h1, h2, h3, h4, ?_⟩
          by_cases e : r = a ∧ s = b
          · obtain ⟨rfl, rfl⟩ := e
            exact absurd h3 c
          · omega)
      refine ⟨W', q1, ?_⟩
      unfold g251_43 g251_88
      rw [if_neg (nI_ge hbn (by omega)), o72, m_joined (by omega) (by omega), ef a (by omega), if_neg c, lf_ci_r, if_pos rfl, nI_1]
      exact q2
/-- a numbering -/
theorem m_n31 {k22 : Nat → Int32 → Int32 → lf_W → lf_R} (hn : n ≤ 6) (hN : iv_N N) (hP : prm n P) (ef : ∀ a, a < 24 → σ.1 76 a = fxY n x a) (hA : ∀ r i, r < n → i < n → r ≠ i → σ.1 97 (6 * r + i) = nI (pqY n r i)) (hT : PTy σ n P) : ∃ y, y < 2 ^ ppY n ∧ agY n P x y ∧ g251_31 N k22 N 72 (nI n) 0 0 (hp σ, cs) = (lf_ci (f249 N 72 (nI n) (hp (hp_wi σ 96 y 1), cs)) fun v12 w6 => k22 72 (nI n) v12 w6) := by
  have h15 := pp_15 hn
  have hp15 : 2 ^ ppY n ≤ 2 ^ 15 := Nat.pow_le_pow_right (by omega) h15
  have loop : ∀ (m a u : Nat) (W : Int32), a + m = n → m < u → NWy n x P a 0 W → ∃ W' v, NWy n x P n 0 W' ∧ g251_31 N k22 u 72 (nI n) W (nI a) (hp σ, cs) = g251_31 N k22 (v + 1) 72 (nI n) W' (nI n) (hp σ, cs) := by
    intro m
    induction m with
    | zero =>
      intro a u W ha hu hW
      obtain ⟨u, rfl⟩ : ∃ q, u = q + 1 := ⟨u - 1, by omega⟩
      have : a = n := by omega
      subst this
      exact ⟨W, u, hW, rfl⟩
    | succ m ih =>
      intro a u W ha hu hW
      obtain ⟨u, rfl⟩ : ∃ q, u = q + 1 := ⟨u - 1, by omega⟩
      obtain ⟨W1, a1, a2⟩ := m_n43 (N := N) (cs := cs) (σ := σ) (k22 := k22) (k31 := g251_31 N k22 u) hn (show a < n by omega) hP ef hA hT (n - (a + 1)) (a + 1) N W (by omega) (by omega) (by unfold iv_N at hN; omega) (fun i => by
        rw [hW i]
        constructor
        · rintro ⟨r, s, h1, h2, h3, h4, h5⟩
          exact ⟨r, s, h1, h2, h3, h4, by omega⟩
        · rintro ⟨r, s, h1, h2, h3, h4, h5⟩
          exact ⟨r, s, h1, h2, h3, h4, by omega⟩)
      obtain ⟨W', v, q1, q2⟩ := ih (a + 1) u W1 (by omega) (by omega) (fun i => by
        rw [a1 i]
        constructor
        · rintro ⟨r, s, h1, h2, h3, h4, h5⟩
          exact ⟨r, s, h1, h2, h3, h4, by omega⟩
        · rintro ⟨r, s, h1, h2, h3, h4, h5⟩
          exact ⟨r, s, h1, h2, h3, h4, by omega⟩)
      refine ⟨W', v, q1, ?_⟩
      rw [← q2, g251_31]
      rw [if_neg (nI_ge (by omega) (by omega)), nI_1, a2]
  obtain ⟨W, v, w1, w2⟩ := loop n 0 N 0 (by omega) (by unfold iv_N at hN; omega) (fun i => by
    rw [b_0]
    exact ⟨fun z => absurd z (by decide), fun z => by
      obtain ⟨r, s, h1, h2, h3, h4, h5⟩ := z
      omega⟩)
  obtain ⟨y, hy, ey⟩ := wb_of32 W
  have hbt : ∀ i, y.testBit i = true ↔ ∃ r s, r < s ∧ s < n ∧ bt (fxY n x r) s = true ∧ i = pqY n (P r) (P s) := fun i => by
    rw [← bt_nI hy, ← ey, w1 i]
    constructor
    · rintro ⟨r, s, h1, h2, h3, h4, -⟩
      exact ⟨r, s, h1, h2, h3, h4⟩
    · rintro ⟨r, s, h1, h2, h3, h4⟩
      exact ⟨r, s, h1, h2, h3, h4, by omega⟩
  have hlt : y < 2 ^ ppY n := by
    apply Nat.lt_pow_two_of_testBit
    intro i hi
    cases hb : y.testBit i with
    | false => rfl
    | true =>
      obtain ⟨r, s, h1, h2, h3, h4⟩ := (hbt i).mp hb
      have := pq_lt hn (hP.1 r (by omega)) (hP.1 s h2) (fun e => by have := hP.2 r s (by omega) h2 e; omega)
      omega
  refine ⟨y, hlt, fun a b ha hb hab => ?_, ?_⟩
  · have hne : P a ≠ P b := fun e => hab (hP.2 a b ha hb e)
    have key : y.testBit (pqY n (P a) (P b)) = true ↔ x.testBit (pqY n a b) = true := by
      rw [hbt]
      constructor
      · rintro ⟨r, s, h1, h2, h3, h4⟩
        have g := ((fx_bt hn).mp h3).2.2.2
        have hne2 : P r ≠ P s := fun e => by have := hP.2 r s (by omega) h2 e; omega
        rcases pq_inj hn hne (hP.1 a ha) (hP.1 b hb) hne2 (hP.1 r (by omega)) (hP.1 s h2) h4 with ⟨w, v⟩ | ⟨w, v⟩
        · rw [hP.2 a r ha (by omega) w, hP.2 b s hb h2 v]
          exact g
        · rw [hP.2 a s ha h2 w, hP.2 b r hb (by omega) v, pqY_c (by omega)]
          exact g
      · intro g
        rcases Nat.lt_or_gt_of_ne hab with w | w
        · exact ⟨a, b, w, hb, (fx_bt hn).mpr ⟨ha, hb, hab, g⟩, rfl⟩
        · exact ⟨b, a, w, ha, (fx_bt hn).mpr ⟨hb, ha, fun e => hab e.symm, by rw [pqY_c (fun e => hab e.symm)]; exact g⟩, pqY_c hne⟩
    cases h1 : x.testBit (pqY n a b) with
    | true => exact key.mpr h1
    | false =>
      apply ts_nt
      intro z
      rw [key.mp z] at h1
      cases h1
  · rw [show g251_31 N k22 N 72 (nI n) 0 0 (hp σ, cs) = _ from w2, g251_31]
    rw [if_pos (nI_le (Nat.le_refl _) (by omega)), r72_51, ey, b96 (by omega), o72]
    rfl
/-- what is noted -/
def NTy (σ : hp_S) (n : Nat) (M : Nat → Prop) : Prop := ∀ y, y < 2 ^ ppY n → (M y → σ.1 96 y = 1) ∧ (¬ M y → σ.1 96 y = 0)
theorem m_n22 (hn1 : 1 ≤ n) (hn : n ≤ 6) (hN : iv_N N) : ∀ (m u : Nat) (P : Nat → Nat) (σ : hp_S), 8 ^ n ≤ cdY P n + m → m < u → prm n P → (∀ a, a < 24 → σ.1 76 a = fxY n x a) → (∀ r i, r < n → i < n → r ≠ i → σ.1 97 (6 * r + i) = nI (pqY n r i)) → PTy σ n P → NTy σ n (fun y => M0 y ∨ (y < 2 ^ ppY n ∧ ∃ Q, prm n Q ∧ lxl n Q P ∧ agY n Q x y)) → ∃ τ, fr [96, 98] [] σ τ ∧ NTy τ n (fun y => M0 y ∨ (y < 2 ^ ppY n ∧ eqY n x y)) ∧ g251_22 N (u + 1) 72 (nI n) 1 (hp σ, cs) = some (.inl none, (hp τ, cs)) := by
  have h15 := pp_15 hn
  have hp15 : 2 ^ ppY n ≤ 2 ^ 15 := Nat.pow_le_pow_right (by omega) h15
  intro m
  induction m with
  | zero =>
    intro u P σ hm hu hP
    have := cdY_lt (n := n) (P := P) (fun k hk => by have := hP.1 k hk; omega) n (Nat.le_refl _)
    omega
  | succ m ih =>
    intro u P σ hm hu hP ef hA hT hM
    obtain ⟨u, rfl⟩ : ∃ q, u = q + 1 := ⟨u - 1, by omega⟩
    obtain ⟨y, y1, y2, y3⟩ := m_n31 (N := N) (cs := cs) (σ := σ) (k22 := g251_22 N (u + 1)) hn hN hP ef hA hT
    have w1 : fr [96, 98] [] σ (hp_wi σ 96 y 1) := fr.wi (by decide)
    have hT1 : PTy (hp_wi σ 96 y 1) n P := fun k hk => by rw [hp_wi_ne (by decide)]; exact hT k hk
    have same : ∀ Q, prm n Q → (∀ k, k < n → Q k = P k) → ∀ z, z < 2 ^ ppY n → agY n Q x z → z = y := fun Q hQ e z hz h => agY_one hn hP hz y1 (fun a b ha hb hab => by rw [← e a ha, ← e b hb]; exact h a b ha hb hab) y2
    have pre : g251_22 N (u + 1 + 1) 72 (nI n) 1 (hp σ, cs) = (lf_ci (f249 N 72 (nI n) (hp (hp_wi σ 96 y 1), cs)) fun v12 w6 => g251_22 N (u + 1) 72 (nI n) v12 w6) := by
      rw [g251_22, if_neg (by decide), y3]
    rcases m_next8 (N := N) (cs := cs) (σ := hp_wi σ 96 y 1) hn1 hn hN hP hT1 with ⟨a1, a2⟩ | ⟨τ1, P', a1, a2, a3, a4, a5, a6⟩
    · refine ⟨hp_wi σ 96 y 1, w1, fun z hz => ?_, ?_⟩
      · have hiff : (M0 z ∨ (z < 2 ^ ppY n ∧ eqY n x z)) ↔ ((M0 z ∨ (z < 2 ^ ppY n ∧ ∃ Q, prm n Q ∧ lxl n Q P ∧ agY n Q x z)) ∨ z = y) := by
          constructor
          · rintro (w | ⟨w1, Q, w2, w3⟩)
            · exact Or.inl (Or.inl w)
            · by_cases e : lxl n Q P
              · exact Or.inl (Or.inr ⟨w1, Q, w2, e, w3⟩)
              · exact Or.inr (same Q w2 (fun k hk => lx_tot e (a2 Q w2) k hk) z w1 w3)
          · rintro ((w | ⟨w1, Q, w2, w3, w4⟩) | w)
            · exact Or.inl w
            · exact Or.inr ⟨w1, Q, w2, w4⟩
            · rw [w]
              exact Or.inr ⟨y1, P, hP, y2⟩
        dsimp only
        rw [hiff]
        obtain ⟨m1, m2⟩ := hM z hz
        by_cases e : z = y
        · rw [e, hp_wi_at]
          exact ⟨fun _ => rfl, fun w => absurd (Or.inr rfl) w⟩
        · rw [hp_wi_nj e]
          refine ⟨fun w => m1 (w.resolve_right e), fun w => m2 (fun v => w (Or.inl v))⟩
      · rw [pre, a1, lf_ci_r, g251_22, if_pos rfl]
    · have hcd := cdY_lx (n := n) (P := P) (Q := P') (fun k hk => by have := hP.1 k hk; omega) a4
      have w2 : fr [96, 98] [] σ τ1 := w1.tr (a1.wk (fun _ z => by simp at z; simp [z]) (fun _ z => z))
      obtain ⟨τ, q1, q2, q3⟩ := ih u P' τ1 (by omega) (by omega) a3 (fun a ha => by rw [w2.r (by decide)]; exact ef a ha) (fun r i hr hi hri => by rw [w2.r (by decide)]; exact hA r i hr hi hri) a2 (fun z hz => by
        have hiff : (M0 z ∨ (z < 2 ^ ppY n ∧ ∃ Q, prm n Q ∧ lxl n Q P' ∧ agY n Q x z)) ↔ ((M0 z ∨ (z < 2 ^ ppY n ∧ ∃ Q, prm n Q ∧ lxl n Q P ∧ agY n Q x z)) ∨ z = y) := by
          constructor
          · rintro (w | ⟨w1, Q, w2, w3, w4⟩)
            · exact Or.inl (Or.inl w)
            · by_cases e : lxl n Q P
              · exact Or.inl (Or.inr ⟨w1, Q, w2, e, w4⟩)
              · by_cases g : lxl n P Q
                · exact absurd w3 (a5 Q w2 g)
                · exact Or.inr (same Q w2 (fun k hk => lx_tot e g k hk) z w1 w4)
          · rintro ((w | ⟨w1, Q, w2, w3, w4⟩) | w)
            · exact Or.inl w
            · exact Or.inr ⟨w1, Q, w2, lx_trans w3 a4, w4⟩
            · rw [w]
              exact Or.inr ⟨y1, P, hP, a4, y2⟩
        dsimp only
        rw [hiff, a1.r (by decide)]
        obtain ⟨m1, m2⟩ := hM z hz
        by_cases e : z = y
        · rw [e, hp_wi_at]
          exact ⟨fun _ => rfl, fun w => absurd (Or.inr rfl) w⟩
        · rw [hp_wi_nj e]
          exact ⟨fun w => m1 (w.resolve_right e), fun w => m2 (fun v => w (Or.inl v))⟩)
      refine ⟨τ, w2.tr q1, q2, ?_⟩
      rw [pre, a6, lf_ci_r]
      exact q3
theorem m_n2 (hn : n ≤ 6) : ∀ (m k u : Nat) (σ : hp_S), k + m = n → m < u → (∀ j, j < k → σ.1 98 j = nI j) → ∃ τ, fr [98] [] σ τ ∧ PTy τ n (fun k => k) ∧ g251_2 N u 72 (nI n) (nI k) (hp σ, cs) = g251_22 N N 72 (nI n) 1 (hp τ, cs) := by
  intro m
  induction m with
  | zero =>
    intro k u σ hk hu hd
    obtain ⟨u, rfl⟩ : ∃ q, u = q + 1 := ⟨u - 1, by omega⟩
    refine ⟨σ, fr.rf, fun j hj => hd j (by omega), ?_⟩
    unfold g251_2
    rw [if_pos (nI_le (by omega) (by omega))]
  | succ m ih =>
    intro k u σ hk hu hd
    obtain ⟨u, rfl⟩ : ∃ q, u = q + 1 := ⟨u - 1, by omega⟩
    obtain ⟨τ, q1, q2, q3⟩ := ih (k + 1) u (hp_wi σ 98 k (nI k)) (by omega) (by omega) (fun j hj => by
      by_cases c : j = k
      · rw [c, hp_wi_at]
      · rw [hp_wi_nj c]; exact hd j (by omega))
    refine ⟨τ, (fr.wi (by decide)).tr q1, q2, ?_⟩
    unfold g251_2
    rw [if_neg (nI_ge (by omega) (by omega)), r72_53, b98 (by omega), nI_1]
    exact q3
/-- notes -/
theorem m_notes (hn1 : 1 ≤ n) (hn : n ≤ 6) (hN : iv_N N) (ef : ∀ a, a < 24 → σ.1 76 a = fxY n x a) (hA : ∀ r i, r < n → i < n → r ≠ i → σ.1 97 (6 * r + i) = nI (pqY n r i)) (hM : NTy σ n M0) : ∃ τ, fr [96, 98] [] σ τ ∧ NTy τ n (fun y => M0 y ∨ (y < 2 ^ ppY n ∧ eqY n x y)) ∧ f251 N 72 (nI n) (hp σ, cs) = some (.inl none, (hp τ, cs)) := by
  obtain ⟨σ1, a1, a2, a3⟩ := m_n2 (N := N) (cs := cs) hn n 0 N σ (by omega) (by unfold iv_N at hN; omega) (fun j hj => absurd hj (Nat.not_lt_zero _))
  have h8 : 8 ^ n ≤ 8 ^ 6 := Nat.pow_le_pow_right (by omega) hn
  have first : ∀ Q, prm n Q → ¬ lxl n Q (fun k => k) := by
    rintro Q hQ ⟨e, e1, e2, e3⟩
    have h1 : Q e < e := e3
    have := e2 (Q e) h1
    have := hQ.2 (Q e) e (by omega) e1 this
    omega
  obtain ⟨u, hu⟩ : ∃ u, N = u + 1 := ⟨N - 1, by unfold iv_N at hN; omega⟩
  obtain ⟨τ, q1, q2, q3⟩ := m_n22 (N := N) (cs := cs) (x := x) (M0 := M0) hn1 hn hN (8 ^ n) u (fun k => k) σ1 (by omega) (by unfold iv_N at hN; omega) prm_id (fun a ha => by rw [a1.r (by decide)]; exact ef a ha) (fun r i hr hi hri => by rw [a1.r (by decide)]; exact hA r i hr hi hri) a2 (fun z hz => by
    rw [a1.r (by decide)]
    obtain ⟨m1, m2⟩ := hM z hz
    refine ⟨fun w => ?_, fun w => m2 (fun v => w (Or.inl v))⟩
    rcases w with w | ⟨w1, Q, w2, w3, w4⟩
    · exact m1 w
    · exact absurd w3 (first Q w2))
  refine ⟨τ, (a1.wk (fun _ z => by simp at z; simp [z]) (fun _ z => z)).tr q1, q2, ?_⟩
  rw [← hu] at q3
  unfold f251
  rw [show g251_2 N N 72 (nI n) 0 (hp σ, cs) = _ from a3]
  exact q3
end SMN
