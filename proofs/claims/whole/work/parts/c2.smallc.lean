/-! small nets, the class: a net's rows, what is wanted, what is kept -/
section SMC
variable {cs : Nat × Nat} {N n x d k : Nat} {σ τ : hp_S}
theorem shl_j {c : Bool} {b : Nat} (hb : b < 32) {i : Nat} {r : Int32} : bt (r ||| lf_shl (if c = true then 1 else 0) (nI b)) i = true ↔ bt r i = true ∨ (c = true ∧ i = b) := by
  cases c with
  | true =>
    rw [if_pos rfl, tk_on hb]
    exact ⟨fun z => z.imp id (fun w => ⟨rfl, w⟩), fun z => z.imp id (fun w => w.2)⟩
  | false =>
    rw [if_neg (by decide), show lf_shl 0 (nI b) = 0 from (by unfold lf_shl; exact Int32.zero_shiftLeft), b_or_iff, b_0]
    exact ⟨fun z => z.elim Or.inl (fun w => absurd w (by decide)), fun z => z.elim Or.inl (fun w => absurd w.1 (by decide))⟩
/-- the pairs before a, b are laid down -/
def UFy (σ : hp_S) (n x a b : Nat) : Prop := ∀ r, r < n → ∀ i, bt (σ.1 50 r) i = true ↔ i < n ∧ r ≠ i ∧ x.testBit (pqY n r i) = true ∧ ((if r < i then r else i) < a ∨ ((if r < i then r else i) = a ∧ (if r < i then i else r) < b))
theorem c_u40 {a : Nat} {k28 : Nat → Int32 → Int32 → Int32 → Int32 → lf_W → lf_R} (hn : n ≤ 6) (hx : x < 2 ^ ppY n) (ha : a < n) : ∀ (m b u : Nat) (σ : hp_S), b + m = n → a < b → m < u → UFy σ n x a b → ∃ τ, fr [50] [] σ τ ∧ UFy τ n x a n ∧ g95_40 N k28 u 44 (nI n) (nI x) (nI (prY n a + (b - a - 1))) (nI a) (nI b) (hp σ, cs) = k28 44 (nI n) (nI x) (nI (prY n (a + 1))) (nI (a + 1)) (hp τ, cs) := by
  have h15 := pp_15 hn
  have hx32 : x < 2 ^ 32 := Nat.lt_of_lt_of_le hx (Nat.pow_le_pow_right (by omega) (by omega))
  intro m
  induction m with
  | zero =>
    intro b u σ hb hab hu hU
    obtain ⟨u, rfl⟩ : ∃ q, u = q + 1 := ⟨u - 1, by omega⟩
    have : b = n := by omega
    subst this
    refine ⟨σ, fr.rf, hU, ?_⟩
    unfold g95_40
    rw [if_pos (nI_le (Nat.le_refl _) (by omega)), nI_1, show prY b a + (b - a - 1) = prY b (a + 1) from (by show _ = prY b a + (b - 1 - a); omega)]
  | succ m ih =>
    intro b u σ hb hab hu hU
    obtain ⟨u, rfl⟩ : ∃ q, u = q + 1 := ⟨u - 1, by omega⟩
    have hbn : b < n := by omega
    have hpq : pqY n a b = prY n a + (b - a - 1) := by unfold pqY; rw [if_pos hab]
    have hlt := pq_lt hn ha hbn (by omega)
    have ebt : bt (nI x) (prY n a + (b - a - 1)) = x.testBit (pqY n a b) := by rw [bt_nI hx32, hpq]
    obtain ⟨τ, q1, q2, q3⟩ := ih (b + 1) u (hp_wi (hp_wi σ 50 a (σ.1 50 a ||| lf_shl (if x.testBit (pqY n a b) = true then 1 else 0) (nI b))) 50 b (σ.1 50 b ||| lf_shl (if x.testBit (pqY n a b) = true then 1 else 0) (nI a))) (by omega) (by omega) (by omega) (fun r hr i => by
      by_cases c : r = b
      · subst c
        rw [hp_wi_at, shl_j (by omega), hU r hr i]
        constructor
        · rintro (⟨w1, w2, w3, w4⟩ | ⟨w1, w2⟩)
          · exact ⟨w1, w2, w3, by omega⟩
          · subst w2
            exact ⟨ha, by omega, by rw [pqY_c (by omega)]; exact w1, by rw [if_neg (by omega), if_neg (by omega)]; omega⟩
        · rintro ⟨w1, w2, w3, w4⟩
          by_cases e : i = a
          · subst e
            exact Or.inr ⟨by rw [pqY_c (by omega)]; exact w3, rfl⟩
          · refine Or.inl ⟨w1, w2, w3, ?_⟩
            by_cases g : r < i
            · rw [if_pos g, if_pos g] at w4
              rw [if_pos g, if_pos g]
              omega
            · rw [if_neg g, if_neg g] at w4
              rw [if_neg g, if_neg g]
              omega
      · rw [hp_wi_nj c]
        by_cases e : r = a
        · subst e
          rw [hp_wi_at, shl_j (by omega), hU r hr i]
          constructor
          · rintro (⟨w1, w2, w3, w4⟩ | ⟨w1, w2⟩)
            · exact ⟨w1, w2, w3, by omega⟩
            · subst w2
              exact ⟨hbn, by omega, w1, by rw [if_pos (by omega), if_pos (by omega)]; omega⟩
          · rintro ⟨w1, w2, w3, w4⟩
            by_cases g : i = b
            · subst g
              exact Or.inr ⟨w3, rfl⟩
            · refine Or.inl ⟨w1, w2, w3, ?_⟩
              by_cases g2 : r < i
              · rw [if_pos g2, if_pos g2] at w4
                rw [if_pos g2, if_pos g2]
                omega
              · rw [if_neg g2, if_neg g2] at w4
                rw [if_neg g2, if_neg g2]
                omega
        · rw [hp_wi_nj e, hU r hr i]
          constructor
          · rintro ⟨w1, w2, w3, w4⟩
            exact ⟨w1, w2, w3, by omega⟩
          · rintro ⟨w1, w2, w3, w4⟩
            refine ⟨w1, w2, w3, ?_⟩
            by_cases g2 : r < i
            · rw [if_pos g2, if_pos g2] at w4
              rw [if_pos g2, if_pos g2]
              omega
            · rw [if_neg g2, if_neg g2] at w4
              rw [if_neg g2, if_neg g2]
              omega)
    refine ⟨τ, ((fr.wi (by decide)).tr (fr.wi (by decide))).tr q1, q2, ?_⟩
    have enx : prY n a + (b - a - 1) + 1 = prY n a + (b + 1 - a - 1) := by omega
    unfold g95_40
    rw [if_neg (nI_ge hbn (by omega)), r44_11, a50 (by omega), sh_bit (by omega), ebt, b50 (by omega), r44_11, a50 (by omega), hp_wi_nj (show b ≠ a by omega), b50 (by omega), nI_1, nI_1, enx]
    exact q3
theorem c_u28 (hn : n ≤ 6) (hN : iv_N N) (hx : x < 2 ^ ppY n) : ∀ (m a u : Nat) (σ : hp_S), a + m = n → m < u → UFy σ n x a 0 → ∃ τ, fr [50] [] σ τ ∧ UFy τ n x n 0 ∧ g95_28 N u 44 (nI n) (nI x) (nI (prY n a)) (nI a) (hp σ, cs) = some (.inl none, (hp τ, cs)) := by
  intro m
  induction m with
  | zero =>
    intro a u σ ha hu hU
    obtain ⟨u, rfl⟩ : ∃ q, u = q + 1 := ⟨u - 1, by omega⟩
    have : a = n := by omega
    subst this
    refine ⟨σ, fr.rf, hU, ?_⟩
    unfold g95_28
    rw [if_pos (nI_le (Nat.le_refl _) (by omega))]
  | succ m ih =>
    intro a u σ ha hu hU
    obtain ⟨u, rfl⟩ : ∃ q, u = q + 1 := ⟨u - 1, by omega⟩
    have hiff : ∀ c r i, r ≠ i → (((if r < i then r else i) < a ∨ ((if r < i then r else i) = a ∧ (if r < i then i else r) < c)) ↔ ((if r < i then r else i) < a ∨ ((if r < i then r else i) = a ∧ (if r < i then i else r) < c))) := fun _ _ _ _ => Iff.rfl
    obtain ⟨τ1, a1, a2, a3⟩ := c_u40 (N := N) (cs := cs) (k28 := g95_28 N u) hn hx (show a < n by omega) (n - (a + 1)) (a + 1) N σ (by omega) (by omega) (by unfold iv_N at hN; omega) (fun r hr i => by
      rw [hU r hr i]
      constructor
      · rintro ⟨w1, w2, w3, w4⟩
        exact ⟨w1, w2, w3, by omega⟩
      · rintro ⟨w1, w2, w3, w4⟩
        refine ⟨w1, w2, w3, ?_⟩
        by_cases g : r < i
        · rw [if_pos g, if_pos g] at w4
          rw [if_pos g, if_pos g]
          omega
        · rw [if_neg g, if_neg g] at w4
          rw [if_neg g, if_neg g]
          omega)
    obtain ⟨τ, q1, q2, q3⟩ := ih (a + 1) u τ1 (by omega) (by omega) (fun r hr i => by
      rw [a2 r hr i]
      constructor
      · rintro ⟨w1, w2, w3, w4⟩
        exact ⟨w1, w2, w3, by omega⟩
      · rintro ⟨w1, w2, w3, w4⟩
        refine ⟨w1, w2, w3, ?_⟩
        by_cases g : r < i
        · rw [if_pos g, if_pos g] at w4
          rw [if_pos g, if_pos g]
          omega
        · rw [if_neg g, if_neg g] at w4
          rw [if_neg g, if_neg g]
          omega)
    refine ⟨τ, a1.tr q1, q2, ?_⟩
    have e0 : prY n a + (a + 1 - a - 1) = prY n a := by omega
    rw [e0] at a3
    unfold g95_28
    rw [if_neg (nI_ge (by omega) (by omega)), nI_1, a3]
    exact q3
theorem c_u5 (hn : n ≤ 6) {x2 : Int32} : ∀ (m a u : Nat) (σ : hp_S), a + m = n → m < u → (∀ j, j < a → σ.1 50 j = 0) → ∃ τ, fr [50] [] σ τ ∧ (∀ j, j < n → τ.1 50 j = 0) ∧ g95_5 N u 44 (nI n) x2 0 (nI a) (hp σ, cs) = g95_28 N N 44 (nI n) x2 0 0 (hp τ, cs) := by
  intro m
  induction m with
  | zero =>
    intro a u σ ha hu hd
    obtain ⟨u, rfl⟩ : ∃ q, u = q + 1 := ⟨u - 1, by omega⟩
    refine ⟨σ, fr.rf, fun j hj => hd j (by omega), ?_⟩
    unfold g95_5
    rw [if_pos (nI_le (by omega) (by omega))]
  | succ m ih =>
    intro a u σ ha hu hd
    obtain ⟨u, rfl⟩ : ∃ q, u = q + 1 := ⟨u - 1, by omega⟩
    obtain ⟨τ, q1, q2, q3⟩ := ih (a + 1) u (hp_wi σ 50 a 0) (by omega) (by omega) (fun j hj => by
      by_cases c : j = a
      · rw [c, hp_wi_at]
      · rw [hp_wi_nj c]; exact hd j (by omega))
    refine ⟨τ, (fr.wi (by decide)).tr q1, q2, ?_⟩
    unfold g95_5
    rw [if_neg (nI_ge (by omega) (by omega)), r44_11, b50 (by omega), nI_1]
    exact q3
/-- a net's rows are laid down -/
theorem c_unf (hn : n ≤ 6) (hN : iv_N N) (hx : x < 2 ^ ppY n) : ∃ τ, fr [50] [] σ τ ∧ (∀ a, a < n → τ.1 50 a = fxY n x a) ∧ f95 N 44 (nI n) (nI x) (hp σ, cs) = some (.inl none, (hp τ, cs)) := by
  obtain ⟨σ1, a1, a2, a3⟩ := c_u5 (N := N) (cs := cs) (x2 := nI x) hn n 0 N σ (by omega) (by unfold iv_N at hN; omega) (fun j hj => absurd hj (Nat.not_lt_zero _))
  obtain ⟨τ, q1, q2, q3⟩ := c_u28 (N := N) (cs := cs) hn hN hx n 0 N σ1 (by omega) (by unfold iv_N at hN; omega) (fun r hr i => by
    rw [a2 r hr, b_0]
    exact ⟨fun z => absurd z (by decide), fun z => by omega⟩)
  refine ⟨τ, a1.tr q1, fun a ha => b_eq (fun i => ?_), ?_⟩
  · rw [q2 a ha i, fx_bt hn]
    constructor
    · rintro ⟨w1, w2, w3, -⟩
      exact ⟨ha, w1, w2, w3⟩
    · rintro ⟨w1, w2, w3, w4⟩
      refine ⟨w2, w3, w4, Or.inl ?_⟩
      split <;> omega
  · unfold f95
    rw [show g95_5 N N 44 (nI n) (nI x) 0 0 (hp σ, cs) = _ from a3]
    exact q3
theorem c_w18 {a : Nat} {k3 : Nat → Int32 → Int32 → Int32 → Int32 → lf_W → lf_R} {x2 : Int32} (hn : n ≤ 6) (hN : iv_N N) (hk : k < 2 ^ 31) (ha : a < n) (hf : ∀ a, a < n → σ.1 50 a = fxY n x a) : ∀ (m s u : Nat), s + m = (if k ≤ n then k else n) → m < u → g96_18 N k3 u 44 (nI n) x2 (nI k) (nI a) (bal (fxY n x) (al n) a s) (nI s) (hp σ, cs) = g96_50 N k3 44 (nI n) x2 (nI k) (nI a) (bal (fxY n x) (al n) a (if k ≤ n then k else n)) (hp σ, cs) := by
  intro m
  induction m with
  | zero =>
    intro s u hs hu
    obtain ⟨u, rfl⟩ : ∃ q, u = q + 1 := ⟨u - 1, by omega⟩
    have es : s = (if k ≤ n then k else n) := by omega
    rw [← es, g96_18]
    by_cases c : k ≤ n
    · rw [if_pos c] at es
      rw [if_pos (nI_le (by omega) (by omega))]
    · rw [if_neg c] at es
      rw [if_neg (nI_ge (by omega) (by omega)), if_pos (nI_le (by omega) (by omega))]
  | succ m ih =>
    intro s u hs hu
    obtain ⟨u, rfl⟩ : ∃ q, u = q + 1 := ⟨u - 1, by omega⟩
    have h1 : s < k ∧ s < n := by
      by_cases c : k ≤ n
      · rw [if_pos c] at hs; omega
      · rw [if_neg c] at hs; omega
    have hb : ∀ i, bt (bal (fxY n x) (al n) a s) i = true → i < n := fun i hi => bal_n24 (by omega) ha hi
    have hu1 : us (fun k => σ.1 50 k) (bal (fxY n x) (al n) a s) = us (fxY n x) (bal (fxY n x) (al n) a s) := us_congr (fun j hj => hf j (hb j hj))
    have hun := c_union (N := N) (cs := cs) (σ := σ) (r := 50) (n0 := 6) (f := fun k => σ.1 50 k) rfl (by omega) (fun _ _ => rfl) hN (x := bal (fxY n x) (al n) a s) (fun i hi => by have := hb i hi; omega)
    have e2 : bal (fxY n x) (al n) a s ||| us (fxY n x) (bal (fxY n x) (al n) a s) = bal (fxY n x) (al n) a (s + 1) := by
      show _ = bal (fxY n x) (al n) a s ||| (us (fxY n x) (bal (fxY n x) (al n) a s) &&& al n)
      congr 1
      refine b_eq (fun i => ?_)
      rw [b_and_iff]
      refine ⟨fun z => ⟨z, ?_⟩, fun z => z.1⟩
      obtain ⟨j, j1, j2⟩ := us_bt.mp z
      exact (al_in (by omega)).mpr ((fx_bt hn).mp j2).2.1
    rw [← ih (s + 1) u (by omega) (by omega), g96_18]
    rw [if_neg (nI_ge h1.1 (by omega)), if_neg (nI_ge h1.2 (by omega)), r44_11, hun, lf_nest_r, lf_ci_r, hu1, e2, nI_1]
/-- is it wanted -/
theorem c_want (hn1 : 1 ≤ n) (hn : n ≤ 6) (hN : iv_N N) (hk : k < 2 ^ 31) (hd : d ≤ 8) (hf : ∀ a, a < n → σ.1 50 a = fxY n x a) : (wtY n d k x → f96 N 44 (nI n) (nI d) (nI k) (hp σ, cs) = some (.inl (some (.int 1)), (hp σ, cs))) ∧ (¬ wtY n d k x → f96 N 44 (nI n) (nI d) (nI k) (hp σ, cs) = some (.inl (some (.int 0)), (hp σ, cs))) := by
  have loop : ∀ (m a u : Nat), a + m = n → m < u → ((∀ b, a ≤ b → b < n → i_pc (fxY n x b) ≤ d ∧ bal (fxY n x) (al n) b (if k ≤ n then k else n) = al n) → g96_3 N u 44 (nI n) (nI d) (nI k) (nI a) (hp σ, cs) = some (.inl (some (.int 1)), (hp σ, cs))) ∧ (¬ (∀ b, a ≤ b → b < n → i_pc (fxY n x b) ≤ d ∧ bal (fxY n x) (al n) b (if k ≤ n then k else n) = al n) → g96_3 N u 44 (nI n) (nI d) (nI k) (nI a) (hp σ, cs) = some (.inl (some (.int 0)), (hp σ, cs))) := by
    intro m
    induction m with
    | zero =>
      intro a u ha hu
      obtain ⟨u, rfl⟩ : ∃ q, u = q + 1 := ⟨u - 1, by omega⟩
      refine ⟨fun _ => ?_, fun z => absurd (fun b h1 h2 => by omega) z⟩
      unfold g96_3
      rw [if_pos (nI_le (by omega) (by omega))]
    | succ m ih =>
      intro a u ha hu
      obtain ⟨u, rfl⟩ : ∃ q, u = q + 1 := ⟨u - 1, by omega⟩
      have han : a < n := by omega
      have p32 := ipc32 (fxY n x a)
      have hle : (if k ≤ n then k else n) ≤ n := by split <;> omega
      have step : g96_3 N (u + 1) 44 (nI n) (nI d) (nI k) (nI a) (hp σ, cs) = if nI d < nI (i_pc (fxY n x a)) then some (.inl (some (.int 0)), (hp σ, cs)) else (if bal (fxY n x) (al n) a (if k ≤ n then k else n) = al n then g96_3 N u 44 (nI n) (nI d) (nI k) (nI (a + 1)) (hp σ, cs) else some (.inl (some (.int 0)), (hp σ, cs))) := by
        rw [g96_3]
        rw [if_neg (nI_ge han (by omega))]
        rw [show lf_shl 1 (nI a) = bal (fxY n x) (al n) a 0 from rfl]
        rw [show g96_18 N (g96_3 N u) N 44 (nI n) (nI d) (nI k) (nI a) (bal (fxY n x) (al n) a 0) 0 (hp σ, cs) = _ from c_w18 (N := N) (cs := cs) (σ := σ) (k := k) (x2 := nI d) (k3 := g96_3 N u) hn hN hk han hf (if k ≤ n then k else n) 0 N (by omega) (by unfold iv_N at hN; omega)]
        unfold g96_50
        rw [r44_11, a50 (by omega), hf a han, c_pc, lf_ci_r, nI_1]
        rfl
      rw [step]
      obtain ⟨i1, i2⟩ := ih (a + 1) u (by omega) (by omega)
      by_cases c : i_pc (fxY n x a) ≤ d
      · rw [if_neg (nI_nlt c (by omega))]
        by_cases e : bal (fxY n x) (al n) a (if k ≤ n then k else n) = al n
        · rw [if_pos e]
          refine ⟨fun z => i1 (fun b h1 h2 => z b (by omega) h2), fun z => i2 (fun y => z (fun b h1 h2 => ?_))⟩
          by_cases g : b = a
          · subst g; exact ⟨c, e⟩
          · exact y b (by omega) h2
        · rw [if_neg e]
          exact ⟨fun z => absurd (z a (Nat.le_refl _) han).2 e, fun _ => rfl⟩
      · rw [if_pos (nI_lt (by omega) (by omega))]
        exact ⟨fun z => absurd (z a (Nat.le_refl _) han).1 c, fun _ => rfl⟩
  have hiff : wtY n d k x ↔ ∀ b, 0 ≤ b → b < n → i_pc (fxY n x b) ≤ d ∧ bal (fxY n x) (al n) b (if k ≤ n then k else n) = al n := by
    constructor
    · intro z b _ hb
      refine ⟨z.1 b hb, b_eq (fun i => ⟨fun w => (al_in (by omega)).mpr (bal_n24 (by omega) hb w), fun w => (bal_bt (by omega)).mpr (z.2 b i hb ((al_in (by omega)).mp w))⟩)⟩
    · intro z
      refine ⟨fun a ha => (z a (Nat.zero_le _) ha).1, fun a b ha hb => (bal_bt (by omega)).mp ?_⟩
      rw [(z a (Nat.zero_le _) ha).2]
      exact (al_in (by omega)).mpr hb
  obtain ⟨l1, l2⟩ := loop n 0 N (by omega) (by unfold iv_N at hN; omega)
  unfold f96
  exact ⟨fun z => l1 (hiff.mp z), fun z => l2 (fun y => z (hiff.mpr y))⟩
end SMC
