/-! the model's matches and couplesOf -/
section CO
variable {cs : Nat × Nat} {N n m0 : Nat} {f : Nat → Int32} {G : Nat → Int32}
theorem m_mt (hn : m0 ≤ 24) (hN : iv_N N) : ∀ (c x u : Nat) (mt : Nat → Nat) (D Z : Nat → Bool) (σ : hp_S), x + c = m0 → c < u → AI (fun a b => bt (G a) b) m0 x mt D Z → (∀ a, a < m0 → σ.1 110 a = G a) → RMt σ mt → ∃ τ mt' D' Z', fr [111, 112, 113] [] σ τ ∧ AI (fun a b => bt (G a) b) m0 m0 mt' D' Z' ∧ g276_25 N u 72 (nI m0) (nI (mtn mt)) (nI x) (hp σ, cs) = some (.inl (some (.int (nI (mtn mt')))), (hp τ, cs)) := by
  intro c
  induction c with
  | zero =>
    intro x u mt D Z σ hx hu hA h110 hR
    obtain ⟨u, rfl⟩ : ∃ q, u = q + 1 := ⟨u - 1, by omega⟩
    have : x = m0 := by omega
    subst this
    refine ⟨σ, mt, D, Z, fr.rf, hA, ?_⟩
    unfold g276_25
    rw [if_pos (nI_le (by omega) (by omega))]
  | succ c ih =>
    intro x u mt D Z σ hx hu hA h110 hR
    obtain ⟨u, rfl⟩ : ∃ q, u = q + 1 := ⟨u - 1, by omega⟩
    have hA' := hA
    obtain ⟨a1, a2, a3, a4, a5, a6⟩ := hA'
    obtain ⟨σ1, b1, b2⟩ := m_im (N := N) (cs := cs) (n := m0) (x := x) (G := G) (mt := mt) (D := D) (Z := Z) (σ := σ) (y := nI m0) hn hN (by omega) (fun s h1 h2 => ⟨by have := (a1 s h1 h2).1; omega, (a1 s h1 h2).2⟩) a2 (fun x s h1 h2 h3 => a4 x s h1 h2 h3) a5 (fun s h1 h2 => by
      have := (a1 s h1 (by omega)).1
      omega) h110 hR
    rcases b2 with ⟨e1, e2, V, e3, e4⟩ | ⟨mt1, e1, e2, e3⟩
    · obtain ⟨D', Z', hA2⟩ := hA.fail (V := V) e3 e4
      obtain ⟨τ, mt', D2, Z2, p1, p2, p3⟩ := ih (x + 1) u mt D' Z' σ1 (by omega) (by omega) hA2 (fun a ha => by rw [b1.r (by decide)]; exact h110 a ha) e2
      refine ⟨τ, mt', D2, Z2, b1.tr p1, p2, ?_⟩
      unfold g276_25 g276_42
      rw [if_neg (nI_ge (by omega) (by omega)), o72, e1, lf_ci_r, if_pos rfl, nI_1]
      exact p3
    · have hA2 := hA.succ (show x < 24 by omega) (SV_cut (fun s z => by cases z) (fun s h1 h2 => (a1 s h1 h2).1) e3)
      have hcnt := e3.2.2.2.2.2.2.2.1
      obtain ⟨τ, mt', D2, Z2, p1, p2, p3⟩ := ih (x + 1) u mt1 D Z σ1 (by omega) (by omega) hA2 (fun a ha => by rw [b1.r (by decide)]; exact h110 a ha) e2
      refine ⟨τ, mt', D2, Z2, b1.tr p1, p2, ?_⟩
      unfold g276_25 g276_42
      rw [if_neg (nI_ge (by omega) (by omega)), o72, e1, lf_ci_r, if_neg (by decide), nI_1, nI_1, ← hcnt]
      exact p3
theorem m_m0 : ∀ (c y u : Nat) (σ : hp_S), y + c = 24 → c < u → ∃ τ, fr [111] [] σ τ ∧ (∀ s, s < 24 → τ.1 111 s = if y ≤ s then -1 else σ.1 111 s) ∧ g276_2 N u 72 (nI m0) (nI y) (hp σ, cs) = g276_25 N N 72 (nI m0) 0 0 (hp τ, cs) := by
  intro c
  induction c with
  | zero =>
    intro y u σ hy hu
    obtain ⟨u, rfl⟩ : ∃ q, u = q + 1 := ⟨u - 1, by omega⟩
    refine ⟨σ, fr.rf, fun s hs => by rw [if_neg (by omega)], ?_⟩
    unfold g276_2
    rw [if_pos (show (24 : Int32) ≤ nI y from nI_le (a := 24) (by omega) (by omega))]
  | succ c ih =>
    intro y u σ hy hu
    obtain ⟨u, rfl⟩ : ∃ q, u = q + 1 := ⟨u - 1, by omega⟩
    obtain ⟨τ, q1, q2, q3⟩ := ih (y + 1) u (hp_wi σ 111 y (-1)) (by omega) (by omega)
    refine ⟨τ, (fr.wi (by decide)).tr q1, fun s hs => ?_, ?_⟩
    · rw [q2 s hs]
      by_cases d : s = y
      · rw [d, hp_wi_at, if_neg (by omega), if_pos (by omega)]
      · rw [hp_wi_nj d]
        by_cases g : y ≤ s
        · rw [if_pos g, if_pos (by omega)]
        · rw [if_neg g, if_neg (by omega)]
    · unfold g276_2
      rw [if_neg (show ¬ (24 : Int32) ≤ nI y from nI_ge (b := 24) (by omega) (by omega)), r72_69, b111 (by omega), nI_1]
      exact q3
/-- matches: a greatest matching -/
theorem m_matches {σ : hp_S} (hn : m0 ≤ 24) (hN : iv_N N) (hG : ∀ a b, bt (G a) b = true → a < m0) (h110 : ∀ a, a < m0 → σ.1 110 a = G a) : ∃ τ k, fr [111, 112, 113] [] σ τ ∧ MT (fun a b => bt (G a) b) k ∧ VC (fun a b => bt (G a) b) k ∧ f276 N 72 (nI m0) (hp σ, cs) = some (.inl (some (.int (nI k))), (hp τ, cs)) := by
  obtain ⟨σ1, q1, q2, q3⟩ := m_m0 (N := N) (cs := cs) (m0 := m0) 24 0 N σ (by omega) (by unfold iv_N at hN; omega)
  have hA0 : AI (fun a b => bt (G a) b) m0 0 (fun _ => 99) (fun _ => false) (fun _ => false) := ⟨fun y _ z => absurd rfl z, fun y z _ _ h => absurd rfl h, fun x h => absurd h (fun q => by cases q), fun x y _ h => absurd h (fun q => by cases q), fun y _ h => absurd h (fun q => by cases q), fun x h => absurd h (Nat.not_lt_zero _)⟩
  obtain ⟨τ, mt', D, Z, p1, p2, p3⟩ := m_mt (N := N) (cs := cs) (G := G) hn hN m0 0 N (fun _ => 99) (fun _ => false) (fun _ => false) σ1 (by omega) (by unfold iv_N at hN; omega) hA0 (fun a ha => by rw [q1.r (by decide)]; exact h110 a ha) (fun s hs => by rw [if_pos rfl, q2 s hs, if_pos (by omega)])
  refine ⟨τ, mtn mt', (q1.wk (fun _ z => by simp at z; simp [z]) (fun _ z => z)).tr p1, p2.mt (by omega), p2.vc hn (fun x y h => hG x y h), ?_⟩
  have e0 : mtn (fun _ => 99) = 0 := by unfold mtn; exact (sm_congr (G := fun _ => 0) (fun _ _ => by rw [if_pos rfl])).trans sm_0
  rw [e0] at p3
  unfold f276
  rw [show (0 : Int32) = nI 0 from rfl, q3]
  exact p3
/-- a way is gone along: does it use the line -/
theorem m_c51 {a b x y : Nat} (hn : n ≤ 24) (hw : gw f n) (hJ : dS f (al n) 23 = 0) (ha : a < n) (hb : b < n) (hx : x < n) (hy : y < n) {k25 : Nat → Int32 → Int32 → Int32 → lf_W → lf_R} {k36 : Nat → Int32 → Int32 → Int32 → Int32 → lf_W → lf_R} {σ : hp_S} (h107 : ∀ x t, x < n → t < n → σ.1 107 (24 * x + t) = hnx f (al n) x t) : ∀ (k w u : Nat) (is : Bool), w < n → gd f (al n) w y = k → k < u → g275_51 N k25 k36 u 72 (nI a) (nI b) (nI x) (nI y) (if is = true then 1 else 0) (nI w) (hp σ, cs) = k36 72 (nI a) (nI b) (nI x) (nI (y + 1)) (hp (if is = true ∨ 0 < pc9 f (al n) (24 * a + b) y k w then hp_wi σ 110 x (σ.1 110 x ||| lf_shl 1 (nI y)) else σ), cs) := by
  intro k
  induction k with
  | zero =>
    intro w u is hw' hk hu
    obtain ⟨u, rfl⟩ : ∃ q, u = q + 1 := ⟨u - 1, by omega⟩
    have hwy := gd_0 (by omega) hk
    have hpc : pc9 f (al n) (24 * a + b) y 0 w = 0 := rfl
    unfold g275_51 g275_129
    rw [if_pos (by rw [hwy]), hpc]
    cases is with
    | true =>
      rw [if_neg (by decide), r72_68, a110 (by omega), b110 (by omega), nI_1, if_pos (Or.inl rfl)]
    | false =>
      rw [if_pos (by decide), nI_1, if_neg (fun z => by rcases z with z | z; cases z; omega)]
  | succ k ih =>
    intro w u is hw' hk hu
    obtain ⟨u, rfl⟩ : ∃ q, u = q + 1 := ⟨u - 1, by omega⟩
    have hwy : w ≠ y := by
      intro q
      rw [q, gd_self (by omega)] at hk
      omega
    obtain ⟨h1, h2, -, h4⟩ := hop_ok hn hw hJ hw' hy hwy
    have hpc : pc9 f (al n) (24 * a + b) y (k + 1) w = (if 24 * a + b = 24 * w + hq f (al n) w y then 1 else 0) + pc9 f (al n) (24 * a + b) y k (hq f (al n) w y) := rfl
    have erow : σ.1 107 (24 * w + y) = nI (hq f (al n) w y) := by rw [h107 w y hw' hy, h1]
    have go : ∀ is', g275_91 N k25 k36 (g275_51 N k25 k36 u) 72 (nI a) (nI b) (nI x) (nI y) (nI w) (if is' = true then 1 else 0) (hp σ, cs) = k36 72 (nI a) (nI b) (nI x) (nI (y + 1)) (hp (if is' = true ∨ 0 < pc9 f (al n) (24 * a + b) y k (hq f (al n) w y) then hp_wi σ 110 x (σ.1 110 x ||| lf_shl 1 (nI y)) else σ), cs) := by
      intro is'
      unfold g275_91
      rw [r72_65, ix_a, a107 (by omega), erow]
      exact ih (hq f (al n) w y) u is' h2 (by omega) (by omega)
    unfold g275_51 g275_86 g275_90
    rw [if_neg (by rw [q_eq (by omega) (by omega)]; exact hwy)]
    cases is with
    | true =>
      rw [if_pos (by decide)]
      have := go true
      rw [show (if true = true then (1 : Int32) else 0) = 1 from rfl] at this
      rw [this, if_pos (Or.inl rfl), if_pos (Or.inl rfl)]
    | false =>
      rw [if_neg (fun z => z rfl)]
      have g0 := go false
      have g1 := go true
      rw [show (if false = true then (1 : Int32) else 0) = 0 from rfl] at g0
      rw [show (if true = true then (1 : Int32) else 0) = 1 from rfl] at g1
      by_cases c : w = a
      · rw [if_neg (fun z => z (by rw [c])), r72_65, ix_a, a107 (by omega), erow]
        by_cases c2 : hq f (al n) w y = b
        · rw [if_neg (fun z => z (by rw [c2])), g1, if_pos (Or.inl rfl), if_pos (Or.inr (by rw [hpc, if_pos (by omega)]; omega))]
        · rw [if_pos (by rw [q_eq (by omega) (by omega)]; exact c2), g0, hpc, if_neg (c := 24 * a + b = 24 * w + hq f (al n) w y) (by omega), Nat.zero_add]
      · rw [if_pos (by rw [q_eq (by omega) (by omega)]; exact c), g0, hpc, if_neg (c := 24 * a + b = 24 * w + hq f (al n) w y) (by omega), Nat.zero_add]
end CO
