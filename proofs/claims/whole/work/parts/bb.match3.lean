/-! the class's match -/
section MC
variable {cs : Nat × Nat} {N n : Nat} {f : Nat → Int32}
/-- who sends along a line to t -/
def gpt (f : Nat → Int32) (n a b t : Nat) : Int32 := if t < n ∧ t ≠ a ∧ hq f (al n) a t = b then thr f n a t n else 0
def Ept (f : Nat → Int32) (n a b : Nat) : Nat → Nat → Bool := fun x y => bt (gpt f n a b x) y
theorem gpt_bt {a b t s : Nat} (hn : n ≤ 24) : bt (gpt f n a b t) s = true ↔ (t < n ∧ t ≠ a ∧ hq f (al n) a t = b) ∧ s < n ∧ 0 < ct f (al n) a t (gd f (al n) s t) s := by
  unfold gpt
  by_cases c : t < n ∧ t ≠ a ∧ hq f (al n) a t = b
  · rw [if_pos c, thr_bt n hn]
    exact ⟨fun z => ⟨c, z⟩, fun z => z.2⟩
  · rw [if_neg c, b_0]
    exact ⟨fun z => absurd z (by decide), fun z => absurd z.1 c⟩
theorem SV_cut {E : Nat → Nat → Bool} {m t : Nat} {T : Nat → Bool} {mt mt' : Nat → Nat} {D Z : Nat → Bool} (hT : ∀ s, ¬ T s = true) (hv : ∀ s, s < 24 → mt s ≠ 99 → mt s < t) (h : SVo E m t T mt mt' D Z) : SVo E (t + 1) t (fun _ => false) mt mt' D Z := by
  obtain ⟨r0, r1, r2, r3, r4, r5, r6, r7, r8⟩ := h
  refine ⟨r0, fun s _ z => absurd z (fun q => by cases q), r2, ?_, fun s h1 h2 => ?_, fun s z h1 h2 h3 h4 => ?_, r6, r7, fun s h1 h2 => ⟨?_, (r8 s h1 h2).2⟩⟩
  · obtain ⟨s, a1, a2, a3⟩ := r3
    exact ⟨s, a1, (fun q => Bool.false_ne_true q), a3⟩
  · rcases r4 s h1 h2 with g | ⟨s0, g1, g2, g3⟩
    · exact Or.inl g
    · exact Or.inr ⟨s0, g1, (fun q => Bool.false_ne_true q), g3⟩
  · rcases r5 s z h1 h2 h3 h4 with g | ⟨-, g | g⟩
    · exact Or.inl g
    · exact absurd g (hT s)
    · exact absurd g (hT z)
  · by_cases c : mt' s = mt s
    · have := hv s h1 (by rw [← c]; exact h2)
      omega
    · rcases r4 s h1 c with g | ⟨s0, g1, g2, g3⟩
      · omega
      · have := hv s0 g1 (by rw [g3]; exact h2)
        omega
theorem unT_0 : unT 0 = 24 := by decide +kernel
theorem c_mt {g : Nat → Int32} (hn : n ≤ 24) (hN : iv_N N) (hg : ∀ t, t < n → ∀ s, bt (g t) s = true → s < n) : ∀ (m t u : Nat) (mt : Nat → Nat) (D Z : Nat → Bool) (σ : hp_S), t + m = n → m < u → AI (fun x y => bt (g x) y) n t mt D Z → (∀ x, x < n → σ.1 68 x = g x) → RWt n σ mt → ∃ τ mt' D' Z', fr [69] [(61, 10)] σ τ ∧ AI (fun x y => bt (g x) y) n n mt' D' Z' ∧ g124_63 N u 61 (nI n) (nI (mtn mt)) (nI t) (hp σ, cs) = some (.inl (some (.int (nI (mtn mt')))), (hp τ, cs)) := by
  intro m
  induction m with
  | zero =>
    intro t u mt D Z σ ht hu hA h68 hR
    obtain ⟨u, rfl⟩ : ∃ q, u = q + 1 := ⟨u - 1, by omega⟩
    have : t = n := by omega
    subst this
    refine ⟨σ, mt, D, Z, fr.rf, hA, ?_⟩
    unfold g124_63
    rw [if_pos (nI_le (by omega) (by omega))]
  | succ m ih =>
    intro t u mt D Z σ ht hu hA h68 hR
    obtain ⟨u, rfl⟩ : ∃ q, u = q + 1 := ⟨u - 1, by omega⟩
    have hA' := hA
    obtain ⟨a1, a2, a3, a4, a5, a6⟩ := hA'
    have hsv := c_sv (N := N) (cs := cs) (g := g) (mt := mt) (D := D) (Z := Z) hn hN (fun s h1 h2 => ⟨by have := (a1 s h1 h2).1; omega, (a1 s h1 h2).2⟩) a2 (fun x s h1 h2 h3 => a4 x s h1 h2 h3) a5 hg 24 39 N t 0 0 (hp_wf σ 61 10 0) (by rw [unT_0]; omega) (by omega) (by unfold iv_N at hN; omega) (by omega) (by omega) (fun s h => by rw [b_0] at h; cases h) (fun s h1 h2 => by
      exfalso
      have := (a1 s h1 (by omega)).1
      omega) h68 hR hp_wf_at
    obtain ⟨σ1, U, b1, b2, b3, b4, b5⟩ := hsv
    have w1 : fr [69] [(61, 10)] σ σ1 := (fr.wf (by decide)).tr b1
    have ecall : f125 N 61 (nI t) 0 (hp (hp_wf σ 61 10 0), cs) = g125_14 N (f125r N 39) N 61 (nI t) (nI 0) (g t &&& (0 ^^^ (-1))) (hp (hp_wf σ 61 10 0), cs) := by
      unfold f125
      conv => lhs; unfold f125r
      rw [r61_8, a68 (by omega), show (hp_wf σ 61 10 0).1 68 t = g t from h68 t (by omega), i61_10, hp_wf_at]
      rfl
    rcases b5 with ⟨e1, e2, e3, e4⟩ | ⟨mt1, e1, e2, e3⟩
    · obtain ⟨D', Z', hA2⟩ := hA.fail (V := fun s => bt U s) (fun s h1 h2 => e3 s h1 h2) (fun s h1 h2 => e4 s h1 h2 (by rw [b_0]; decide))
      obtain ⟨τ, mt', D2, Z2, p1, p2, p3⟩ := ih (t + 1) u mt D' Z' σ1 (by omega) (by omega) hA2 (fun x hx => by rw [w1.r (by decide)]; exact h68 x hx) e2
      refine ⟨τ, mt', D2, Z2, w1.tr p1, p2, ?_⟩
      unfold g124_63 g124_91
      rw [if_neg (nI_ge (by omega) (by omega)), w61_10, o61, ecall, e1, lf_ci_r, if_pos rfl, nI_1, show nI (mtn mt) + (0 : Int32) = nI (mtn mt) from by rw [show (0 : Int32) = nI 0 from rfl, nI_add, Nat.add_zero]]
      exact p3
    · have hA2 := hA.succ (show t < 24 by omega) (SV_cut (fun s z => by rw [b_0] at z; cases z) (fun s h1 h2 => (a1 s h1 h2).1) e3)
      have hcnt := e3.2.2.2.2.2.2.2.1
      obtain ⟨τ, mt', D2, Z2, p1, p2, p3⟩ := ih (t + 1) u mt1 D Z σ1 (by omega) (by omega) hA2 (fun x hx => by rw [w1.r (by decide)]; exact h68 x hx) e2
      refine ⟨τ, mt', D2, Z2, w1.tr p1, p2, ?_⟩
      unfold g124_63 g124_91
      rw [if_neg (nI_ge (by omega) (by omega)), w61_10, o61, ecall, e1, lf_ci_r, if_neg (by decide), nI_1, nI_1, ← hcnt]
      exact p3
theorem c_m0 {a b : Nat} (hn : n ≤ 24) (hw : gw f n) (hJ : dS f (al n) 23 = 0) (ha : a < n) (hb : b < n) : ∀ (m t u : Nat) (σ : hp_S), t + m = n → m < u → (∀ x t, x < n → t < n → σ.1 62 (24 * x + t) = hnx f (al n) x t) → (∀ y r, y < n → r < n → σ.1 63 (24 * y + r) = thr f n y r n) → (∀ x, x < t → σ.1 68 x = gpt f n a b x ∧ σ.1 69 x = -1) → ∃ τ, fr [68, 69] [] σ τ ∧ (∀ x, x < n → τ.1 68 x = gpt f n a b x ∧ τ.1 69 x = -1) ∧ g124_3 N u 61 (nI n) (nI a) (nI b) (nI t) (hp σ, cs) = g124_63 N N 61 (nI n) 0 0 (hp τ, cs) := by
  intro m
  induction m with
  | zero =>
    intro t u σ ht hu h62 h63 hd
    obtain ⟨u, rfl⟩ : ∃ q, u = q + 1 := ⟨u - 1, by omega⟩
    have : t = n := by omega
    subst this
    refine ⟨σ, fr.rf, hd, ?_⟩
    unfold g124_3
    rw [if_pos (nI_le (by omega) (by omega))]
  | succ m ih =>
    intro t u σ ht hu h62 h63 hd
    obtain ⟨u, rfl⟩ : ∃ q, u = q + 1 := ⟨u - 1, by omega⟩
    have hh : hops σ 62 (hq f (al n)) n := hq_hops hn hw hJ h62
    obtain ⟨τ, p1, p2, p3⟩ := ih (t + 1) u (hp_wi (hp_wi σ 68 t (gpt f n a b t)) 69 t (-1)) (by omega) (by omega) (fun x y hx hy => by rw [hp_wi_ne (by decide), hp_wi_ne (by decide)]; exact h62 x y hx hy) (fun x y hx hy => by rw [hp_wi_ne (by decide), hp_wi_ne (by decide)]; exact h63 x y hx hy) (fun x hx => by
      by_cases c : x = t
      · rw [c]
        exact ⟨by rw [hp_wi_ne (by decide), hp_wi_at], hp_wi_at⟩
      · exact ⟨by rw [hp_wi_ne (by decide), hp_wi_nj c]; exact (hd x (by omega)).1, by rw [hp_wi_nj c, hp_wi_ne (by decide)]; exact (hd x (by omega)).2⟩)
    refine ⟨τ, ((fr.wi (by decide)).tr (fr.wi (by decide))).tr p1, p2, ?_⟩
    unfold g124_3 g124_42
    rw [if_neg (nI_ge (by omega) (by omega)), r61_8, o61, c_next hn hh ha (by omega)]
    by_cases c : a = t
    · have eg : gpt f n a b t = 0 := by unfold gpt; rw [if_neg (fun z => z.2.1 c.symm)]
      rw [if_pos c, if_pos (by rw [Eq.comm, q_ne1 (by omega)]; exact id), b68 (by omega), r61_9, b69 (by omega), nI_1]
      rw [eg] at p3
      exact p3
    · have hlt := (hop_ok hn hw hJ ha (show t < n by omega) c).2.1
      rw [if_neg c]
      by_cases c2 : hq f (al n) a t = b
      · have eg : gpt f n a b t = thr f n a t n := by unfold gpt; rw [if_pos ⟨by omega, fun z => c z.symm, c2⟩]
        rw [if_neg (fun z => z (by rw [c2])), r61_1, ix_b, a63 (by omega), h63 a t ha (by omega), b68 (by omega), r61_9, b69 (by omega), nI_1, ← eg]
        exact p3
      · have eg : gpt f n a b t = 0 := by unfold gpt; rw [if_neg (fun z => c2 z.2.2)]
        rw [if_pos (by rw [q_eq (by omega) (by omega)]; exact c2), b68 (by omega), r61_9, b69 (by omega), nI_1]
        rw [eg] at p3
        exact p3
/-- match: a greatest matching -/
theorem c_match {a b : Nat} {σ : hp_S} (hn : n ≤ 24) (hw : gw f n) (hJ : dS f (al n) 23 = 0) (hN : iv_N N) (ha : a < n) (hb : b < n) (h62 : ∀ x t, x < n → t < n → σ.1 62 (24 * x + t) = hnx f (al n) x t) (h63 : ∀ y r, y < n → r < n → σ.1 63 (24 * y + r) = thr f n y r n) : ∃ τ k, fr [68, 69] [(61, 10)] σ τ ∧ MT (Ept f n a b) k ∧ VC (Ept f n a b) k ∧ f124 N 61 (nI n) (nI a) (nI b) (hp σ, cs) = some (.inl (some (.int (nI k))), (hp τ, cs)) := by
  obtain ⟨σ1, q1, q2, q3⟩ := c_m0 (N := N) (cs := cs) (a := a) (b := b) hn hw hJ ha hb n 0 N σ (by omega) (by unfold iv_N at hN; omega) h62 h63 (fun x hx => absurd hx (Nat.not_lt_zero _))
  have hA0 : AI (fun x y => bt (gpt f n a b x) y) n 0 (fun _ => 99) (fun _ => false) (fun _ => false) := ⟨fun y _ z => absurd rfl z, fun y z _ _ h => absurd rfl h, fun x h => absurd h (fun q => by cases q), fun x y _ h => absurd h (fun q => by cases q), fun y _ h => absurd h (fun q => by cases q), fun x h => absurd h (Nat.not_lt_zero _)⟩
  obtain ⟨τ, mt', D, Z, p1, p2, p3⟩ := c_mt (N := N) (cs := cs) (g := gpt f n a b) hn hN (fun t ht s h => ((gpt_bt hn).mp h).2.1) n 0 N (fun _ => 99) (fun _ => false) (fun _ => false) σ1 (by omega) (by unfold iv_N at hN; omega) hA0 (fun x hx => (q2 x hx).1) (fun s hs => by rw [if_pos rfl]; exact (q2 s hs).2)
  refine ⟨τ, mtn mt', (q1.wk (fun _ z => z) (fun _ z => absurd z List.not_mem_nil)).tr (p1.wk (fun _ z => by simp at z; simp [z]) (fun _ z => z)), p2.mt (by omega), p2.vc hn (fun x y h => ((gpt_bt hn).mp h).1.1), ?_⟩
  have e0 : mtn (fun _ => 99) = 0 := by unfold mtn; exact (sm_congr (G := fun _ => 0) (fun _ _ => by rw [if_pos rfl])).trans sm_0
  rw [e0] at p3
  unfold f124
  rw [show (0 : Int32) = nI 0 from rfl, q3]
  exact p3
end MC
