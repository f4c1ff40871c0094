/-! the class peels -/
section LC
variable {cs : Nat × Nat} {N n d s : Nat} {f : Nat → Int32} {H : Nat → Nat → Nat}
def hops (σ : hp_S) (r : Nat) (H : Nat → Nat → Nat) (n : Nat) : Prop := ∀ x t, x < n → t < n → σ.1 r (24 * x + t) = if x = t then -1 else nI (H x t)
def WS (σ : hp_S) (L : Nat → Nat) : Prop := ∀ j, j < 576 → σ.1 64 j = nI (L j)
def QR (σ : hp_S) (q : Nat → Nat) (k : Nat) : Prop := ∀ i, i < k → σ.1 65 i = nI (q i)
theorem c_next {σ : hp_S} {x t : Nat} (hn : n ≤ 24) (hh : hops σ 62 H n) (hx : x < n) (ht : t < n) {k : Int32 → lf_W → lf_R} : lf_ci (f113 N 61 (nI x) (nI t) (hp σ, cs)) k = k (if x = t then -1 else nI (H x t)) (hp σ, cs) := by
  unfold f113
  rw [r61_0, ix_b, a62 (by omega), hh x t hx ht, lf_ci_r]
theorem c_cw1 {a : Nat} (hn : n ≤ 24) (hH : ∀ x t, x < n → t < n → x ≠ t → H x t < n) (ha : a < n) {k26 : Nat → Int32 → Int32 → lf_W → lf_R} : ∀ (m t u : Nat) (L : Nat → Nat) (σ : hp_S), t + m = n → m < u → hops σ 62 H n → WS σ L → ∃ τ, fr [64] [] σ τ ∧ WS τ (fun j => L j + sm (fun i => if ev H a (t + i) j then 1 else 0) m) ∧ g121_33 N k26 u 61 (nI n) (nI a) (nI t) (hp σ, cs) = k26 61 (nI n) (nI (a + 1)) (hp τ, cs) := by
  intro m
  induction m with
  | zero =>
    intro t u L σ ht hu hh hL
    obtain ⟨u, rfl⟩ : ∃ q, u = q + 1 := ⟨u - 1, by omega⟩
    refine ⟨σ, fr.rf, fun j hj => hL j hj, ?_⟩
    unfold g121_33
    rw [if_pos (nI_le (by omega) (by omega)), nI_1]
  | succ m ih =>
    intro t u L σ ht hu hh hL
    obtain ⟨u, rfl⟩ : ∃ q, u = q + 1 := ⟨u - 1, by omega⟩
    have es : ∀ j, sm (fun i => if ev H a (t + i) j then 1 else 0) (m + 1) = (if ev H a t j then 1 else 0) + sm (fun i => if ev H a (t + 1 + i) j then 1 else 0) m := by
      intro j
      rw [sm_front, sm_congr (F := fun i => if ev H a (t + (i + 1)) j then 1 else 0) (G := fun i => if ev H a (t + 1 + i) j then 1 else 0) (fun i _ => by rw [show t + 1 + i = t + (i + 1) by omega])]
      rfl
    have skip : ∀ σ', hops σ' 62 H n → WS σ' (fun j => L j + if ev H a t j then 1 else 0) → ∃ τ, fr [64] [] σ' τ ∧ WS τ (fun j => L j + sm (fun i => if ev H a (t + i) j then 1 else 0) (m + 1)) ∧ g121_33 N k26 u 61 (nI n) (nI a) (nI (t + 1)) (hp σ', cs) = k26 61 (nI n) (nI (a + 1)) (hp τ, cs) := by
      intro σ' h1 h2
      obtain ⟨τ, q1, q2, q3⟩ := ih (t + 1) u _ σ' (by omega) (by omega) h1 h2
      refine ⟨τ, q1, fun j hj => ?_, q3⟩
      rw [q2 j hj]
      try dsimp only
      rw [es, Nat.add_assoc]
    unfold g121_33 g121_80
    rw [if_neg (nI_ge (by omega) (by omega)), o61, c_next hn hh ha (by omega)]
    by_cases c1 : a = t
    · obtain ⟨τ, q1, q2, q3⟩ := skip σ hh (fun j hj => by rw [hL j hj]; (try dsimp only); rw [if_neg (fun q => q.1 c1)]; rfl)
      refine ⟨τ, q1, q2, ?_⟩
      rw [if_pos c1, if_pos rfl, nI_1]
      exact q3
    · have hlt := hH a t ha (by omega) c1
      rw [if_neg c1, if_neg (by rw [q_ne1 (by omega)]; exact id)]
      by_cases c2 : H a t = t
      · obtain ⟨τ, q1, q2, q3⟩ := skip σ hh (fun j hj => by rw [hL j hj]; (try dsimp only); rw [if_neg (fun q => q.2.1 c2)]; rfl)
        refine ⟨τ, q1, q2, ?_⟩
        rw [if_pos (by rw [c2]), nI_1]
        exact q3
      · have hlt2 := hH (H a t) t hlt (by omega) c2
        obtain ⟨τ, q1, q2, q3⟩ := skip (hp_wi σ 64 (24 * H a t + H (H a t) t) (nI (L (24 * H a t + H (H a t) t) + 1))) (fun x y hx hy => by rw [hp_wi_ne (by decide)]; exact hh x y hx hy) (fun j hj => by
          try dsimp only
          by_cases c : j = 24 * H a t + H (H a t) t
          · rw [c, hp_wi_at, if_pos ⟨c1, c2, rfl⟩]
          · rw [hp_wi_nj c, hL j hj, if_neg (fun q => c q.2.2.symm)]
            rfl)
        refine ⟨τ, (fr.wi (by decide)).tr q1, q2, ?_⟩
        rw [if_neg (by rw [q_eq (by omega) (by omega)]; exact c2), r61_2, o61, c_next hn hh hlt (by omega), if_neg c2, ix_b, a64 (by omega), hL _ (by omega), nI_1, b64 (by omega), nI_1]
        exact q3
theorem c_cw2 (hn : n ≤ 24) (hN : iv_N N) (hH : ∀ x t, x < n → t < n → x ≠ t → H x t < n) : ∀ (m a u : Nat) (L : Nat → Nat) (σ : hp_S), a + m = n → m < u → hops σ 62 H n → WS σ L → ∃ τ, fr [64] [] σ τ ∧ WS τ (fun j => L j + sm (fun i => sm (fun t => if ev H (a + i) t j then 1 else 0) n) m) ∧ g121_26 N u 61 (nI n) (nI a) (hp σ, cs) = some (.inl none, (hp τ, cs)) := by
  intro m
  induction m with
  | zero =>
    intro a u L σ ha hu hh hL
    obtain ⟨u, rfl⟩ : ∃ q, u = q + 1 := ⟨u - 1, by omega⟩
    refine ⟨σ, fr.rf, fun j hj => hL j hj, ?_⟩
    unfold g121_26
    rw [if_pos (nI_le (by omega) (by omega))]
  | succ m ih =>
    intro a u L σ ha hu hh hL
    obtain ⟨u, rfl⟩ : ∃ q, u = q + 1 := ⟨u - 1, by omega⟩
    obtain ⟨τ, q1, q2, q3⟩ := c_cw1 (N := N) (cs := cs) (H := H) (a := a) (k26 := g121_26 N u) hn hH (by omega) n 0 N L σ (by omega) (by unfold iv_N at hN; omega) hh hL
    obtain ⟨υ, p1, p2, p3⟩ := ih (a + 1) u _ τ (by omega) (by omega) (fun x y hx hy => by rw [q1.r (by decide)]; exact hh x y hx hy) q2
    refine ⟨υ, q1.tr p1, fun j hj => ?_, ?_⟩
    · rw [p2 j hj]
      try dsimp only
      rw [sm_front, sm_congr (F := fun i => sm (fun t => if ev H (a + 1 + i) t j then 1 else 0) n) (G := fun i => sm (fun t => if ev H (a + (i + 1)) t j then 1 else 0) n) (fun i _ => by rw [show a + 1 + i = a + (i + 1) by omega]), Nat.add_assoc, sm_congr (F := fun i => if ev H a (0 + i) j then 1 else 0) (G := fun t => if ev H (a + 0) t j then 1 else 0) (fun i _ => by rw [Nat.zero_add, Nat.add_zero])]
    · unfold g121_26
      rw [if_neg (nI_ge (by omega) (by omega)), show (0 : Int32) = nI 0 from rfl, q3]
      exact p3
theorem c_cw0 : ∀ (m j u : Nat) (σ : hp_S), j + m = 576 → m < u → ∃ τ, fr [64] [] σ τ ∧ (∀ i, i < 576 → τ.1 64 i = if j ≤ i then 0 else σ.1 64 i) ∧ g121_2 N u 61 (nI n) (nI j) (hp σ, cs) = g121_26 N N 61 (nI n) 0 (hp τ, cs) := by
  intro m
  induction m with
  | zero =>
    intro j u σ hj hu
    obtain ⟨u, rfl⟩ : ∃ q, u = q + 1 := ⟨u - 1, by omega⟩
    refine ⟨σ, fr.rf, fun i hi => by rw [if_neg (by omega)], ?_⟩
    unfold g121_2
    rw [r61_2, hp_len_i (a := 64) rfl, Option.bind_some, if_pos (show Int32.ofNat 576 ≤ nI j from nI_le (a := 576) (by omega) (by omega))]
  | succ m ih =>
    intro j u σ hj hu
    obtain ⟨u, rfl⟩ : ∃ q, u = q + 1 := ⟨u - 1, by omega⟩
    obtain ⟨τ, q1, q2, q3⟩ := ih (j + 1) u (hp_wi σ 64 j 0) (by omega) (by omega)
    refine ⟨τ, (fr.wi (by decide)).tr q1, fun i hi => ?_, ?_⟩
    · rw [q2 i hi]
      by_cases c : i = j
      · rw [c, hp_wi_at, if_neg (by omega), if_pos (by omega)]
      · rw [hp_wi_nj c]
        by_cases d : j + 1 ≤ i
        · rw [if_pos d, if_pos (by omega)]
        · rw [if_neg d, if_neg (by omega)]
    · unfold g121_2
      rw [r61_2, hp_len_i (a := 64) rfl, Option.bind_some, if_neg (show ¬ Int32.ofNat 576 ≤ nI j from nI_ge (b := 576) (by omega) (by omega)), r61_2, b64 (by omega), nI_1]
      exact q3
def R0 : Nat → Nat → Bool := fun _ _ => false
theorem c_cw {σ : hp_S} (hn : n ≤ 24) (hN : iv_N N) (hH : ∀ x t, x < n → t < n → x ≠ t → H x t < n) (hh : hops σ 62 H n) : ∃ τ, fr [64] [] σ τ ∧ WS τ (lw H n R0) ∧ f121 N 61 (nI n) (hp σ, cs) = some (.inl none, (hp τ, cs)) := by
  obtain ⟨τ, q1, q2, q3⟩ := c_cw0 (N := N) (cs := cs) (n := n) 576 0 N σ (by omega) (by unfold iv_N at hN; omega)
  obtain ⟨υ, p1, p2, p3⟩ := c_cw2 (N := N) (cs := cs) (H := H) hn hN hH n 0 N (fun _ => 0) τ (by omega) (by unfold iv_N at hN; omega) (fun x y hx hy => by rw [q1.r (by decide)]; exact hh x y hx hy) (fun j hj => by rw [q2 j hj, if_pos (by omega)]; rfl)
  refine ⟨υ, q1.tr p1, fun j hj => ?_, ?_⟩
  · rw [p2 j hj]
    try dsimp only
    rw [Nat.zero_add]
    refine congrArg nI (sm_congr (fun x _ => sm_congr (fun t _ => ?_)))
    rw [Nat.zero_add]
    by_cases c : ev H x t j
    · rw [if_pos c, if_pos ⟨c, rfl⟩]
    · rw [if_neg c, if_neg (fun q => c q.1)]
  · unfold f121
    rw [show (0 : Int32) = nI 0 from rfl, q3]
    exact p3
/-- what has been looked at -/
def Pd (a : Nat) (x : Int32) (j : Nat) : Prop := j / 24 < a ∨ (j / 24 = a ∧ bt x (j % 24) = false)
theorem c_in1 {a : Nat} (hn : n ≤ 24) (hw : gw f n) (h96 : (lq f n 0 n).length ≤ 96) (ha : a < n) {k12 : Nat → Nat → Int32 → Int32 → lf_W → lf_R} {o : Nat} : ∀ (m u : Nat) (x : Int32) (q : Nat → Nat) (k : Nat) (σ : hp_S), (bl x).length = m → m < u → (∀ i, bt x i = true → bt (f a) i = true) → WS σ (lw H n R0) → QR σ q k → QI f H n R0 q k → (∀ i, i < k → Pd a x (q i)) → (∀ j, LN f j → Pd a x j → lw H n R0 j = 0 → ∃ i, i < k ∧ q i = j) → ∃ τ q' k', fr [65] [] σ τ ∧ QR τ q' k' ∧ QI f H n R0 q' k' ∧ (∀ i, i < k' → Pd a 0 (q' i)) ∧ (∀ j, LN f j → Pd a 0 j → lw H n R0 j = 0 → ∃ i, i < k' ∧ q' i = j) ∧ g120_28 N k12 u 61 o (nI k) (nI a) x (hp σ, cs) = k12 61 o (nI k') (nI (a + 1)) (hp τ, cs) := by
  intro m
  induction m with
  | zero =>
    intro u x q k σ hm hu hx hW hQ hq p1 p2
    obtain ⟨u, rfl⟩ : ∃ q, u = q + 1 := ⟨u - 1, by omega⟩
    have hx0 : x = 0 := by
      apply Classical.byContradiction
      intro q
      obtain ⟨l, -, -, -, e, -⟩ := bl_low q
      rw [e, List.length_cons] at hm
      omega
    subst hx0
    refine ⟨σ, q, k, fr.rf, hQ, hq, p1, p2, ?_⟩
    unfold g120_28
    rw [if_pos rfl, nI_1]
  | succ m ih =>
    intro u x q k σ hm hu hx hW hQ hq p1 p2
    obtain ⟨u, rfl⟩ : ∃ q, u = q + 1 := ⟨u - 1, by omega⟩
    have hx0 : ¬ x = 0 := by
      intro q
      rw [q, bl_0] at hm
      exact absurd hm (by simp)
    obtain ⟨l, l1, l2, l3, e, el⟩ := bl_low hx0
    have hl := hx l l2
    have hl24 : l < n := (hw a (by omega) l hl).2.1
    have d1 : (24 * a + l) / 24 = a := by omega
    have d2 : (24 * a + l) % 24 = l := by omega
    have hln : LN f (24 * a + l) := ⟨by omega, by rw [d1, d2]; exact hl⟩
    have pd : ∀ j, Pd a (x &&& (x - 1)) j ↔ Pd a x j ∨ j = 24 * a + l := by
      intro j
      unfold Pd
      rw [l3]
      constructor
      · rintro (h | ⟨h, h'⟩)
        · exact Or.inl (Or.inl h)
        · rw [Bool.and_eq_false_iff] at h'
          rcases h' with h' | h'
          · exact Or.inl (Or.inr ⟨h, h'⟩)
          · refine Or.inr ?_
            have : j % 24 = l := by
              apply Classical.byContradiction
              intro c
              rw [decide_eq_true c] at h'
              cases h'
            omega
      · rintro ((h | ⟨h, h'⟩) | h)
        · exact Or.inl h
        · exact Or.inr ⟨h, by rw [h', Bool.false_and]⟩
        · refine Or.inr ⟨by omega, ?_⟩
          rw [h, d2, decide_eq_false (fun q => q rfl), Bool.and_false]
    have hb' : ∀ i, bt (x &&& (x - 1)) i = true → bt (f a) i = true := fun i q => hx i (by rw [l3, Bool.and_eq_true] at q; exact q.1)
    have hm' : (bl (x &&& (x - 1))).length = m := by rw [e, List.length_cons] at hm; omega
    unfold g120_28 g120_75
    rw [if_neg hx0, (el N _).1, lf_nest_r, lf_ci_r, r61_2, ix_b, a64 (by omega), hW _ (by omega)]
    by_cases c : lw H n R0 (24 * a + l) = 0
    · have hnew : ∀ i, i < k → q i ≠ 24 * a + l := by
        intro i hi hc
        have := p1 i hi
        rw [hc] at this
        rcases this with h | ⟨h, h'⟩
        · omega
        · rw [d2, l2] at h'; cases h'
      have hq2 := hq.add hln c hnew (fun x' t hx' ht e' => absurd (lw_0.mp c x' t hx' ht e') (fun q => by cases q))
      have hk := hq2.le hn hw
      obtain ⟨τ, q', k', a1, a2, a3, a4, a5, a6⟩ := ih u (x &&& (x - 1)) (qup q k (24 * a + l)) (k + 1) (hp_wi σ 65 k (nI (24 * a + l))) hm' (by omega) hb' (fun j hj => by rw [hp_wi_ne (by decide)]; exact hW j hj) (fun i hi => by
        by_cases c : i = k
        · rw [c, hp_wi_at, qup_at]
        · rw [hp_wi_nj c, qup_ne c]; exact hQ i (by omega)) hq2 (fun i hi => by
        by_cases c : i = k
        · rw [c, qup_at]; exact (pd _).mpr (Or.inr rfl)
        · rw [qup_ne c]; exact (pd _).mpr (Or.inl (p1 i (by omega)))) (fun j h1 h2 h3 => by
        rcases (pd j).mp h2 with h | h
        · obtain ⟨i, hi, ei⟩ := p2 j h1 h h3
          exact ⟨i, by omega, by rw [qup_ne (by omega)]; exact ei⟩
        · exact ⟨k, by omega, by rw [qup_at, h]⟩)
      refine ⟨τ, q', k', (fr.wi (by decide)).tr a1, a2, a3, a4, a5, ?_⟩
      rw [c, if_neg (fun q => q rfl), r61_3, hp_len_i (a := 65) rfl, Option.bind_some, if_neg (show ¬ Int32.ofNat 192 ≤ nI k from nI_ge (b := 192) (by omega) (by omega)), r61_3, b65 (by omega), nI_1]
      exact a6
    · obtain ⟨τ, q', k', a1, a2, a3, a4, a5, a6⟩ := ih u (x &&& (x - 1)) q k σ hm' (by omega) hb' hW hQ hq (fun i hi => (pd _).mpr (Or.inl (p1 i hi))) (fun j h1 h2 h3 => by
        rcases (pd j).mp h2 with h | h
        · exact p2 j h1 h h3
        · rw [h] at h3; exact absurd h3 c)
      refine ⟨τ, q', k', a1, a2, a3, a4, a5, ?_⟩
      rw [if_pos (by
        have := lw_le (H := H) (R := R0) (j := 24 * a + l) hn
        rw [show (0 : Int32) = nI 0 from rfl, q_eq (by omega) (by omega)]
        exact c)]
      exact a6
theorem c_in2 (hs : s < 8) (hn : n ≤ 24) (hN : iv_N N) (hw : gw f n) (h96 : (lq f n 0 n).length ≤ 96) : ∀ (m a u : Nat) (q : Nat → Nat) (k : Nat) (σ : hp_S), a + m = n → m < u → NV σ s n d f → WS σ (lw H n R0) → QR σ q k → QI f H n R0 q k → (∀ i, i < k → q i / 24 < a) → (∀ j, LN f j → j / 24 < a → lw H n R0 j = 0 → ∃ i, i < k ∧ q i = j) → ∃ τ q' k', fr [65] [] σ τ ∧ QR τ q' k' ∧ QI f H n R0 q' k' ∧ (∀ j, LN f j → lw H n R0 j = 0 → ∃ i, i < k' ∧ q' i = j) ∧ g120_12 N u 61 (2 + 2 * s) (nI k) (nI a) (hp σ, cs) = g120_95 N N 61 (2 + 2 * s) (nI k') 0 (hp τ, cs) := by
  intro m
  induction m with
  | zero =>
    intro a u q k σ ha hu hv hW hQ hq p1 p2
    obtain ⟨u, rfl⟩ : ∃ q, u = q + 1 := ⟨u - 1, by omega⟩
    refine ⟨σ, q, k, fr.rf, hQ, hq, fun j h1 h2 => p2 j h1 ?_ h2, ?_⟩
    · have := hw (j / 24) (by have := h1.1; omega) _ h1.2
      omega
    · unfold g120_12
      rw [sN_1 hs, hv.1, if_pos (nI_le (by omega) (by omega))]
  | succ m ih =>
    intro a u q k σ ha hu hv hW hQ hq p1 p2
    obtain ⟨u, rfl⟩ : ∃ q, u = q + 1 := ⟨u - 1, by omega⟩
    obtain ⟨τ, q', k', a1, a2, a3, a4, a5, a6⟩ := c_in1 (N := N) (cs := cs) (f := f) (H := H) (a := a) (o := 2 + 2 * s) (k12 := g120_12 N u) hn hw h96 (by omega) _ N (f a) q k σ rfl (by have := bl_le (f a); unfold iv_N at hN; omega) (fun _ h => h) hW hQ hq (fun i hi => Or.inl (p1 i hi)) (fun j h1 h2 h3 => p2 j h1 (by
      rcases h2 with h | ⟨h, h'⟩
      · exact h
      · have := h1.2
        rw [h, h'] at this
        cases this) h3)
    have z0 : ∀ j, Pd a 0 j ↔ j / 24 < a + 1 := by
      intro j
      unfold Pd
      rw [b_0]
      constructor
      · rintro (h | ⟨h, -⟩) <;> omega
      · intro h
        rcases Nat.lt_or_ge (j / 24) a with g | g
        · exact Or.inl g
        · exact Or.inr ⟨by omega, rfl⟩
    obtain ⟨υ, q2, k2, b1, b2, b3, b4, b5⟩ := ih (a + 1) u q' k' τ (by omega) (by omega) (hv.fr a1 (by simp; omega) (by simp <;> omega) (by simp <;> omega)) (fun j hj => by rw [a1.r (by decide)]; exact hW j hj) a2 a3 (fun i hi => (z0 _).mp (a4 i hi)) (fun j h1 h2 h3 => a5 j h1 ((z0 j).mpr h2) h3)
    refine ⟨υ, q2, k2, a1.tr b1, b2, b3, b4, ?_⟩
    unfold g120_12
    rw [sN_1 hs, hv.1, if_neg (nI_ge (by omega) (by omega)), sN_r hs, sN_ri hs (by omega), hv.2.2 a (by omega), a6]
    exact b5
/-- in the midst of a release -/
def RI (f : Nat → Int32) (H : Nat → Nat → Nat) (n : Nat) (σ : hp_S) (R : Nat → Nat → Bool) (q : Nat → Nat) (k p t : Nat) : Prop := WS σ (lw H n R) ∧ QR σ q k ∧ QI f H n R q k ∧ (∀ j, LN f j → lw H n R j = 0 → ∃ i, i < k ∧ q i = j) ∧ ∀ x y, x < n → y < n → x ≠ y → H x y ≠ y → (R x y = true ↔ ∃ i, i < k ∧ q i = 24 * x + H x y ∧ (i < p ∨ (i = p ∧ y < t)))
theorem RI.w {σ : hp_S} {R : Nat → Nat → Bool} {q : Nat → Nat} {k p t : Nat} (h : RI f H n σ R q k p t) : WS σ (lw H n R) := h.1
theorem RI.r {σ : hp_S} {R : Nat → Nat → Bool} {q : Nat → Nat} {k p t : Nat} (h : RI f H n σ R q k p t) : QR σ q k := h.2.1
theorem RI.qi {σ : hp_S} {R : Nat → Nat → Bool} {q : Nat → Nat} {k p t : Nat} (h : RI f H n σ R q k p t) : QI f H n R q k := h.2.2.1
theorem RI.cm {σ : hp_S} {R : Nat → Nat → Bool} {q : Nat → Nat} {k p t : Nat} (h : RI f H n σ R q k p t) : ∀ j, LN f j → lw H n R j = 0 → ∃ i, i < k ∧ q i = j := h.2.2.2.1
theorem RI.rs {σ : hp_S} {R : Nat → Nat → Bool} {q : Nat → Nat} {k p t : Nat} (h : RI f H n σ R q k p t) : ∀ x y, x < n → y < n → x ≠ y → H x y ≠ y → (R x y = true ↔ ∃ i, i < k ∧ q i = 24 * x + H x y ∧ (i < p ∨ (i = p ∧ y < t))) := h.2.2.2.2
theorem RI.next {σ : hp_S} {R : Nat → Nat → Bool} {q : Nat → Nat} {k p : Nat} (h : RI f H n σ R q k p n) : RI f H n σ R q k (p + 1) 0 := by
  refine ⟨h.w, h.r, h.qi, h.cm, fun x y hx hy h1 h2 => ?_⟩
  rw [h.rs x y hx hy h1 h2]
  constructor
  · rintro ⟨i, a, b, c⟩
    exact ⟨i, a, b, by omega⟩
  · rintro ⟨i, a, b, c⟩
    exact ⟨i, a, b, by omega⟩
theorem RI.skip {σ : hp_S} {R : Nat → Nat → Bool} {q : Nat → Nat} {k p t a b : Nat} (h : RI f H n σ R q k p t) (hq : q p = 24 * a + b) (hb : b < 24) (hH : ∀ x t, x < n → t < n → x ≠ t → H x t < n) (hn : n ≤ 24) (hno : a ≠ t → H a t = b → H a t ≠ t → False) : RI f H n σ R q k p (t + 1) := by
  refine ⟨h.w, h.r, h.qi, h.cm, fun x y hx hy h1 h2 => ?_⟩
  rw [h.rs x y hx hy h1 h2]
  constructor
  · rintro ⟨i, a, b, c⟩
    exact ⟨i, a, b, by omega⟩
  · rintro ⟨i, a', b', c⟩
    refine ⟨i, a', b', ?_⟩
    rcases c with c | ⟨c, c'⟩
    · exact Or.inl c
    · refine Or.inr ⟨c, ?_⟩
      apply Classical.byContradiction
      intro g
      have ey : y = t := by omega
      subst ey
      have := hH x y hx hy h1
      rw [c, hq] at b'
      have ex : a = x := by omega
      subst ex
      exact hno h1 (by omega) h2
theorem c_re {a b p : Nat} (hn : n ≤ 24) (hw : gw f n) (h96 : (lq f n 0 n).length ≤ 96) (hH : ∀ x t, x < n → t < n → x ≠ t → H x t < n ∧ bt (f x) (H x t) = true) (ha : a < n) (hb : b < n) : ∀ (m t u : Nat) (R : Nat → Nat → Bool) (q : Nat → Nat) (k : Nat) (σ : hp_S), t + m = n → m < u → hops σ 62 H n → p < k → q p = 24 * a + b → RI f H n σ R q k p t → ∃ τ R' q' k', fr [64, 65] [] σ τ ∧ p < k' ∧ RI f H n τ R' q' k' p n ∧ g122_7 N u 61 (nI n) (nI a) (nI b) (nI k) (nI t) (hp σ, cs) = some (.inl (some (.int (nI k'))), (hp τ, cs)) := by
  intro m
  induction m with
  | zero =>
    intro t u R q k σ ht hu hh hp hqp hI
    obtain ⟨u, rfl⟩ : ∃ q, u = q + 1 := ⟨u - 1, by omega⟩
    have : t = n := by omega
    subst this
    refine ⟨σ, R, q, k, fr.rf, hp, hI, ?_⟩
    unfold g122_7
    rw [if_pos (nI_le (by omega) (by omega))]
  | succ m ih =>
    intro t u R q k σ ht hu hh hp hqp hI
    obtain ⟨u, rfl⟩ : ∃ q, u = q + 1 := ⟨u - 1, by omega⟩
    have hHl : ∀ x t, x < n → t < n → x ≠ t → H x t < n := fun x t h1 h2 h3 => (hH x t h1 h2 h3).1
    unfold g122_7 g122_87
    rw [if_neg (nI_ge (by omega) (by omega))]
    by_cases c1 : t = b
    · obtain ⟨τ, R', q', k', b1, b2, b3, b4⟩ := ih (t + 1) u R q k σ (by omega) (by omega) hh hp hqp (hI.skip hqp (by omega) hHl hn (fun h1 h2 h3 => h3 (by omega)))
      refine ⟨τ, R', q', k', b1, b2, b3, ?_⟩
      rw [if_pos (by rw [c1]), nI_1]
      exact b4
    · rw [if_neg (by rw [q_eq (by omega) (by omega)]; exact c1), o61, c_next hn hh ha (by omega)]
      by_cases c2 : a = t
      · obtain ⟨τ, R', q', k', b1, b2, b3, b4⟩ := ih (t + 1) u R q k σ (by omega) (by omega) hh hp hqp (hI.skip hqp (by omega) hHl hn (fun h1 h2 h3 => h1 c2))
        refine ⟨τ, R', q', k', b1, b2, b3, ?_⟩
        rw [if_pos c2, if_pos (by rw [Eq.comm, q_ne1 (by omega)]; exact id), nI_1]
        exact b4
      · have hlt := hHl a t ha (by omega) c2
        rw [if_neg c2]
        by_cases c3 : H a t = b
        · rw [if_neg (fun q => q (by rw [c3])), o61, c_next hn hh hb (by omega), if_neg (fun q => c1 q.symm), r61_2, ix_b]
          have hlt2 := hH b t hb (by omega) (fun q => c1 q.symm)
          have hev : ev H a t (24 * b + H b t) := ⟨c2, by rw [c3]; exact fun q => c1 q.symm, by rw [c3]⟩
          have hRf : R a t = false := by
            cases hr : R a t with
            | false => rfl
            | true =>
              obtain ⟨i, i1, i2, i3⟩ := (hI.rs a t ha (by omega) c2 hev.2.1).mp hr
              rw [c3, ← hqp] at i2
              rcases i3 with i3 | i3
              · exact absurd i2 (hI.qi.inj i p i3 hp)
              · omega
          have hdec := fun j => lw_dec (H := H) (j := j) ha (show t < n by omega) hRf
          have hd0 := hdec (24 * b + H b t)
          rw [if_pos hev] at hd0
          have hdn : ∀ j, j ≠ 24 * b + H b t → lw H n (Radd R a t) j = lw H n R j := by
            intro j hj
            have := hdec j
            rw [if_neg (fun q => hj (by rw [← q.2.2, c3]))] at this
            omega
          have hln : LN f (24 * b + H b t) := ⟨by omega, by rw [show (24 * b + H b t) / 24 = b by omega, show (24 * b + H b t) % 24 = H b t by omega]; exact hlt2.2⟩
          have hW1 : WS (hp_wi σ 64 (24 * b + H b t) (nI (lw H n (Radd R a t) (24 * b + H b t)))) (lw H n (Radd R a t)) := by
            intro j hj
            by_cases c : j = 24 * b + H b t
            · rw [c, hp_wi_at]
            · rw [hp_wi_nj c, hI.w j hj, hdn j c]
          have hrs : ∀ x y, x < n → y < n → x ≠ y → H x y ≠ y → (Radd R a t x y = true ↔ ∃ i, i < k ∧ q i = 24 * x + H x y ∧ (i < p ∨ (i = p ∧ y < t + 1))) := by
            intro x y hx hy h1 h2
            rw [Radd_iff, hI.rs x y hx hy h1 h2]
            constructor
            · rintro (⟨i, i1, i2, i3⟩ | ⟨rfl, rfl⟩)
              · exact ⟨i, i1, i2, by omega⟩
              · exact ⟨p, hp, by rw [hqp, c3], Or.inr ⟨rfl, by omega⟩⟩
            · rintro ⟨i, i1, i2, i3⟩
              rcases i3 with i3 | ⟨i3, i4⟩
              · exact Or.inl ⟨i, i1, i2, Or.inl i3⟩
              · by_cases c : y < t
                · exact Or.inl ⟨i, i1, i2, Or.inr ⟨i3, c⟩⟩
                · have := hHl x y hx hy h1
                  rw [i3, hqp] at i2
                  exact Or.inr ⟨by omega, by omega⟩
          have ev20 : nI (lw H n R (24 * b + H b t)) - 1 = nI (lw H n (Radd R a t) (24 * b + H b t)) := by rw [← hd0, nI_m1]
          rw [a64 (by omega), hI.w _ (by omega), ev20, b64 (by omega), r61_2, a64 (by omega), hp_wi_at]
          have hh2 : ∀ v, hops (hp_wi σ 64 (24 * b + H b t) v) 62 H n := fun v x y hx hy => by rw [hp_wi_ne (by decide)]; exact hh x y hx hy
          by_cases c4 : lw H n (Radd R a t) (24 * b + H b t) = 0
          · have hqi := hI.qi.rel ha (show t < n by omega) hRf
            have hq2 := hqi.add hln c4 (fun i hi e => by
              have := hI.qi.snd i hi
              rw [e] at this
              omega) (fun x y hx hy e => by
              have h1 := lw_0.mp c4 x y hx hy e
              obtain ⟨i, i1, i2, i3⟩ := (hrs x y hx hy e.1 e.2.1).mp h1
              exact ⟨i, i1, i2⟩)
            have hk := hq2.le hn hw
            obtain ⟨τ, R', q', k', b1, b2, b3, b4⟩ := ih (t + 1) u (Radd R a t) (qup q k (24 * b + H b t)) (k + 1) (hp_wi (hp_wi σ 64 (24 * b + H b t) (nI (lw H n (Radd R a t) (24 * b + H b t)))) 65 k (nI (24 * b + H b t))) (by omega) (by omega) (fun x y hx hy => by rw [hp_wi_ne (by decide)]; exact hh2 _ x y hx hy) (by omega) (by rw [qup_ne (by omega)]; exact hqp) ⟨fun j hj => by rw [hp_wi_ne (by decide)]; exact hW1 j hj, fun i hi => by
                by_cases c : i = k
                · rw [c, hp_wi_at, qup_at]
                · rw [hp_wi_nj c, qup_ne c, hp_wi_ne (by decide)]; exact hI.r i (by omega), hq2, fun j h1 h2 => by
                by_cases c : j = 24 * b + H b t
                · exact ⟨k, by omega, by rw [qup_at, c]⟩
                · rw [hdn j c] at h2
                  obtain ⟨i, hi, ei⟩ := hI.cm j h1 h2
                  exact ⟨i, by omega, by rw [qup_ne (by omega)]; exact ei⟩, fun x y hx hy h1 h2 => by
                rw [hrs x y hx hy h1 h2]
                constructor
                · rintro ⟨i, i1, i2, i3⟩
                  exact ⟨i, by omega, by rw [qup_ne (by omega)]; exact i2, i3⟩
                · rintro ⟨i, i1, i2, i3⟩
                  rw [qup_ne (by omega)] at i2
                  exact ⟨i, by omega, i2, i3⟩⟩
            refine ⟨τ, R', q', k', (fr.wi (by decide)).tr ((fr.wi (by decide)).tr b1), b2, b3, ?_⟩
            rw [c4] at b4 ⊢
            rw [if_neg (fun q => q rfl), r61_3, hp_len_i (a := 65) rfl, Option.bind_some, if_neg (show ¬ Int32.ofNat 192 ≤ nI k from nI_ge (b := 192) (by omega) (by omega)), r61_3, b65 (by omega), nI_1, nI_1]
            exact b4
          · obtain ⟨τ, R', q', k', b1, b2, b3, b4⟩ := ih (t + 1) u (Radd R a t) q k (hp_wi σ 64 (24 * b + H b t) (nI (lw H n (Radd R a t) (24 * b + H b t)))) (by omega) (by omega) (hh2 _) hp hqp ⟨hW1, fun i hi => by rw [hp_wi_ne (by decide)]; exact hI.r i hi, hI.qi.rel ha (by omega) hRf, fun j h1 h2 => by
                by_cases c : j = 24 * b + H b t
                · rw [c] at h2; exact absurd h2 c4
                · rw [hdn j c] at h2; exact hI.cm j h1 h2, hrs⟩
            refine ⟨τ, R', q', k', (fr.wi (by decide)).tr b1, b2, b3, ?_⟩
            rw [if_pos (by
              have := lw_le (H := H) (R := Radd R a t) (j := 24 * b + H b t) hn
              rw [show (0 : Int32) = nI 0 from rfl, q_eq (by omega) (by omega)]
              exact c4), nI_1]
            exact b4
        · obtain ⟨τ, R', q', k', b1, b2, b3, b4⟩ := ih (t + 1) u R q k σ (by omega) (by omega) hh hp hqp (hI.skip hqp (by omega) hHl hn (fun h1 h2 h3 => c3 h2))
          refine ⟨τ, R', q', k', b1, b2, b3, ?_⟩
          rw [if_pos (by rw [q_eq (by omega) (by omega)]; exact c3), nI_1]
          exact b4
theorem c_pe (hs : s < 8) (hg : GW n d f) (hN : iv_N N) (hH : ∀ x t, x < n → t < n → x ≠ t → H x t < n ∧ bt (f x) (H x t) = true) : ∀ (m p u : Nat) (R : Nat → Nat → Bool) (q : Nat → Nat) (k : Nat) (σ : hp_S), p + m = 192 → m < u → p ≤ k → NV σ s n d f → hops σ 62 H n → RI f H n σ R q k p 0 → ∃ τ, fr [64, 65] [] σ τ ∧ ((g120_95 N u 61 (2 + 2 * s) (nI k) (nI p) (hp σ, cs) = some (.inl (some (.int 0)), (hp τ, cs)) ∧ LK0 H n) ∨ (g120_95 N u 61 (2 + 2 * s) (nI k) (nI p) (hp σ, cs) = some (.inl (some (.int 1)), (hp τ, cs)) ∧ LK1 H n)) := by
  have hn := hg.2.1
  have hw := hg.2.2.2.2.1
  have h96 := hg.l96
  have hfin : ∀ (u p : Nat) (R : Nat → Nat → Bool) (q : Nat → Nat) (k : Nat) (σ : hp_S), p = k → NV σ s n d f → RI f H n σ R q k p 0 → ∃ τ, fr [64, 65] [] σ τ ∧ ((g120_95 N (u + 1) 61 (2 + 2 * s) (nI k) (nI p) (hp σ, cs) = some (.inl (some (.int 0)), (hp τ, cs)) ∧ LK0 H n) ∨ (g120_95 N (u + 1) 61 (2 + 2 * s) (nI k) (nI p) (hp σ, cs) = some (.inl (some (.int 1)), (hp τ, cs)) ∧ LK1 H n)) := by
    intro u p R q k σ hp9 hv hI
    subst hp9
    have hk := hI.qi.le hn hw
    obtain ⟨f1, f2⟩ := hI.qi.fin hn hw hH hI.cm (fun x y hx hy h1 h2 ⟨i, i1, i2⟩ => (hI.rs x y hx hy h1 h2).mpr ⟨i, i1, i2, Or.inl i1⟩)
    refine ⟨σ, fr.rf, ?_⟩
    have e : g120_95 N (u + 1) 61 (2 + 2 * s) (nI p) (nI p) (hp σ, cs) = if nI (2 * (lq f n 0 n).length) ≤ nI p then some (.inl (some (.int 0)), (hp σ, cs)) else some (.inl (some (.int 1)), (hp σ, cs)) := by
      unfold g120_95
      rw [if_pos (nI_le (by omega) (by omega)), sN_o hs, c_lines hs hg hv hN, lf_ci_r, show (2 : Int32) = nI 2 from rfl, pk_mul]
    rw [e]
    by_cases c : p < 2 * (lq f n 0 n).length
    · refine Or.inr ⟨?_, f1 c⟩
      rw [if_neg (nI_ge (by omega) (by omega))]
    · refine Or.inl ⟨?_, f2 c⟩
      rw [if_pos (nI_le (by omega) (by omega))]
  intro m
  induction m with
  | zero =>
    intro p u R q k σ hp9 hu hpk hv hh hI
    obtain ⟨u, rfl⟩ : ∃ q, u = q + 1 := ⟨u - 1, by omega⟩
    have hk := hI.qi.le hn hw
    exact hfin u p R q k σ (by omega) hv hI
  | succ m ih =>
    intro p u R q k σ hp9 hu hpk hv hh hI
    obtain ⟨u, rfl⟩ : ∃ q, u = q + 1 := ⟨u - 1, by omega⟩
    have hk := hI.qi.le hn hw
    by_cases c : p = k
    · exact hfin u p R q k σ c hv hI
    · have hln := hI.qi.ln p (by omega)
      have hab := hw (q p / 24) (by have := hln.1; omega) _ hln.2
      have h576 := hln.1
      obtain ⟨τ, R', q', k', b1, b2, b3, b4⟩ := c_re (N := N) (cs := cs) (f := f) (H := H) (a := q p / 24) (b := q p % 24) (p := p) hn hw h96 hH hab.1 hab.2.1 n 0 N R q k σ (by omega) (by unfold iv_N at hN; omega) hh (by omega) (by omega) hI
      have hv2 := hv.fr b1 (by simp; omega) (by simp <;> omega) (by simp <;> omega)
      obtain ⟨υ, d1, d2⟩ := ih (p + 1) u R' q' k' τ (by omega) (by omega) (by omega) hv2 (fun x y hx hy => by rw [b1.r (by decide)]; exact hh x y hx hy) b3.next
      refine ⟨υ, b1.tr d1, ?_⟩
      have e : g120_95 N (u + 1) 61 (2 + 2 * s) (nI k) (nI p) (hp σ, cs) = g120_95 N u 61 (2 + 2 * s) (nI k') (nI (p + 1)) (hp τ, cs) := by
        conv => lhs; unfold g120_95
        rw [if_neg (nI_ge (by omega) (by omega)), sN_1 hs, hv.1, r61_3, a65 (by omega), r61_3, a65 (by omega), hI.r p (by omega), o61, show (24 : Int32) = nI 24 from rfl, pk_div (by omega) (by omega) (by omega), rem_nI (by omega) (by omega) (by omega)]
        unfold f122
        rw [show (0 : Int32) = nI 0 from rfl, b4, lf_ci_r, nI_1]
      rw [e]
      exact d2
/-- hasRing -/
theorem c_ring {σ : hp_S} (hs : s < 8) (hg : GW n d f) (hN : iv_N N) (hv : NV σ s n d f) (hH : ∀ x t, x < n → t < n → x ≠ t → H x t < n ∧ bt (f x) (H x t) = true) (hh : hops σ 62 H n) : ∃ τ, fr [64, 65] [] σ τ ∧ ((f120 N 61 (2 + 2 * s) (hp σ, cs) = some (.inl (some (.int 0)), (hp τ, cs)) ∧ LK0 H n) ∨ (f120 N 61 (2 + 2 * s) (hp σ, cs) = some (.inl (some (.int 1)), (hp τ, cs)) ∧ LK1 H n)) := by
  have hn := hg.2.1
  have hw := hg.2.2.2.2.1
  obtain ⟨τ, q1, q2, q3⟩ := c_cw (σ := σ) (cs := cs) (N := N) (H := H) hn hN (fun x t h1 h2 h3 => (hH x t h1 h2 h3).1) hh
  have hv1 := hv.fr q1 (by simp; omega) (by simp <;> omega) (by simp <;> omega)
  obtain ⟨υ, q, k, p1, p2, p3, p4, p5⟩ := c_in2 (cs := cs) (N := N) (H := H) hs hn hN hw hg.l96 n 0 N (fun _ => 0) 0 τ (by omega) (by unfold iv_N at hN; omega) hv1 q2 (fun i hi => absurd hi (Nat.not_lt_zero i)) ⟨fun i hi => absurd hi (Nat.not_lt_zero i), fun i j _ hi => absurd hi (Nat.not_lt_zero j), fun i hi => absurd hi (Nat.not_lt_zero i), fun i hi => absurd hi (Nat.not_lt_zero i)⟩ (fun i hi => absurd hi (Nat.not_lt_zero i)) (fun j _ hj => absurd hj (Nat.not_lt_zero _))
  have hv2 := hv1.fr p1 (by simp; omega) (by simp <;> omega) (by simp <;> omega)
  obtain ⟨ω, r1, r2⟩ := c_pe (cs := cs) (N := N) (H := H) hs hg hN hH 192 0 N R0 q k υ (by omega) (by unfold iv_N at hN; omega) (by omega) hv2 (fun x y hx hy => by rw [p1.r (by decide), q1.r (by decide)]; exact hh x y hx hy) ⟨fun j hj => by rw [p1.r (by decide)]; exact q2 j hj, p2, p3, p4, fun x y hx hy h1 h2 => ⟨fun h => absurd h (fun q => by cases q), fun ⟨i, i1, i2, i3⟩ => by omega⟩⟩
  have w1 : fr [64, 65] [] σ τ := q1.wk (fun _ z => by simp at z; simp [z]) (fun _ z => z)
  have w2 : fr [64, 65] [] τ υ := p1.wk (fun _ z => by simp at z; simp [z]) (fun _ z => z)
  refine ⟨ω, (w1.tr w2).tr r1, ?_⟩
  have e : f120 N 61 (2 + 2 * s) (hp σ, cs) = g120_95 N N 61 (2 + 2 * s) (nI k) (nI 0) (hp υ, cs) := by
    unfold f120
    rw [sN_1 hs, hv.1, o61, q3, lf_cv_r]
    exact p5
  rw [e]
  exact r2
end LC
