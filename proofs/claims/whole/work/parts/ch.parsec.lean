/-! read: the class reads a text -/
/-- the reader's net -/
def CNr (σ : hp_S) (kn e : Nat) (f : Nat → Int32) : Prop := σ.2.2.1 21 1 = nI kn ∧ σ.2.2.1 21 2 = nI e ∧ ∀ k, k < 24 → σ.1 22 k = f k
/-- the knots that a clause has named -/
def CSn (σ : hp_S) (c : Nat) (g : Nat → Nat) : Prop := σ.2.2.1 20 3 = nI c ∧ (∀ k, k < c → σ.1 24 k = nI (g k)) ∧ ∀ v, v < 24 → (bt (σ.2.2.1 20 4) v = true ↔ ∃ k, k < c ∧ g k = v)
theorem CNr.fr {σ τ : hp_S} {kn e : Nat} {f : Nat → Int32} {A : List Nat} {F : List (Nat × Nat)} (h : CNr σ kn e f) (k : fr A F σ τ) (hA : 22 ∉ A) (h1 : (21, 1) ∉ F) (h2 : (21, 2) ∉ F) : CNr τ kn e f := by
  refine ⟨by rw [k.f h1]; exact h.1, by rw [k.f h2]; exact h.2.1, fun j hj => ?_⟩
  rw [k.r hA]
  exact h.2.2 j hj
theorem CSn.fr {σ τ : hp_S} {c : Nat} {g : Nat → Nat} {A : List Nat} {F : List (Nat × Nat)} (h : CSn σ c g) (k : fr A F σ τ) (hA : 24 ∉ A) (h1 : (20, 3) ∉ F) (h2 : (20, 4) ∉ F) : CSn τ c g := by
  unfold CSn
  rw [k.f h1, k.f h2, k.r hA]
  exact h
section RDX
variable {cs : Nat × Nat} {N n p s kn e c sh a b : Nat} {B g : Nat → Nat} {f : Nat → Int32} {σ : hp_S}
theorem a24_0 {h : Int32 → lf_R} : (lf_ri (hp σ, cs) 24 0).bind h = h (σ.1 24 0) := a24 (j := 0) (by omega)
theorem a24_1 {h : Int32 → lf_R} : (lf_ri (hp σ, cs) 24 1).bind h = h (σ.1 24 1) := a24 (j := 1) (by omega)
theorem nI_z {x : Nat} (h : x < 2 ^ 31) (hx : ¬ x = 0) : ¬ nI x = 0 := nI_ne0 (by omega) h
theorem c21_joins (ha : a < 24) (hb : b < 24) : f55 N 21 (nI a) (nI b) (hp σ, cs) = some (.inl (some (.int (if bt (σ.1 22 a) b = true then 1 else 0))), (hp σ, cs)) := by
  unfold f55
  rw [r21_0, a22 ha, sh_bit (by omega)]
  cases bt (σ.1 22 a) b <;> rfl
theorem c21_full (ha : a < 24) : f56 N 21 (nI a) (hp σ, cs) = some (.inl (some (.int (if nI (i_pc (σ.1 22 a)) < σ.2.2.1 21 2 then 0 else 1))), (hp σ, cs)) := by
  unfold f56
  rw [r21_0, a22 ha, c_pc, lf_ci_r, i21_2]
  by_cases h : nI (i_pc (σ.1 22 a)) < σ.2.2.1 21 2
  · rw [if_pos h, if_pos h]
  · rw [if_neg h, if_neg h]
theorem c21_flip (ha : a < 24) (hb : b < 24) (hne : a ≠ b) : f57 N 21 (nI a) (nI b) (hp σ, cs) = some (.inl none, (hp (fl2 σ 22 a b), cs)) := by
  unfold f57
  rw [r21_0, a22 ha, b22 ha, r21_0, a22 hb, b22 hb, hp_wi_nj (by omega)]
  rfl
theorem rdS_0 : rdS e (0, f) a b = if bt (f a) b = true then (5, f) else if e ≤ i_pc (f a) ∨ e ≤ i_pc (f b) then (6, f) else (0, fl_r f a b) := by
  unfold rdS
  rw [if_neg (show ¬ ¬ ((0, f) : Nat × (Nat → Int32)).1 = 0 from fun z => z rfl)]
/-- the class's putLine -/
theorem c_put (hkn : kn ≤ 24) (he : e ≤ 8) (hC : CNr σ kn e f) (hG : rdG f kn e) (ha : a < kn) (hb : b < kn) (hne : a ≠ b) : ∃ τ, fr [22] [] σ τ ∧ (∀ k, k < 24 → τ.1 22 k = (rdS e (0, f) a b).2 k) ∧ f84 N 20 (nI a) (nI b) (hp σ, cs) = some (.inl (some (.int (nI (rdS e (0, f) a b).1))), (hp τ, cs)) := by
  obtain ⟨n1, n2, n3⟩ := hC
  have p1 := hG.2 a (by omega)
  have p2 := hG.2 b (by omega)
  rw [rdS_0]
  by_cases c1 : bt (f a) b = true
  · rw [if_pos c1]
    refine ⟨σ, fr.rf, fun k hk => n3 k hk, ?_⟩
    unfold f84
    rw [r20_0, o21, c21_joins (by omega) (by omega), n3 a (by omega), if_pos c1, lf_ci_r, if_neg (by decide)]
    rfl
  · rw [if_neg c1]
    by_cases c2 : e ≤ i_pc (f a) ∨ e ≤ i_pc (f b)
    · rw [if_pos c2]
      refine ⟨σ, fr.rf, fun k hk => n3 k hk, ?_⟩
      unfold f84
      rw [r20_0, o21, c21_joins (by omega) (by omega), n3 a (by omega), if_neg c1, lf_ci_r, if_pos rfl, r20_0, o21, c21_full (by omega), n3 a (by omega), n2]
      by_cases d : e ≤ i_pc (f a)
      · rw [if_neg (nI_nlt d (by omega)), lf_ci_r, if_pos (by decide)]
        rfl
      · rw [if_pos (nI_lt (by omega) (by omega)), lf_ci_r, if_neg (by decide), r20_0, o21, c21_full (by omega), n3 b (by omega), n2, if_neg (nI_nlt (by omega) (by omega)), lf_ci_r, if_neg (by decide)]
        rfl
    · rw [if_neg c2]
      refine ⟨fl2 σ 22 a b, fl2_fr (by decide), fun k hk => by rw [fl2_at]; exact fl_congr (by omega) (by omega) n3 k hk, ?_⟩
      unfold f84
      rw [r20_0, o21, c21_joins (by omega) (by omega), n3 a (by omega), if_neg c1, lf_ci_r, if_pos rfl, r20_0, o21, c21_full (by omega), n3 a (by omega), n2, if_pos (nI_lt (by omega) (by omega)), lf_ci_r, if_neg (by decide), r20_0, o21, c21_full (by omega), n3 b (by omega), n2, if_pos (nI_lt (by omega) (by omega)), lf_ci_r, if_pos rfl, r20_0, o21, c21_flip (by omega) (by omega) hne, lf_cv_r]
      rfl
/-- the class's takeLine -/
theorem c_take (hkn : kn ≤ 24) (hC : CNr σ kn e f) (ha : a < kn) (hb : b < kn) (hne : a ≠ b) : ∃ τ, fr [22] [] σ τ ∧ (∀ k, k < 24 → τ.1 22 k = ((if bt (f a) b = true then (0, fl_r f a b) else (5, f)) : Nat × (Nat → Int32)).2 k) ∧ f85 N 20 (nI a) (nI b) (hp σ, cs) = some (.inl (some (.int (nI ((if bt (f a) b = true then (0, fl_r f a b) else (5, f)) : Nat × (Nat → Int32)).1))), (hp τ, cs)) := by
  obtain ⟨n1, n2, n3⟩ := hC
  by_cases c1 : bt (f a) b = true
  · rw [if_pos c1]
    refine ⟨fl2 σ 22 a b, fl2_fr (by decide), fun k hk => by rw [fl2_at]; exact fl_congr (by omega) (by omega) n3 k hk, ?_⟩
    unfold f85
    rw [r20_0, o21, c21_joins (by omega) (by omega), n3 a (by omega), if_pos c1, lf_ci_r, if_pos (by decide), r20_0, o21, c21_flip (by omega) (by omega) hne, lf_cv_r]
    rfl
  · rw [if_neg c1]
    refine ⟨σ, fr.rf, fun k hk => n3 k hk, ?_⟩
    unfold f85
    rw [r20_0, o21, c21_joins (by omega) (by omega), n3 a (by omega), if_neg c1, lf_ci_r, if_neg (by decide)]
    rfl
theorem c_i36 {ix : Nat → Nat} (hkn : kn ≤ 24) (he : e ≤ 8) (hl : rdLs c g kn) (hc : c ≤ 12) (hs : sh ≤ 4) (hx3 : sh = 3 → ∀ k, ix k = 0) (hx1 : ¬ sh = 3 → ∀ k, ix k = k - 1) : ∀ (m k u x : Nat) (f : Nat → Int32) (σ : hp_S), k + m = c → 1 ≤ k → m < u → rdO (x, f) kn e → CNr σ kn e f → σ.2.2.1 20 3 = nI c → (∀ j, j < c → σ.1 24 j = nI (g j)) → ∃ τ, fr [22] [] σ τ ∧ (∀ j, j < 24 → τ.1 22 j = (rdI e g ix m k (x, f)).2 j) ∧ g82_36 N u 20 (nI sh) (nI x) (nI k) (hp σ, cs) = g82_82 N 20 (nI sh) (nI (rdI e g ix m k (x, f)).1) (hp τ, cs) := by
  intro m
  induction m with
  | zero =>
    intro k u x f σ hk h1 hu hO hC h3 h24
    obtain ⟨u, rfl⟩ : ∃ q, u = q + 1 := ⟨u - 1, by omega⟩
    have hx6 : x ≤ 6 := hO.1
    refine ⟨σ, fr.rf, hC.2.2, ?_⟩
    show _ = g82_82 N 20 (nI sh) (nI x) (hp σ, cs)
    unfold g82_36
    by_cases c0 : x = 0
    · rw [if_neg (show ¬ ¬ nI x = 0 from fun z => z (by rw [c0]; rfl)), i20_3, h3, if_pos (nI_le (by omega) (by omega))]
    · rw [if_pos (nI_z (by omega) c0)]
  | succ m ih =>
    intro k u x f σ hk h1 hu hO hC h3 h24
    obtain ⟨u, rfl⟩ : ∃ q, u = q + 1 := ⟨u - 1, by omega⟩
    have hx6 : x ≤ 6 := hO.1
    by_cases c0 : x = 0
    · subst c0
      have ix1 : ix k < c ∧ ix k ≠ k := by
        by_cases d : sh = 3
        · rw [hx3 d]
          omega
        · rw [hx1 d]
          omega
      obtain ⟨τ1, q1, q2, q3⟩ := c_put (N := N) (cs := cs) hkn he hC hO.2 (hl.1 _ ix1.1) (hl.1 k (by omega)) (hl.2 _ _ ix1.1 (by omega) ix1.2)
      have hO2 := rdS_ok (e := e) hkn hO (hl.1 _ ix1.1) (hl.1 k (by omega)) (hl.2 _ _ ix1.1 (by omega) ix1.2)
      have eI : rdI e g ix (m + 1) k (0, f) = rdI e g ix m (k + 1) (rdS e (0, f) (g (ix k)) (g k)) := rfl
      rw [eI]
      generalize rdS e (0, f) (g (ix k)) (g k) = r at q2 q3 hO2 ⊢
      obtain ⟨x2, f2⟩ := r
      obtain ⟨τ, r1, r2, r3⟩ := ih (k + 1) u x2 f2 τ1 (by omega) (by omega) (by omega) hO2 ⟨by rw [q1.f List.not_mem_nil]; exact hC.1, by rw [q1.f List.not_mem_nil]; exact hC.2.1, q2⟩ (by rw [q1.f List.not_mem_nil]; exact h3) (fun j hj => by rw [q1.r (by decide)]; exact h24 j hj)
      refine ⟨τ, q1.tr r1, r2, ?_⟩
      have e65 : ∀ y : Int32, y = nI (ix k) → g82_65 N (g82_36 N u) 20 (nI sh) (nI k) y 24 20 (hp σ, cs) = g82_82 N 20 (nI sh) (nI (rdI e g ix m (k + 1) (x2, f2)).1) (hp τ, cs) := by
        intro y hy
        rw [hy]
        unfold g82_65
        rw [a24 (by omega), h24 _ ix1.1, r20_2, a24 (by omega), h24 k (by omega), o20, q3, lf_ci_r, nI_1]
        exact r3
      unfold g82_36
      rw [if_neg (show ¬ ¬ nI 0 = 0 from fun z => z rfl), i20_3, h3, if_neg (nI_ge (by omega) (by omega)), r20_2]
      by_cases d : sh = 3
      · rw [if_neg (show ¬ ¬ nI sh = 3 from fun z => z (by rw [d]; rfl))]
        exact e65 0 (by rw [hx3 d]; rfl)
      · rw [if_pos (show ¬ nI sh = 3 from fun z => d ((nI_eq (b := 3) (by omega) (by omega)).mp z))]
        exact e65 _ (by rw [hx1 d]; exact pk_sub (b := 1) h1)
    · rw [rdI_st (q := (x, f)) _ _ c0]
      refine ⟨σ, fr.rf, hC.2.2, ?_⟩
      unfold g82_36
      rw [if_pos (nI_z (by omega) c0)]
theorem c_rj14 {k : Nat} {k4 : Nat → Int32 → Int32 → lf_W → lf_R} (hkn : kn ≤ 24) (he : e ≤ 8) (hl : rdLs c g kn) (hc : c ≤ 12) (hk : k < c) : ∀ (m j u x : Nat) (f : Nat → Int32) (σ : hp_S), j + m = k → m < u → rdO (x, f) kn e → CNr σ kn e f → (∀ j, j < c → σ.1 24 j = nI (g j)) → ∃ τ, fr [22] [] σ τ ∧ (∀ i, i < 24 → τ.1 22 i = (rdJ e g k m j (x, f)).2 i) ∧ g83_14 N k4 u 20 (nI x) (nI k) (nI j) (hp σ, cs) = k4 20 (nI (rdJ e g k m j (x, f)).1) (nI (k + 1)) (hp τ, cs) := by
  intro m
  induction m with
  | zero =>
    intro j u x f σ hj hu hO hC h24
    obtain ⟨u, rfl⟩ : ∃ q, u = q + 1 := ⟨u - 1, by omega⟩
    have hx6 : x ≤ 6 := hO.1
    refine ⟨σ, fr.rf, hC.2.2, ?_⟩
    show _ = k4 20 (nI x) (nI (k + 1)) (hp σ, cs)
    unfold g83_14 g83_46
    by_cases c0 : x = 0
    · rw [if_neg (show ¬ ¬ nI x = 0 from fun z => z (by rw [c0]; rfl)), if_pos (nI_le (by omega) (by omega)), nI_1]
    · rw [if_pos (nI_z (by omega) c0), nI_1]
  | succ m ih =>
    intro j u x f σ hj hu hO hC h24
    obtain ⟨u, rfl⟩ : ∃ q, u = q + 1 := ⟨u - 1, by omega⟩
    have hx6 : x ≤ 6 := hO.1
    by_cases c0 : x = 0
    · subst c0
      obtain ⟨τ1, q1, q2, q3⟩ := c_put (N := N) (cs := cs) hkn he hC hO.2 (hl.1 j (by omega)) (hl.1 k hk) (hl.2 _ _ (by omega) hk (by omega))
      have hO2 := rdS_ok (e := e) hkn hO (hl.1 j (by omega)) (hl.1 k hk) (hl.2 _ _ (by omega) hk (by omega))
      have eI : rdJ e g k (m + 1) j (0, f) = rdJ e g k m (j + 1) (rdS e (0, f) (g j) (g k)) := rfl
      rw [eI]
      generalize rdS e (0, f) (g j) (g k) = r at q2 q3 hO2 ⊢
      obtain ⟨x2, f2⟩ := r
      obtain ⟨τ, r1, r2, r3⟩ := ih (j + 1) u x2 f2 τ1 (by omega) (by omega) hO2 ⟨by rw [q1.f List.not_mem_nil]; exact hC.1, by rw [q1.f List.not_mem_nil]; exact hC.2.1, q2⟩ (fun j hj => by rw [q1.r (by decide)]; exact h24 j hj)
      refine ⟨τ, q1.tr r1, r2, ?_⟩
      unfold g83_14
      rw [if_neg (show ¬ ¬ nI 0 = 0 from fun z => z rfl), if_neg (nI_ge (by omega) (by omega)), r20_2, a24 (by omega), h24 j (by omega), r20_2, a24 (by omega), h24 k hk, o20, q3, lf_ci_r, nI_1]
      exact r3
    · rw [rdJ_st (q := (x, f)) _ _ c0]
      refine ⟨σ, fr.rf, hC.2.2, ?_⟩
      unfold g83_14 g83_46
      rw [if_pos (nI_z (by omega) c0), nI_1]
theorem c_a4 (hN : iv_N N) (hkn : kn ≤ 24) (he : e ≤ 8) (hl : rdLs c g kn) (hc : c ≤ 12) : ∀ (m k u x : Nat) (f : Nat → Int32) (σ : hp_S), k + m = c → m < u → rdO (x, f) kn e → CNr σ kn e f → σ.2.2.1 20 3 = nI c → (∀ j, j < c → σ.1 24 j = nI (g j)) → ∃ τ, fr [22] [] σ τ ∧ (∀ j, j < 24 → τ.1 22 j = (rdA e g m k (x, f)).2 j) ∧ g83_4 N u 20 (nI x) (nI k) (hp σ, cs) = some (.inl (some (.int (nI (rdA e g m k (x, f)).1))), (hp τ, cs)) := by
  intro m
  induction m with
  | zero =>
    intro k u x f σ hk hu hO hC h3 h24
    obtain ⟨u, rfl⟩ : ∃ q, u = q + 1 := ⟨u - 1, by omega⟩
    refine ⟨σ, fr.rf, hC.2.2, ?_⟩
    show _ = (some (.inl (some (.int (nI x))), (hp σ, cs)) : lf_R)
    unfold g83_4
    rw [i20_3, h3, if_pos (nI_le (by omega) (by omega))]
  | succ m ih =>
    intro k u x f σ hk hu hO hC h3 h24
    obtain ⟨u, rfl⟩ : ∃ q, u = q + 1 := ⟨u - 1, by omega⟩
    obtain ⟨τ1, q1, q2, q3⟩ := c_rj14 (N := N) (cs := cs) (k := k) (k4 := g83_4 N u) hkn he hl hc (by omega) k 0 N x f σ (by omega) (by unfold iv_N at hN; omega) hO hC h24
    have hO2 := rdJ_ok (e := e) (k := k) hkn hl (by omega) k 0 (x, f) (by omega) hO
    have eI : rdA e g (m + 1) k (x, f) = rdA e g m (k + 1) (rdJ e g k k 0 (x, f)) := rfl
    rw [eI]
    generalize rdJ e g k k 0 (x, f) = r at q2 q3 hO2 ⊢
    obtain ⟨x2, f2⟩ := r
    obtain ⟨τ, r1, r2, r3⟩ := ih (k + 1) u x2 f2 τ1 (by omega) (by omega) hO2 ⟨by rw [q1.f List.not_mem_nil]; exact hC.1, by rw [q1.f List.not_mem_nil]; exact hC.2.1, q2⟩ (by rw [q1.f List.not_mem_nil]; exact h3) (fun j hj => by rw [q1.r (by decide)]; exact h24 j hj)
    refine ⟨τ, q1.tr r1, r2, ?_⟩
    unfold g83_4
    rw [i20_3, h3, if_neg (nI_ge (by omega) (by omega))]
    rw [show g83_14 N (g83_4 N u) N 20 (nI x) (nI k) 0 (hp σ, cs) = _ from q3]
    exact r3
/-- the class's apply -/
theorem c_apply (hN : iv_N N) (hkn : kn ≤ 24) (he : e ≤ 8) (hl : rdLs c g kn) (h2 : 2 ≤ c) (hc : c ≤ 12) (hs : sh ≤ 4) (hG : rdG f kn e) (hC : CNr σ kn e f) (h3 : σ.2.2.1 20 3 = nI c) (h24 : ∀ j, j < c → σ.1 24 j = nI (g j)) : ∃ τ, fr [22] [] σ τ ∧ (∀ j, j < 24 → τ.1 22 j = (rdD e sh g c f).2 j) ∧ f82 N 20 (nI sh) (hp σ, cs) = some (.inl (some (.int (nI (rdD e sh g c f).1))), (hp τ, cs)) := by
  have h0 : rdO ((0 : Nat), f) kn e := ⟨Nat.zero_le _, hG⟩
  have hNN : c < N := by
    unfold iv_N at hN
    omega
  unfold rdD
  by_cases c4 : sh = 4
  · rw [if_pos c4]
    obtain ⟨τ, q1, q2, q3⟩ := c_take (N := N) (cs := cs) hkn hC (hl.1 0 (by omega)) (hl.1 1 (by omega)) (hl.2 0 1 (by omega) (by omega) (by omega))
    refine ⟨τ, q1, q2, ?_⟩
    unfold f82
    rw [if_neg (show ¬ ¬ nI sh = 4 from fun z => z (by rw [c4]; rfl)), r20_2, a24_0, h24 0 (by omega), r20_2, a24_1, h24 1 (by omega), o20, q3, lf_ci_r]
  · rw [if_neg c4]
    have n4 : ¬ nI sh = 4 := fun z => c4 ((nI_eq (b := 4) (by omega) (by omega)).mp z)
    by_cases c2 : sh = 2
    · rw [if_pos c2]
      obtain ⟨τ, q1, q2, q3⟩ := c_a4 (N := N) (cs := cs) hN hkn he hl hc (c - 1) 1 N 0 f σ (by omega) (by omega) h0 hC h3 h24
      refine ⟨τ, q1, q2, ?_⟩
      unfold f82
      rw [if_pos n4, if_neg (show ¬ ¬ nI sh = 2 from fun z => z (by rw [c2]; rfl)), o20]
      unfold f83
      rw [show g83_4 N N 20 0 1 (hp σ, cs) = _ from q3, lf_ci_r]
    · rw [if_neg c2]
      have n2 : ¬ nI sh = 2 := fun z => c2 ((nI_eq (b := 2) (by omega) (by omega)).mp z)
      have pre : f82 N 20 (nI sh) (hp σ, cs) = g82_36 N N 20 (nI sh) (nI 0) (nI 1) (hp σ, cs) := by
        unfold f82
        rw [if_pos n4, if_pos n2]
        rfl
      by_cases c3 : sh = 3
      · rw [if_pos c3]
        obtain ⟨τ, q1, q2, q3⟩ := c_i36 (N := N) (cs := cs) (ix := fun _ => 0) hkn he hl hc hs (fun _ _ => rfl) (fun z => absurd c3 z) (c - 1) 1 N 0 f σ (by omega) (by omega) (by omega) h0 hC h3 h24
        have hO := rdI_ok (e := e) (ix := fun _ => 0) hkn hl (fun k h1 h2 => ⟨by omega, by omega⟩) (c - 1) 1 (0, f) (by omega) (by omega) h0
        refine ⟨τ, q1, q2, ?_⟩
        rw [pre, q3]
        unfold g82_82
        by_cases d : (rdI e g (fun _ => 0) (c - 1) 1 (0, f)).1 = 0
        · rw [if_neg (show ¬ ¬ nI (rdI e g (fun _ => 0) (c - 1) 1 (0, f)).1 = 0 from fun z => z (by rw [d]; rfl)), if_pos (show ¬ nI sh = 1 from fun z => by have := (nI_eq (b := 1) (by omega) (by omega)).mp z; omega)]
        · rw [if_pos (nI_z (by have := hO.1; omega) d)]
      · rw [if_neg c3]
        obtain ⟨τ, q1, q2, q3⟩ := c_i36 (N := N) (cs := cs) (ix := fun k => k - 1) hkn he hl hc hs (fun z => absurd z c3) (fun _ _ => rfl) (c - 1) 1 N 0 f σ (by omega) (by omega) (by omega) h0 hC h3 h24
        have hO := rdI_ok (e := e) (ix := fun k => k - 1) hkn hl (fun k h1 h2 => ⟨by omega, by omega⟩) (c - 1) 1 (0, f) (by omega) (by omega) h0
        rw [pre, q3]
        generalize rdI e g (fun k => k - 1) (c - 1) 1 (0, f) = r at q2 q3 hO ⊢
        obtain ⟨x, f2⟩ := r
        have hx6 : x ≤ 6 := hO.1
        have C2 : CNr τ kn e f2 := ⟨by rw [q1.f List.not_mem_nil]; exact hC.1, by rw [q1.f List.not_mem_nil]; exact hC.2.1, q2⟩
        have t24 : ∀ j, j < c → τ.1 24 j = nI (g j) := fun j hj => by rw [q1.r (by decide)]; exact h24 j hj
        have t3 : τ.2.2.1 20 3 = nI c := by rw [q1.f List.not_mem_nil]; exact h3
        by_cases c1 : sh = 1
        · rw [if_pos c1]
          by_cases d : x = 0
          · subst d
            obtain ⟨υ, r1, r2, r3⟩ := c_put (N := N) (cs := cs) hkn he C2 hO.2 (hl.1 (c - 1) (by omega)) (hl.1 0 (by omega)) (hl.2 _ _ (by omega) (by omega) (by omega))
            refine ⟨υ, q1.tr r1, r2, ?_⟩
            unfold g82_82
            rw [if_neg (show ¬ ¬ nI ((0, f2) : Nat × (Nat → Int32)).1 = 0 from fun z => z rfl), if_neg (show ¬ ¬ nI sh = 1 from fun z => z (by rw [c1]; rfl)), r20_2, i20_3, t3, show nI c - 1 = nI (c - 1) from pk_sub (b := 1) (by omega), a24 (by omega), t24 (c - 1) (by omega), r20_2, a24_0, t24 0 (by omega), o20, r3, lf_ci_r]
          · rw [rdS_st (q := (x, f2)) d]
            refine ⟨τ, q1, q2, ?_⟩
            unfold g82_82
            rw [if_pos (show ¬ nI ((x, f2) : Nat × (Nat → Int32)).1 = 0 from nI_z (by omega) d)]
        · rw [if_neg c1]
          refine ⟨τ, q1, q2, ?_⟩
          unfold g82_82
          by_cases d : x = 0
          · rw [if_neg (show ¬ ¬ nI ((x, f2) : Nat × (Nat → Int32)).1 = 0 from fun z => z (by rw [d]; rfl)), if_pos (show ¬ nI sh = 1 from fun z => c1 ((nI_eq (b := 1) (by omega) (by omega)).mp z))]
          · rw [if_pos (show ¬ nI ((x, f2) : Nat × (Nat → Int32)).1 = 0 from nI_z (by omega) d)]
/-- the class's nameKnot -/
theorem c_name (hB : TB B n) (hC : CT σ B n p) (hq : p ≤ n) (hkn : kn ≤ 24) (hsh : sh ≤ 4) (h21 : σ.2.2.1 21 1 = nI kn) (hS : CSn σ c g) (hc : c ≤ 12) : ∃ τ, fr [24] [(20, 3), (20, 4)] σ τ ∧ (rdK B n p sh kn c g = 0 → CSn τ (c + 1) (rdU g c (rdN B n p))) ∧ f81 N 20 (nI sh) (hp σ, cs) = some (.inl (some (.int (nI (rdK B n p sh kn c g)))), (hp τ, cs)) := by
  have hn := hB.1
  obtain ⟨c8, c9, c10, c11⟩ := hC
  obtain ⟨s3, s24, s4⟩ := hS
  have ha := tkA_le (B := B) hq
  have he := tkE_le (B := B) hq
  have k4 := tkK_le (B := B) (n := n) (p := p)
  have hv : rdN B n p ≤ 231088 := tkV_b (by omega) hB.2.1
  have h10 : σ.2.2.1 20 10 = nI (tkA B n p + (tkE B n p - tkA B n p)) := by
    rw [c10]
    congr 1
    omega
  by_cases d1 : ¬ tkK B n p = 2 ∨ (sh = 4 ∧ c = 2)
  · have ek : rdK B n p sh kn c g = 1 := by
      unfold rdK
      rw [if_pos d1]
    refine ⟨σ, fr.rf, fun z => by omega, ?_⟩
    rw [ek]
    unfold f81
    rw [i20_8, c8]
    by_cases d : tkK B n p = 2
    · rw [if_neg (show ¬ ¬ nI (tkK B n p) = 2 from fun z => z (by rw [d]; rfl)), if_neg (show ¬ ¬ nI sh = 4 from fun z => z (by rw [show sh = 4 by omega]; rfl)), i20_3, s3, if_neg (show ¬ ¬ nI c = 2 from fun z => z (by rw [show c = 2 by omega]; rfl))]
      rfl
    · rw [if_pos (show ¬ nI (tkK B n p) = 2 from fun z => d ((nI_eq (b := 2) (by omega) (by omega)).mp z))]
      rfl
  · have hk : tkK B n p = 2 := by omega
    have pre : f81 N 20 (nI sh) (hp σ, cs) = g81_23 N 20 (hp σ, cs) := by
      unfold f81
      rw [i20_8, c8, if_neg (show ¬ ¬ nI (tkK B n p) = 2 from fun z => z (by rw [hk]; rfl))]
      by_cases d : sh = 4
      · rw [if_neg (show ¬ ¬ nI sh = 4 from fun z => z (by rw [d]; rfl)), i20_3, s3, if_pos (show ¬ nI c = 2 from fun z => by have := (nI_eq (b := 2) (by omega) (by omega)).mp z; omega)]
      · rw [if_pos (show ¬ nI sh = 4 from fun z => d ((nI_eq (b := 4) (by omega) (by omega)).mp z))]
    rw [pre]
    unfold g81_23
    rw [i20_3, s3]
    by_cases d2 : c = 12 ∨ 3 < tkE B n p - tkA B n p
    · have ek : rdK B n p sh kn c g = 2 := by
        unfold rdK
        rw [if_neg d1, if_pos d2]
      refine ⟨σ, fr.rf, fun z => by omega, ?_⟩
      rw [ek]
      by_cases d : c = 12
      · rw [if_pos (show nI c = 12 by rw [d]; rfl)]
        rfl
      · rw [if_neg (show ¬ nI c = 12 from fun z => d ((nI_eq (b := 12) (by omega) (by omega)).mp z)), o20, c_long1 c9 h10 (by omega) (by omega), lf_ci_r, if_neg (by decide)]
        rfl
    · have v11 : σ.2.2.1 20 11 = nI (rdN B n p) := by
        rw [c11 hk, tkV_eq _ (by omega)]
        rfl
      rw [if_neg (show ¬ nI c = 12 from fun z => by have := (nI_eq (b := 12) (by omega) (by omega)).mp z; omega), o20, c_long0 c9 h10 (by omega), lf_ci_r, if_pos rfl, i20_11, v11, r20_0, i21_1, h21]
      by_cases d3 : kn ≤ rdN B n p
      · have ek : rdK B n p sh kn c g = 3 := by
          unfold rdK
          rw [if_neg d1, if_neg d2, if_pos d3]
        refine ⟨σ, fr.rf, fun z => by omega, ?_⟩
        rw [ek, if_neg (nI_nlt d3 (by omega))]
        rfl
      · rw [if_pos (nI_lt (by omega) (by omega)), i20_4, i20_11, v11, sh_bit (by omega)]
        have lt24 : rdN B n p < 24 := by omega
        by_cases d4 : ∀ k, k < c → ¬ g k = rdN B n p
        · have ek : rdK B n p sh kn c g = 0 := by
            unfold rdK
            rw [if_neg d1, if_neg d2, if_neg d3, if_pos d4]
          have hb0 : ¬ bt (σ.2.2.1 20 4) (rdN B n p) = true := fun z => by
            obtain ⟨k, k1, k2⟩ := (s4 (rdN B n p) lt24).mp z
            exact d4 k k1 k2
          refine ⟨hp_wf (hp_wf (hp_wi σ 24 c (nI (rdN B n p))) 20 3 (nI (c + 1))) 20 4 (σ.2.2.1 20 4 ||| lf_shl 1 (nI (rdN B n p))), ((fr.wi (by decide)).tr (fr.wf (by decide))).tr (fr.wf (by decide)), fun _ => ⟨?_, fun k hk => ?_, fun v hv => ?_⟩, ?_⟩
          · rw [hp_wf_ne (by decide), hp_wf_at]
          · show (hp_wi σ 24 c (nI (rdN B n p))).1 24 k = _
            unfold rdU
            by_cases e1 : k = c
            · rw [if_pos e1, e1, hp_wi_at]
            · rw [if_neg e1, hp_wi_nj e1]
              exact s24 k (by omega)
          · rw [hp_wf_at, b_or, one_bit (by omega) (by omega), Bool.or_eq_true, decide_eq_true_iff, s4 v hv]
            constructor
            · rintro (⟨k, k1, k2⟩ | z)
              · refine ⟨k, by omega, ?_⟩
                unfold rdU
                rw [if_neg (by omega)]
                exact k2
              · refine ⟨c, by omega, ?_⟩
                unfold rdU
                rw [if_pos rfl]
                exact z.symm
            · rintro ⟨k, k1, k2⟩
              unfold rdU at k2
              by_cases e1 : k = c
              · rw [if_pos e1] at k2
                exact Or.inr k2.symm
              · rw [if_neg e1] at k2
                exact Or.inl ⟨k, by omega, k2⟩
          · rw [ek, if_neg hb0, if_pos rfl, r20_2, i20_3, s3, i20_11, v11, b24 (by omega), i20_3, show (hp_wi σ 24 c (nI (rdN B n p))).2.2.1 20 3 = nI c from s3, nI_1, w20_3, i20_4, hp_wf_ne (by decide), show (hp_wi σ 24 c (nI (rdN B n p))).2.2.1 20 4 = σ.2.2.1 20 4 from rfl, i20_11, hp_wf_ne (by decide), show (hp_wi σ 24 c (nI (rdN B n p))).2.2.1 20 11 = nI (rdN B n p) from v11, w20_4]
            rfl
        · have ek : rdK B n p sh kn c g = 4 := by
            unfold rdK
            rw [if_neg d1, if_neg d2, if_neg d3, if_neg d4]
          have hb1 : bt (σ.2.2.1 20 4) (rdN B n p) = true := by
            refine (s4 (rdN B n p) lt24).mpr ?_
            exact Classical.byContradiction (fun z => d4 (fun k k1 k2 => z ⟨k, k1, k2⟩))
          refine ⟨σ, fr.rf, fun z => by omega, ?_⟩
          rw [ek, if_pos hb1, if_neg (by decide)]
          rfl
end RDX
