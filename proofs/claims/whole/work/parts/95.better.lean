/-! tries of changes -/
def lp (L : List (Nat × Nat)) (i : Nat) : Nat × Nat := L.getD i (0, 0)
theorem lp_get {L : List (Nat × Nat)} {i : Nat} (h : i < L.length) : L[i]? = some (lp L i) := by
  unfold lp
  rw [List.getD_eq_getElem?_getD, List.getElem?_eq_getElem h]
  rfl
def okS (f : Nat → Int32) (L : List (Nat × Nat)) (i j : Nat) (z : Int32) : Bool := swb f (lp L i).1 (lp L i).2 (cx z (lp L j).1 (lp L j).2).1 (cx z (lp L j).1 (lp L j).2).2
def fS (f : Nat → Int32) (L : List (Nat × Nat)) (i j : Nat) (z : Int32) : Nat → Int32 := swx f (lp L i).1 (lp L i).2 (cx z (lp L j).1 (lp L j).2).1 (cx z (lp L j).1 (lp L j).2).2
/-- what holds of two lines of a net -/
theorem two_lines {f : Nat → Int32} {n d i j : Nat} {z : Int32} (hg : GW n d f) (hi : i < (lq f n 0 n).length) (hj : j < (lq f n 0 n).length) : ((lp (lq f n 0 n) i).1 < 24 ∧ (lp (lq f n 0 n) i).2 < 24 ∧ (lp (lq f n 0 n) j).1 < 24 ∧ (lp (lq f n 0 n) j).2 < 24 ∧ (lp (lq f n 0 n) i).1 ≠ (lp (lq f n 0 n) i).2 ∧ (lp (lq f n 0 n) j).1 ≠ (lp (lq f n 0 n) j).2) ∧ (bt (f (lp (lq f n 0 n) i).1) (lp (lq f n 0 n) i).2 = true ∧ bt (f (lp (lq f n 0 n) j).1) (lp (lq f n 0 n) j).2 = true) ∧ (okS f (lq f n 0 n) i j z = true → d4 (lp (lq f n 0 n) i).1 (lp (lq f n 0 n) i).2 (cx z (lp (lq f n 0 n) j).1 (lp (lq f n 0 n) j).2).1 (cx z (lp (lq f n 0 n) j).1 (lp (lq f n 0 n) j).2).2 ∧ GW n d (fS f (lq f n 0 n) i j z)) := by
  have e1 : (lq f n 0 n)[i]? = some ((lp (lq f n 0 n) i).1, (lp (lq f n 0 n) i).2) := lp_get hi
  have e2 : (lq f n 0 n)[j]? = some ((lp (lq f n 0 n) j).1, (lp (lq f n 0 n) j).2) := lp_get hj
  obtain ⟨u1, u2, u3, u4, u5⟩ := lq_get hg.2.1 e1
  obtain ⟨v1, v2, v3, v4, v5⟩ := lq_get hg.2.1 e2
  refine ⟨⟨u3, u4, v3, v4, by omega, by omega⟩, ⟨u5, v5⟩, fun h => ?_⟩
  have hcx : (cx z (lp (lq f n 0 n) j).1 (lp (lq f n 0 n) j).2).1 < 24 ∧ (cx z (lp (lq f n 0 n) j).1 (lp (lq f n 0 n) j).2).2 < 24 ∧ (cx z (lp (lq f n 0 n) j).1 (lp (lq f n 0 n) j).2).1 ≠ (cx z (lp (lq f n 0 n) j).1 (lp (lq f n 0 n) j).2).2 ∧ bt (f (cx z (lp (lq f n 0 n) j).1 (lp (lq f n 0 n) j).2).1) (cx z (lp (lq f n 0 n) j).1 (lp (lq f n 0 n) j).2).2 = true := by
    unfold cx
    split
    · exact ⟨v3, v4, Nat.ne_of_lt v1, v5⟩
    · exact ⟨v4, v3, fun q => Nat.ne_of_lt v1 q.symm, (hg.2.2.2.2.1 _ v3 _ v5).2.2.2⟩
  have h4 := swb_d4 u3 u4 hcx.1 hcx.2.1 (Nat.ne_of_lt u1) hcx.2.2.1 h
  obtain ⟨_, _, _, _, w5, w6⟩ := swb_iff.mp h
  exact ⟨h4, swx_GW hg h4 u5 hcx.2.2.2 w5 w6⟩
abbrev tq : Type := Nat × Option (Nat × Nat × Int32)
def tS (f : Nat → Int32) (n : Nat) (L : List (Nat × Nat)) (i j : Nat) (z : Int32) (q : tq) : tq := if okS f L i j z = true then (if gPr (fS f L i j z) (al n) < q.1 then (gPr (fS f L i j z) (al n), some (i, j, z)) else q) else q
def bJ (f : Nat → Int32) (n : Nat) (L : List (Nat × Nat)) (i : Nat) : Nat → Nat → tq → tq
  | 0, _, q => q
  | m + 1, j, q => bJ f n L i m (j + 1) (tS f n L i j 1 (tS f n L i j 0 q))
def bI (f : Nat → Int32) (n : Nat) (L : List (Nat × Nat)) : Nat → Nat → tq → tq
  | 0, _, q => q
  | m + 1, i, q => bI f n L m (i + 1) (bJ f n L i (L.length - (i + 1)) (i + 1) q)
/-- a choice: none, or a change that is better than P0 -/
def qok (f : Nat → Int32) (n : Nat) (L : List (Nat × Nat)) (P0 : Nat) (q : tq) : Prop := (q.2 = none ∧ q.1 = P0) ∨ ∃ i j z, q.2 = some (i, j, z) ∧ i < j ∧ j < L.length ∧ (z = 0 ∨ z = 1) ∧ okS f L i j z = true ∧ q.1 = gPr (fS f L i j z) (al n) ∧ q.1 < P0
theorem qok.le {f : Nat → Int32} {n P0 : Nat} {L : List (Nat × Nat)} {q : tq} (h : qok f n L P0 q) : q.1 ≤ P0 := by
  rcases h with h | ⟨i, j, z, -, -, -, -, -, -, h⟩ <;> omega
theorem tS_ok {f : Nat → Int32} {n P0 i j : Nat} {L : List (Nat × Nat)} {z : Int32} {q : tq} (h : qok f n L P0 q) (hij : i < j) (hj : j < L.length) (hz : z = 0 ∨ z = 1) : qok f n L P0 (tS f n L i j z q) := by
  unfold tS
  by_cases c : okS f L i j z = true
  · rw [if_pos c]
    by_cases d : gPr (fS f L i j z) (al n) < q.1
    · rw [if_pos d]
      have := h.le
      exact Or.inr ⟨i, j, z, rfl, hij, hj, hz, c, rfl, by show gPr (fS f L i j z) (al n) < P0; omega⟩
    · rw [if_neg d]; exact h
  · rw [if_neg c]; exact h
/-- the class's notes of a choice -/
def CB (σ : hp_S) (L : List (Nat × Nat)) (q : tq) : Prop := σ.2.2.1 42 2 = nI q.1 ∧ ∀ i j z, q.2 = some (i, j, z) → σ.2.2.1 42 3 = nI (32 * (lp L i).1 + (lp L i).2) ∧ σ.2.2.1 42 4 = nI (32 * (lp L j).1 + (lp L j).2) ∧ σ.2.2.1 42 5 = z
theorem CB.fr {σ τ : hp_S} {A : List Nat} {F : List (Nat × Nat)} {L : List (Nat × Nat)} {q : tq} (h : CB σ L q) (k : fr A F σ τ) (h2 : (42, 2) ∉ F) (h3 : (42, 3) ∉ F) (h4 : (42, 4) ∉ F) (h5 : (42, 5) ∉ F) : CB τ L q := ⟨by rw [k.f h2]; exact h.1, fun i j z e => by rw [k.f h3, k.f h4, k.f h5]; exact h.2 i j z e⟩
def F29 : List (Nat × Nat) := [(29, 0), (29, 1), (29, 3), (29, 4), (42, 2), (42, 3), (42, 4), (42, 5)]
section BT
variable {cs : Nat × Nat} {N s n d : Nat} {f : Nat → Int32}
/-- trySwap -/
theorem c_try {σ : hp_S} {i j P0 : Nat} {z : Int32} {q : tq} (hs : s < 8) (hg : GW n d f) (hv : NV σ s n d f) (hN : iv_N N) (hP : P0 ≤ 1000000) (hq : qok f n (lq f n 0 n) P0 q) (hij : i < j) (hj : j < (lq f n 0 n).length) (hz : z = 0 ∨ z = 1) (hsw : σ.2.2.2 29 0 = σ.2.2.2 29 1) (hcb : CB σ (lq f n 0 n) q) : ∃ τ, fr [30, 31] F29 σ τ ∧ τ.2.2.2 29 0 = τ.2.2.2 29 1 ∧ CB τ (lq f n 0 n) (tS f n (lq f n 0 n) i j z q) ∧ f6 N 42 (2 + 2 * s) (nI (32 * (lp (lq f n 0 n) i).1 + (lp (lq f n 0 n) i).2)) (nI (32 * (lp (lq f n 0 n) j).1 + (lp (lq f n 0 n) j).2)) z (hp σ, cs) = some (.inl none, (hp τ, cs)) := by
  obtain ⟨⟨u1, u2, u3, u4, u5, u6⟩, -, hok⟩ := two_lines (z := z) hg (show i < (lq f n 0 n).length by omega) hj
  obtain ⟨s1, s2⟩ := c_swap (σ := σ) (cs := cs) (N := N) (z := z) (lay_row hs) hv.2.2 u1 u2 u3 u4 u5 u6
  have hqle := hq.le
  cases hb : okS f (lq f n 0 n) i j z with
  | false =>
    refine ⟨σ, fr.rf, hsw, ?_, ?_⟩
    · unfold tS
      rw [if_neg (by rw [hb]; decide)]
      exact hcb
    · unfold f6
      rw [sN_r hs, s2 hb, lf_ci_r, if_neg (fun q => q rfl)]
  | true =>
    obtain ⟨h4, hg'⟩ := hok hb
    have ef2 : ∀ k, k < 24 → (tl4 σ (3 + 2 * s) (lp (lq f n 0 n) i).1 (lp (lq f n 0 n) i).2 (cx z (lp (lq f n 0 n) j).1 (lp (lq f n 0 n) j).2).1 (cx z (lp (lq f n 0 n) j).1 (lp (lq f n 0 n) j).2).2).1 (3 + 2 * s) k = fS f (lq f n 0 n) i j z k := fun k hk => by rw [tl4_at h4]; exact swx_congr h4 hv.2.2 k hk
    obtain ⟨τ, p, t1, t2, t3, t4, t5, t6⟩ := c_priceS (σ := tl4 σ (3 + 2 * s) (lp (lq f n 0 n) i).1 (lp (lq f n 0 n) i).2 (cx z (lp (lq f n 0 n) j).1 (lp (lq f n 0 n) j).2).1 (cx z (lp (lq f n 0 n) j).1 (lp (lq f n 0 n) j).2).2) (cs := cs) (N := N) (L := q.1) hs hg.1 hg.2.1 hN (by omega) ef2 hsw
    have w1 := tl4_back h4 (by simp; omega) t1
    have w2 : fr [30, 31] F29 σ (tl4 τ (3 + 2 * s) (lp (lq f n 0 n) i).1 (lp (lq f n 0 n) i).2 (cx z (lp (lq f n 0 n) j).1 (lp (lq f n 0 n) j).2).1 (cx z (lp (lq f n 0 n) j).1 (lp (lq f n 0 n) j).2).2) := w1.wk (fun _ q => q) (fun q h => by
      unfold F29
      simp only [List.mem_cons, List.not_mem_nil, or_false] at h ⊢
      rcases h with h | h | h | h <;> simp [h])
    have pre : f6 N 42 (2 + 2 * s) (nI (32 * (lp (lq f n 0 n) i).1 + (lp (lq f n 0 n) i).2)) (nI (32 * (lp (lq f n 0 n) j).1 + (lp (lq f n 0 n) j).2)) z (hp σ, cs) = if nI q.1 ≤ nI p then (some (.inl none, (hp (tl4 τ (3 + 2 * s) (lp (lq f n 0 n) i).1 (lp (lq f n 0 n) i).2 (cx z (lp (lq f n 0 n) j).1 (lp (lq f n 0 n) j).2).1 (cx z (lp (lq f n 0 n) j).1 (lp (lq f n 0 n) j).2).2), cs))) else (some (.inl none, (hp (hp_wf (hp_wf (hp_wf (hp_wf (tl4 τ (3 + 2 * s) (lp (lq f n 0 n) i).1 (lp (lq f n 0 n) i).2 (cx z (lp (lq f n 0 n) j).1 (lp (lq f n 0 n) j).2).1 (cx z (lp (lq f n 0 n) j).1 (lp (lq f n 0 n) j).2).2) 42 2 (nI p)) 42 3 (nI (32 * (lp (lq f n 0 n) i).1 + (lp (lq f n 0 n) i).2))) 42 4 (nI (32 * (lp (lq f n 0 n) j).1 + (lp (lq f n 0 n) j).2))) 42 5 z), cs))) := by
      unfold f6
      rw [sN_r hs, s1 hb, lf_ci_r, if_pos (by decide), r42_0, sN_r hs, sN_o hs, c_all (σ := tl4 σ (3 + 2 * s) (lp (lq f n 0 n) i).1 (lp (lq f n 0 n) i).2 (cx z (lp (lq f n 0 n) j).1 (lp (lq f n 0 n) j).2).1 (cx z (lp (lq f n 0 n) j).1 (lp (lq f n 0 n) j).2).2) hs (n := n) hv.1, lf_ci_r, i42_2]
      rw [show (tl4 σ (3 + 2 * s) (lp (lq f n 0 n) i).1 (lp (lq f n 0 n) i).2 (cx z (lp (lq f n 0 n) j).1 (lp (lq f n 0 n) j).2).1 (cx z (lp (lq f n 0 n) j).1 (lp (lq f n 0 n) j).2).2).2.2.1 42 2 = nI q.1 from hcb.1, o29, t6, lf_ci_r, sN_r hs, c_unswap (lay_row hs) u1 u2 u3 u4 h4, lf_cv_r, i42_2]
      rw [show (tl4 τ (3 + 2 * s) (lp (lq f n 0 n) i).1 (lp (lq f n 0 n) i).2 (cx z (lp (lq f n 0 n) j).1 (lp (lq f n 0 n) j).2).1 (cx z (lp (lq f n 0 n) j).1 (lp (lq f n 0 n) j).2).2).2.2.1 42 2 = nI q.1 from (w1.f (by decide)).trans hcb.1, w42_2, w42_3, w42_4, w42_5 (by rcases hz with rfl | rfl <;> rfl)]
    rw [pre]
    by_cases g : gPr (fS f (lq f n 0 n) i j z) (al n) < q.1
    · have hp := (t3 g).1
      rw [if_neg (nI_ge (by rw [hp]; exact g) (by omega))]
      refine ⟨_, w2.tr ((((fr.wf (by decide)).tr (fr.wf (by decide))).tr (fr.wf (by decide))).tr (fr.wf (by decide))), t2, ?_, rfl⟩
      unfold tS
      rw [if_pos hb, if_pos g]
      refine ⟨?_, fun i' j' z' e => ?_⟩
      · rw [hp_wf_ne (by decide), hp_wf_ne (by decide), hp_wf_ne (by decide), hp_wf_at, hp]
      · cases e
        rw [hp_wf_ne (by decide), hp_wf_ne (by decide), hp_wf_at, hp_wf_ne (by decide), hp_wf_at, hp_wf_at]
        exact ⟨rfl, rfl, rfl⟩
    · rw [if_pos (nI_le (t4 (by omega)) (by omega))]
      refine ⟨_, w2, t2, ?_, rfl⟩
      unfold tS
      rw [if_pos hb, if_neg g]
      exact hcb.fr w1 (by decide) (by decide) (by decide) (by decide)
theorem NV.fr {σ τ : hp_S} {A : List Nat} {F : List (Nat × Nat)} (h : NV σ s n d f) (k : fr A F σ τ) (h1 : 3 + 2 * s ∉ A) (h2 : (2 + 2 * s, 1) ∉ F) (h3 : (2 + 2 * s, 2) ∉ F) : NV τ s n d f := ⟨by rw [k.f h2]; exact h.1, by rw [k.f h3]; exact h.2.1, fun j hj => by rw [k.r h1]; exact h.2.2 j hj⟩
theorem F29_s (hs : s < 8) (k : Nat) : (2 + 2 * s, k) ∉ F29 := by
  unfold F29
  simp only [List.mem_cons, List.not_mem_nil, or_false, Prod.mk.injEq]
  omega
theorem c_bJ {i P0 : Nat} (hs : s < 8) (hg : GW n d f) (hN : iv_N N) (hP : P0 ≤ 1000000) {k17 : Nat → Nat → Int32 → Int32 → Int32 → lf_W → lf_R} {x2 : Int32} : ∀ (m j u : Nat) (q : tq) (σ : hp_S), j + m = (lq f n 0 n).length → i < j → m < u → NV σ s n d f → qok f n (lq f n 0 n) P0 q → σ.2.2.2 29 0 = σ.2.2.2 29 1 → CB σ (lq f n 0 n) q → lnC σ 43 (lq f n 0 n) → ∃ τ, fr [30, 31] F29 σ τ ∧ τ.2.2.2 29 0 = τ.2.2.2 29 1 ∧ qok f n (lq f n 0 n) P0 (bJ f n (lq f n 0 n) i m j q) ∧ CB τ (lq f n 0 n) (bJ f n (lq f n 0 n) i m j q) ∧ g5_29 N k17 u 42 (2 + 2 * s) x2 (nI (lq f n 0 n).length) (nI i) (nI j) (hp σ, cs) = k17 42 (2 + 2 * s) x2 (nI (lq f n 0 n).length) (nI (i + 1)) (hp τ, cs) := by
  have h96 := hg.l96
  intro m
  induction m with
  | zero =>
    intro j u q σ hj hij hu hv hq hsw hcb hl
    obtain ⟨u, rfl⟩ : ∃ q, u = q + 1 := ⟨u - 1, by omega⟩
    refine ⟨σ, fr.rf, hsw, hq, hcb, ?_⟩
    unfold g5_29
    rw [if_pos (nI_le (by omega) (by omega)), nI_1]
  | succ m ih =>
    intro j u q σ hj hij hu hv hq hsw hcb hl
    obtain ⟨u, rfl⟩ : ∃ q, u = q + 1 := ⟨u - 1, by omega⟩
    obtain ⟨τ, t1, t2, t3, t4⟩ := c_try (cs := cs) (N := N) (z := 0) hs hg hv hN hP hq hij (by omega) (Or.inl rfl) hsw hcb
    have hv2 := hv.fr t1 (by simp; omega) (F29_s hs 1) (F29_s hs 2)
    have hq2 := tS_ok (i := i) (j := j) (z := 0) hq hij (by omega) (Or.inl rfl)
    obtain ⟨υ, v1, v2, v3, v4⟩ := c_try (cs := cs) (N := N) (z := 1) hs hg hv2 hN hP hq2 hij (by omega) (Or.inr rfl) t2 t3
    have w1 := t1.tr v1
    obtain ⟨ω, p1, p2, p3, p4, p5⟩ := ih (j + 1) u (tS f n (lq f n 0 n) i j 1 (tS f n (lq f n 0 n) i j 0 q)) υ (by omega) (by omega) (by omega) (hv.fr w1 (by simp; omega) (F29_s hs 1) (F29_s hs 2)) (tS_ok hq2 hij (by omega) (Or.inr rfl)) v2 v3 (fun k a b e => by rw [w1.r (by decide)]; exact hl k a b e)
    refine ⟨ω, w1.tr p1, p2, p3, p4, ?_⟩
    have e1 : σ.1 43 i = nI (32 * (lp (lq f n 0 n) i).1 + (lp (lq f n 0 n) i).2) := hl i _ _ (lp_get (by omega))
    have e2 : σ.1 43 j = nI (32 * (lp (lq f n 0 n) j).1 + (lp (lq f n 0 n) j).2) := hl j _ _ (lp_get (by omega))
    rw [g5_29]
    rw [if_neg (nI_ge (by omega) (by omega)), r42_1, a43 (by omega), r42_1, a43 (by omega), o42, e1, e2, t4, lf_cv_r, r42_1, a43 (by omega), r42_1, a43 (by omega), o42, t1.r (by decide), e1, e2, v4, lf_cv_r, nI_1]
    exact p5
theorem c_bI {P0 : Nat} (hs : s < 8) (hg : GW n d f) (hN : iv_N N) (hP : P0 ≤ 1000000) : ∀ (m i u : Nat) (q : tq) (σ : hp_S), i + m = (lq f n 0 n).length → m < u → NV σ s n d f → qok f n (lq f n 0 n) P0 q → σ.2.2.2 29 0 = σ.2.2.2 29 1 → CB σ (lq f n 0 n) q → lnC σ 43 (lq f n 0 n) → ∃ τ, fr [30, 31] F29 σ τ ∧ τ.2.2.2 29 0 = τ.2.2.2 29 1 ∧ qok f n (lq f n 0 n) P0 (bI f n (lq f n 0 n) m i q) ∧ CB τ (lq f n 0 n) (bI f n (lq f n 0 n) m i q) ∧ g5_17 N u 42 (2 + 2 * s) (nI P0) (nI (lq f n 0 n).length) (nI i) (hp σ, cs) = some (.inl (some (.int (if (bI f n (lq f n 0 n) m i q).1 < P0 then 1 else 0))), (hp τ, cs)) := by
  have h96 := hg.l96
  intro m
  induction m with
  | zero =>
    intro i u q σ hi hu hv hq hsw hcb hl
    obtain ⟨u, rfl⟩ : ∃ q, u = q + 1 := ⟨u - 1, by omega⟩
    refine ⟨σ, fr.rf, hsw, hq, hcb, ?_⟩
    have hle := hq.le
    unfold g5_17
    rw [if_pos (nI_le (by omega) (by omega)), i42_2, hcb.1]
    show _ = some (Sum.inl (some (Value.int (if q.1 < P0 then 1 else 0))), _)
    by_cases c : q.1 < P0
    · rw [if_neg (nI_ge c (by omega)), if_pos c]
    · rw [if_pos (nI_le (by omega) (by omega)), if_neg c]
  | succ m ih =>
    intro i u q σ hi hu hv hq hsw hcb hl
    obtain ⟨u, rfl⟩ : ∃ q, u = q + 1 := ⟨u - 1, by omega⟩
    obtain ⟨τ, t1, t2, t3, t4, t5⟩ := c_bJ (cs := cs) (N := N) (i := i) (k17 := g5_17 N u) (x2 := nI P0) hs hg hN hP ((lq f n 0 n).length - (i + 1)) (i + 1) N q σ (by omega) (by omega) (by unfold iv_N at hN; omega) hv hq hsw hcb hl
    obtain ⟨υ, p1, p2, p3, p4, p5⟩ := ih (i + 1) u _ τ (by omega) (by omega) (hv.fr t1 (by simp; omega) (F29_s hs 1) (F29_s hs 2)) t3 t2 t4 (fun k a b e => by rw [t1.r (by decide)]; exact hl k a b e)
    refine ⟨υ, t1.tr p1, p2, p3, p4, ?_⟩
    rw [g5_17]
    rw [if_neg (nI_ge (by omega) (by omega)), nI_1, t5]
    exact p5
/-- a round of the class -/
def bst (f : Nat → Int32) (n : Nat) : tq := bI f n (lq f n 0 n) (lq f n 0 n).length 0 (gPr f (al n), none)
theorem c_find {σ : hp_S} (hs : s < 8) (hg : GW n d f) (hN : iv_N N) (hv : NV σ s n d f) (hsw : σ.2.2.2 29 0 = σ.2.2.2 29 1) (hpr : σ.2.2.1 42 2 = nI (gPr f (al n))) : ∃ τ, fr [30, 31, 43] F29 σ τ ∧ τ.2.2.2 29 0 = τ.2.2.2 29 1 ∧ qok f n (lq f n 0 n) (gPr f (al n)) (bst f n) ∧ CB τ (lq f n 0 n) (bst f n) ∧ f5 N 42 (2 + 2 * s) (hp σ, cs) = some (.inl (some (.int (if (bst f n).1 < gPr f (al n) then 1 else 0))), (hp τ, cs)) := by
  obtain ⟨τ, q1, q2, q3⟩ := c_list (σ := σ) (cs := cs) (N := N) (f := f) (r := 43) (s := s) rfl (by omega) hs hg.2.1 hN (fun a ha b hb => hg.bn ha hb) hv.1 hv.2.2 hg.l96
  have hl := hg.l96
  obtain ⟨υ, p1, p2, p3, p4, p5⟩ := c_bI (cs := cs) (N := N) (P0 := gPr f (al n)) hs hg hN gPr_max (lq f n 0 n).length 0 N (gPr f (al n), none) τ (by omega) (by unfold iv_N at hN; omega) (hv.fr q1 (by simp; omega) List.not_mem_nil List.not_mem_nil) (Or.inl ⟨rfl, rfl⟩) (by rw [q1.g List.not_mem_nil, q1.g List.not_mem_nil]; exact hsw) ⟨by rw [q1.f List.not_mem_nil]; exact hpr, fun i j z e => by cases e⟩ q2
  refine ⟨υ, (q1.wk (fun a h => by simp at h; simp [h]) (fun a h => absurd h List.not_mem_nil)).tr (p1.wk (fun a h => by simp at h; rcases h with h | h <;> simp [h]) (fun _ h => h)), p2, p3, p4, ?_⟩
  unfold f5
  rw [i42_2, hpr, r42_1, sN_o hs, q3, lf_ci_r]
  exact p5
end BT
