/-! changes tried by the model -/
theorem swx_bit {f : Nat → Int32} {a b c d k i : Nat} (h : d4 a b c d) (hi : i < 32) : bt (swx f a b c d k) i = ((((bt (f k) i ^^ decide ((k = a ∧ i = b) ∨ (k = b ∧ i = a))) ^^ decide ((k = c ∧ i = d) ∨ (k = d ∧ i = c))) ^^ decide ((k = a ∧ i = c) ∨ (k = c ∧ i = a))) ^^ decide ((k = b ∧ i = d) ∨ (k = d ∧ i = b))) := by
  obtain ⟨h1, h2, h3, h4, h5, h6, h7, h8, h9, h10⟩ := h
  unfold swx
  rw [fl_bit h2 h4 h10 hi, fl_bit h1 h3 h7 hi, fl_bit h3 h4 h6 hi, fl_bit h1 h2 h5 hi]
section MB
variable {σ : hp_S} {cs : Nat × Nat} {N n d : Nat} {f : Nat → Int32}
theorem m_back {a b c d : Nat} (ef : ∀ k, k < 24 → σ.1 76 k = swx f a b c d k) (h : d4 a b c d) (hl1 : bt (f a) b = true ∧ bt (f b) a = true) (hl2 : bt (f c) d = true ∧ bt (f d) c = true) (h1 : bt (f a) c = false ∧ bt (f c) a = false) (h2 : bt (f b) d = false ∧ bt (f d) b = false) : ∃ τ, fr [76] [] σ τ ∧ (∀ k, k < 24 → τ.1 76 k = f k) ∧ f238 N 72 (nI a) (nI b) (nI c) (nI d) (hp σ, cs) = some (.inl none, (hp τ, cs)) := by
  have hh := h
  obtain ⟨q1, q2, q3, q4, q5, q6, q7, q8, q9, q10⟩ := h
  have sb : ∀ k i, i < 24 → bt (swx f a b c d k) i = ((((bt (f k) i ^^ decide ((k = a ∧ i = b) ∨ (k = b ∧ i = a))) ^^ decide ((k = c ∧ i = d) ∨ (k = d ∧ i = c))) ^^ decide ((k = a ∧ i = c) ∨ (k = c ∧ i = a))) ^^ decide ((k = b ∧ i = d) ∨ (k = d ∧ i = b))) := fun k i hi => swx_bit hh (by omega)
  have ac : bt (swx f a b c d a) c = true := by
    rw [sb a c q3, h1.1, decide_eq_false (by omega), decide_eq_false (by omega), decide_eq_true (by omega), decide_eq_false (by omega)]; rfl
  have ca : bt (swx f a b c d c) a = true := by
    rw [sb c a q1, h1.2, decide_eq_false (by omega), decide_eq_false (by omega), decide_eq_true (by omega), decide_eq_false (by omega)]; rfl
  have bd : bt (swx f a b c d b) d = true := by
    rw [sb b d q4, h2.1, decide_eq_false (by omega), decide_eq_false (by omega), decide_eq_false (by omega), decide_eq_true (by omega)]; rfl
  have db : bt (swx f a b c d d) b = true := by
    rw [sb d b q2, h2.2, decide_eq_false (by omega), decide_eq_false (by omega), decide_eq_false (by omega), decide_eq_true (by omega)]; rfl
  have ab : bt (swx f a b c d a) b = false := by
    rw [sb a b q2, hl1.1, decide_eq_true (by omega), decide_eq_false (by omega), decide_eq_false (by omega), decide_eq_false (by omega)]; rfl
  have ba : bt (swx f a b c d b) a = false := by
    rw [sb b a q1, hl1.2, decide_eq_true (by omega), decide_eq_false (by omega), decide_eq_false (by omega), decide_eq_false (by omega)]; rfl
  have cd : bt (swx f a b c d c) d = false := by
    rw [sb c d q4, hl2.1, decide_eq_false (by omega), decide_eq_true (by omega), decide_eq_false (by omega), decide_eq_false (by omega)]; rfl
  have dc : bt (swx f a b c d d) c = false := by
    rw [sb d c q3, hl2.2, decide_eq_false (by omega), decide_eq_true (by omega), decide_eq_false (by omega), decide_eq_false (by omega)]; rfl
  obtain ⟨s1, a1, a2, a3⟩ := m_parts2 (σ := σ) (cs := cs) (N := N) q1 q3 q7 ef ac ca
  obtain ⟨s2, b1, b2, b3⟩ := m_parts2 (σ := s1) (cs := cs) (N := N) q2 q4 q10 a2 (by rw [fl_other q1 q3 q7 q4 (by omega)]; exact bd) (by rw [fl_other q1 q3 q7 q2 (by omega)]; exact db)
  obtain ⟨s3, c1, c2, c3⟩ := m_joins2 (σ := s2) (cs := cs) (N := N) q1 q2 q5 b2 (by rw [fl_other q2 q4 q10 q2 (by omega), fl_other q1 q3 q7 q2 (by omega)]; exact ab) (by rw [fl_other q2 q4 q10 q1 (by omega), fl_other q1 q3 q7 q1 (by omega)]; exact ba)
  obtain ⟨s4, d1, d2, d3⟩ := m_joins2 (σ := s3) (cs := cs) (N := N) q3 q4 q6 c2 (by rw [fl_other q1 q2 q5 q4 (by omega), fl_other q2 q4 q10 q4 (by omega), fl_other q1 q3 q7 q4 (by omega)]; exact cd) (by rw [fl_other q1 q2 q5 q3 (by omega), fl_other q2 q4 q10 q3 (by omega), fl_other q1 q3 q7 q3 (by omega)]; exact dc)
  refine ⟨s4, ((a1.tr b1).tr c1).tr d1, fun k hk => ?_, ?_⟩
  · rw [d2 k hk]
    apply b_ext
    intro i hi
    rw [fl_bit q3 q4 q6 hi, fl_bit q1 q2 q5 hi, fl_bit q2 q4 q10 hi, fl_bit q1 q3 q7 hi, swx_bit hh hi]
    generalize decide ((k = a ∧ i = b) ∨ (k = b ∧ i = a)) = x1
    generalize decide ((k = c ∧ i = d) ∨ (k = d ∧ i = c)) = x2
    generalize decide ((k = a ∧ i = c) ∨ (k = c ∧ i = a)) = x3
    generalize decide ((k = b ∧ i = d) ∨ (k = d ∧ i = b)) = x4
    cases bt (f k) i <;> cases x1 <;> cases x2 <;> cases x3 <;> cases x4 <;> rfl
  · unfold f238
    rw [o72, a3, lf_cv_r, o72, b3, lf_cv_r, o72, c3, lf_cv_r, o72, d3, lf_cv_r]
/-- priceOf -/
theorem m_po {i j : Nat} {z : Int32} (hg : GW n d f) (hN : iv_N N) (hm : MV σ n d f) (hL : lnM σ (lq f n 0 n)) (hi : i < (lq f n 0 n).length) (hj : j < (lq f n 0 n).length) : ∃ τ, fr [76, 81] [(72, 24), (72, 25)] σ τ ∧ MV τ n d f ∧ lnM τ (lq f n 0 n) ∧ f242 N 72 (nI i) (nI j) z (hp σ, cs) = some (.inl (some (.int (if okS f (lq f n 0 n) i j z = true then nI (gPr (fS f (lq f n 0 n) i j z) (al n)) else -1))), (hp τ, cs)) := by
  have h96 := hg.l96
  obtain ⟨⟨u1, u2, u3, u4, u5, u6⟩, ⟨l1, l2⟩, hok⟩ := two_lines (z := z) hg hi hj
  obtain ⟨s1, s2⟩ := m_chg (σ := σ) (cs := cs) (N := N) (z := z) hg.2.1 hg.2.2.2.2.1 hm.2.2.2 hL h96 (lp_get hi) (lp_get hj) u5 u6 l1 l2 u1 u2 u3 u4
  cases hb : okS f (lq f n 0 n) i j z with
  | false =>
    refine ⟨σ, fr.rf, hm, hL, ?_⟩
    unfold f242
    rw [o72, s2 hb, lf_ci_r, if_neg (fun q => q rfl)]
    rfl
  | true =>
    obtain ⟨h4, hg'⟩ := hok hb
    obtain ⟨τ, t1, t2, t3⟩ := s1 hb
    obtain ⟨υ, v1, v2⟩ := m_price2 (σ := τ) (cs := cs) (N := N) (f := fS f (lq f n 0 n) i j z) hg.2.1 hN hg'.2.2.2.2.1 (by rw [t1.f List.not_mem_nil]; exact hm.1) t2
    obtain ⟨_, _, _, _, w5, w6⟩ := swb_iff.mp hb
    have sy : ∀ {p q : Nat}, p < 24 → q < 24 → bt (f p) q = false → bt (f q) p = false := by
      intro p q hp hq h
      cases e : bt (f q) p with
      | false => rfl
      | true => rw [(hg.2.2.2.2.1 q hq p e).2.2.2] at h; cases h
    have hl2 : bt (f (cx z (lp (lq f n 0 n) j).1 (lp (lq f n 0 n) j).2).1) (cx z (lp (lq f n 0 n) j).1 (lp (lq f n 0 n) j).2).2 = true ∧ bt (f (cx z (lp (lq f n 0 n) j).1 (lp (lq f n 0 n) j).2).2) (cx z (lp (lq f n 0 n) j).1 (lp (lq f n 0 n) j).2).1 = true := by
      unfold cx
      split
      · exact ⟨l2, (hg.2.2.2.2.1 _ u3 _ l2).2.2.2⟩
      · exact ⟨(hg.2.2.2.2.1 _ u3 _ l2).2.2.2, l2⟩
    obtain ⟨ω, b1, b2, b3⟩ := m_back (σ := υ) (cs := cs) (N := N) (f := f) (fun k hk => by rw [v1.r (by decide)]; exact t2 k hk) h4 ⟨l1, (hg.2.2.2.2.1 _ u1 _ l1).2.2.2⟩ hl2 ⟨w5, sy h4.1 h4.2.2.1 w5⟩ ⟨w6, sy h4.2.1 h4.2.2.2.1 w6⟩
    have w1 : fr [76, 81] [(72, 24), (72, 25)] σ ω := ((t1.wk (fun _ q => by simp at q; simp [q]) (fun q h => absurd h List.not_mem_nil)).tr (v1.wk (fun _ q => by simp at q; simp [q]) (fun _ q => q))).tr (b1.wk (fun _ q => by simp at q; simp [q]) (fun q h => absurd h List.not_mem_nil))
    have hLt : ∀ (ρ : hp_S), fr [76, 81] [(72, 24), (72, 25)] σ ρ → lnM ρ (lq f n 0 n) := fun ρ k => ⟨by rw [k.f (by decide)]; exact hL.1, fun i a b e => by rw [k.r (by decide), k.r (by decide)]; exact hL.2 i a b e⟩
    have hLv := hLt υ ((t1.wk (fun _ q => by simp at q; simp [q]) (fun q h => absurd h List.not_mem_nil)).tr (v1.wk (fun _ q => by simp at q; simp [q]) (fun _ q => q)))
    refine ⟨ω, w1, ⟨by rw [w1.f (by decide)]; exact hm.1, by rw [w1.f (by decide)]; exact hm.2.1, by rw [w1.f (by decide)]; exact hm.2.2.1, b2⟩, hLt ω w1, ?_⟩
    obtain ⟨y1, y2⟩ := hLv.2 i (lp (lq f n 0 n) i).1 (lp (lq f n 0 n) i).2 (lp_get hi)
    obtain ⟨y3, y4⟩ := hLv.2 j (lp (lq f n 0 n) j).1 (lp (lq f n 0 n) j).2 (lp_get hj)
    unfold f242 g242_50 g242_69
    rw [if_pos rfl, o72, t3, lf_ci_r, if_pos (by decide), o72, v2, lf_ci_r, r72_21, a79 (by omega), r72_22, a80 (by omega), y1, y2]
    unfold cx at b3
    by_cases hz : z = 0
    · rw [if_pos hz, r72_21, a79 (by omega), if_pos hz, r72_22, a80 (by omega), y3, y4, o72]
      rw [if_pos hz] at b3
      simp only at b3
      rw [b3, lf_cv_r]
    · rw [if_neg hz, r72_22, a80 (by omega), if_neg hz, r72_21, a79 (by omega), y3, y4, o72]
      rw [if_neg hz] at b3
      simp only at b3
      rw [b3, lf_cv_r]
/-- the model's notes of a choice -/
def MB (q : tq) (x1 x2 x3 x4 : Int32) : Prop := x1 = nI q.1 ∧ ((q.2 = none ∧ x2 = -1) ∨ ∃ i j z, q.2 = some (i, j, z) ∧ x2 = nI i ∧ x3 = nI j ∧ x4 = z)
theorem m_tS {i j P0 : Nat} {z x1 x2 x3 x4 x7 : Int32} {q : tq} {k19 : Nat → Int32 → Int32 → Int32 → Int32 → Int32 → lf_W → lf_R} {k34 : Nat → Int32 → Int32 → Int32 → Int32 → Int32 → Int32 → lf_W → lf_R} {k46 : Nat → Int32 → Int32 → Int32 → Int32 → Int32 → Int32 → Int32 → lf_W → lf_R} (hg : GW n d f) (hN : iv_N N) (hP : P0 ≤ 1000000) (hq : qok f n (lq f n 0 n) P0 q) (hm : MV σ n d f) (hL : lnM σ (lq f n 0 n)) (hij : i < j) (hj : j < (lq f n 0 n).length) (hz : (x7 = 0 ∧ z = 0) ∨ (x7 = 1 ∧ z = 1)) (hb : MB q x1 x2 x3 x4) : ∃ (τ : hp_S) (y1 y2 y3 y4 : Int32), fr [76, 81] [(72, 24), (72, 25)] σ τ ∧ MV τ n d f ∧ lnM τ (lq f n 0 n) ∧ MB (tS f n (lq f n 0 n) i j z q) y1 y2 y3 y4 ∧ g241_68 N k19 k34 k46 72 x1 x2 x3 x4 (nI i) (nI j) x7 z (nI j) (nI i) 72 (hp σ, cs) = k46 72 y1 y2 y3 y4 (nI i) (nI j) (x7 + 1) (hp τ, cs) := by
  obtain ⟨τ, t1, t2, t3, t4⟩ := m_po (σ := σ) (cs := cs) (N := N) (i := i) (j := j) (z := z) hg hN hm hL (by omega) hj
  have hle := hq.le
  have hmax := gPr_max (f := fS f (lq f n 0 n) i j z) (A := al n)
  unfold tS
  by_cases c : okS f (lq f n 0 n) i j z = true
  · rw [if_pos c] at t4 ⊢
    by_cases g : gPr (fS f (lq f n 0 n) i j z) (al n) < q.1
    · rw [if_pos g]
      refine ⟨τ, nI (gPr (fS f (lq f n 0 n) i j z) (al n)), nI i, nI j, z, t1, t2, t3, ⟨rfl, Or.inr ⟨i, j, z, rfl, rfl, rfl, rfl⟩⟩, ?_⟩
      unfold g241_68 g241_108 g241_110
      rw [o72, t4, lf_ci_r, if_neg (by rw [q_ne1 (by omega)]; exact id), hb.1, if_pos (nI_lt g (by omega))]
      rcases hz with ⟨rfl, rfl⟩ | ⟨rfl, rfl⟩
      · rw [if_pos (by decide)]
      · rw [if_neg (fun q => q rfl)]
    · rw [if_neg g]
      refine ⟨τ, x1, x2, x3, x4, t1, t2, t3, hb, ?_⟩
      unfold g241_68 g241_110
      rw [o72, t4, lf_ci_r, if_neg (by rw [q_ne1 (by omega)]; exact id), hb.1, if_neg (nI_nlt (by omega) (by omega))]
  · rw [if_neg c] at t4 ⊢
    refine ⟨τ, x1, x2, x3, x4, t1, t2, t3, hb, ?_⟩
    unfold g241_68 g241_110
    rw [o72, t4, lf_ci_r, if_pos rfl]
theorem m_bZ {i j P0 : Nat} {x1 x2 x3 x4 : Int32} {q : tq} {k19 : Nat → Int32 → Int32 → Int32 → Int32 → Int32 → lf_W → lf_R} {k34 : Nat → Int32 → Int32 → Int32 → Int32 → Int32 → Int32 → lf_W → lf_R} (hg : GW n d f) (hN : iv_N N) (hP : P0 ≤ 1000000) (hq : qok f n (lq f n 0 n) P0 q) (hm : MV σ n d f) (hL : lnM σ (lq f n 0 n)) (hij : i < j) (hj : j < (lq f n 0 n).length) (hb : MB q x1 x2 x3 x4) : ∃ (τ : hp_S) (y1 y2 y3 y4 : Int32), fr [76, 81] [(72, 24), (72, 25)] σ τ ∧ MV τ n d f ∧ lnM τ (lq f n 0 n) ∧ MB (tS f n (lq f n 0 n) i j 1 (tS f n (lq f n 0 n) i j 0 q)) y1 y2 y3 y4 ∧ g241_46 N k19 k34 N 72 x1 x2 x3 x4 (nI i) (nI j) 0 (hp σ, cs) = k34 72 y1 y2 y3 y4 (nI i) (nI (j + 1)) (hp τ, cs) := by
  obtain ⟨N', hN'⟩ : ∃ q, N = q + 3 := ⟨N - 3, by unfold iv_N at hN; omega⟩
  obtain ⟨τ, a1, a2, a3, a4, t1, t2, t3, t4, t5⟩ := m_tS (cs := cs) (N := N) (i := i) (j := j) (z := 0) (x7 := 0) (k19 := k19) (k34 := k34) (k46 := g241_46 N k19 k34 (N' + 2)) hg hN hP hq hm hL hij hj (Or.inl ⟨rfl, rfl⟩) hb
  have hq2 := tS_ok (i := i) (j := j) (z := 0) hq hij hj (Or.inl rfl)
  obtain ⟨υ, b1, b2, b3, b4, v1, v2, v3, v4, v5⟩ := m_tS (cs := cs) (N := N) (i := i) (j := j) (z := 1) (x7 := 1) (k19 := k19) (k34 := k34) (k46 := g241_46 N k19 k34 (N' + 1)) hg hN hP hq2 t2 t3 hij hj (Or.inr ⟨rfl, rfl⟩) t4
  refine ⟨υ, b1, b2, b3, b4, t1.tr v1, v2, v3, v4, ?_⟩
  have e1 : g241_46 N k19 k34 (N' + 3) 72 x1 x2 x3 x4 (nI i) (nI j) 0 (hp σ, cs) = k34 72 b1 b2 b3 b4 (nI i) (nI (j + 1)) (hp υ, cs) := by
    rw [g241_46]
    rw [if_neg (by decide), if_pos (by decide), t5, show (0 : Int32) + 1 = 1 by decide, g241_46]
    rw [if_neg (by decide), if_neg (fun q => q rfl), v5, show (1 : Int32) + 1 = 2 by decide, g241_46]
    rw [if_pos (by decide), nI_1]
  rw [← hN'] at e1
  exact e1
theorem m_bJ {i P0 : Nat} {k19 : Nat → Int32 → Int32 → Int32 → Int32 → Int32 → lf_W → lf_R} (hg : GW n d f) (hN : iv_N N) (hP : P0 ≤ 1000000) : ∀ (m j u : Nat) (q : tq) (x1 x2 x3 x4 : Int32) (σ : hp_S), j + m = (lq f n 0 n).length → i < j → m < u → qok f n (lq f n 0 n) P0 q → MV σ n d f → lnM σ (lq f n 0 n) → MB q x1 x2 x3 x4 → ∃ (τ : hp_S) (y1 y2 y3 y4 : Int32), fr [76, 81] [(72, 24), (72, 25)] σ τ ∧ MV τ n d f ∧ lnM τ (lq f n 0 n) ∧ qok f n (lq f n 0 n) P0 (bJ f n (lq f n 0 n) i m j q) ∧ MB (bJ f n (lq f n 0 n) i m j q) y1 y2 y3 y4 ∧ g241_34 N k19 u 72 x1 x2 x3 x4 (nI i) (nI j) (hp σ, cs) = k19 72 y1 y2 y3 y4 (nI (i + 1)) (hp τ, cs) := by
  have h96 := hg.l96
  intro m
  induction m with
  | zero =>
    intro j u q x1 x2 x3 x4 σ hj hij hu hq hm hL hb
    obtain ⟨u, rfl⟩ : ∃ q, u = q + 1 := ⟨u - 1, by omega⟩
    refine ⟨σ, x1, x2, x3, x4, fr.rf, hm, hL, hq, hb, ?_⟩
    unfold g241_34
    rw [i72_20, hL.1, if_pos (nI_le (by omega) (by omega)), nI_1]
  | succ m ih =>
    intro j u q x1 x2 x3 x4 σ hj hij hu hq hm hL hb
    obtain ⟨u, rfl⟩ : ∃ q, u = q + 1 := ⟨u - 1, by omega⟩
    obtain ⟨τ, a1, a2, a3, a4, t1, t2, t3, t4, t5⟩ := m_bZ (cs := cs) (N := N) (i := i) (j := j) (k19 := k19) (k34 := g241_34 N k19 u) hg hN hP hq hm hL hij (by omega) hb
    obtain ⟨υ, b1, b2, b3, b4, v1, v2, v3, v4, v5, v6⟩ := ih (j + 1) u _ a1 a2 a3 a4 τ (by omega) (by omega) (by omega) (tS_ok (tS_ok (i := i) (j := j) (z := 0) hq hij (by omega) (Or.inl rfl)) hij (by omega) (Or.inr rfl)) t2 t3 t4
    refine ⟨υ, b1, b2, b3, b4, t1.tr v1, v2, v3, v4, v5, ?_⟩
    rw [g241_34]
    rw [i72_20, hL.1, if_neg (nI_ge (by omega) (by omega)), t5]
    exact v6
/-- a round of the model: the choice is made -/
theorem m_bI {P0 : Nat} (hg : GW n d f) (hN : iv_N N) (hP : P0 ≤ 1000000) : ∀ (m i u : Nat) (q : tq) (x1 x2 x3 x4 : Int32) (σ : hp_S), i + m = (lq f n 0 n).length → m < u → qok f n (lq f n 0 n) P0 q → MV σ n d f → lnM σ (lq f n 0 n) → MB q x1 x2 x3 x4 → ((bI f n (lq f n 0 n) m i q).2 = none → ∃ τ, fr [76, 81] [(72, 24), (72, 25)] σ τ ∧ MV τ n d f ∧ g241_19 N u 72 x1 x2 x3 x4 (nI i) (hp σ, cs) = some (.inl (some (.int 0)), (hp τ, cs))) ∧ ∀ i' j' z', (bI f n (lq f n 0 n) m i q).2 = some (i', j', z') → ∃ τ, fr [76, 81] [(72, 24), (72, 25)] σ τ ∧ MV τ n d (fS f (lq f n 0 n) i' j' z') ∧ g241_19 N u 72 x1 x2 x3 x4 (nI i) (hp σ, cs) = some (.inl (some (.int 1)), (hp τ, cs)) := by
  have h96 := hg.l96
  intro m
  induction m with
  | zero =>
    intro i u q x1 x2 x3 x4 σ hi hu hq hm hL hb
    obtain ⟨u, rfl⟩ : ∃ q, u = q + 1 := ⟨u - 1, by omega⟩
    constructor
    · intro hn
      refine ⟨σ, fr.rf, hm, ?_⟩
      have hx : x2 = -1 := by
        rcases hb.2 with h | ⟨_, _, _, h, _⟩
        · exact h.2
        · rw [show q.2 = none from hn] at h; cases h
      unfold g241_19
      rw [i72_20, hL.1, if_pos (nI_le (by omega) (by omega)), if_pos hx]
    · intro i' j' z' hn
      rcases hq with h | ⟨i2, j2, z2, h1, h2, h3, h4, h5, h6, h7⟩
      · rw [show q.2 = some (i', j', z') from hn] at h; cases h.1
      · rw [show q.2 = some (i', j', z') from hn] at h1
        cases h1
        have hx : x2 = nI i' ∧ x3 = nI j' ∧ x4 = z' := by
          rcases hb.2 with h | ⟨_, _, _, h, r1, r2, r3⟩
          · rw [show q.2 = some (i', j', z') from hn] at h; cases h.1
          · rw [show q.2 = some (i', j', z') from hn] at h
            cases h
            exact ⟨r1, r2, r3⟩
        obtain ⟨⟨u1, u2, u3, u4, u5, u6⟩, ⟨l1, l2⟩, hok⟩ := two_lines (z := z') hg (show i' < (lq f n 0 n).length by omega) h3
        obtain ⟨τ, t1, t2, t3⟩ := (m_chg (σ := σ) (cs := cs) (N := N) (z := z') hg.2.1 hg.2.2.2.2.1 hm.2.2.2 hL h96 (lp_get (show i' < (lq f n 0 n).length by omega)) (lp_get h3) u5 u6 l1 l2 u1 u2 u3 u4).1 h5
        refine ⟨τ, t1.wk (fun _ q => by simp at q; simp [q]) (fun q h => absurd h List.not_mem_nil), ⟨by rw [t1.f List.not_mem_nil]; exact hm.1, by rw [t1.f List.not_mem_nil]; exact hm.2.1, by rw [t1.f List.not_mem_nil]; exact hm.2.2.1, t2⟩, ?_⟩
        unfold g241_19
        rw [i72_20, hL.1, if_pos (nI_le (by omega) (by omega)), hx.1, if_neg (by rw [q_ne1 (by omega)]; exact id), o72, hx.2.1, hx.2.2, t3, lf_ci_r, if_neg (by decide)]
  | succ m ih =>
    intro i u q x1 x2 x3 x4 σ hi hu hq hm hL hb
    obtain ⟨u, rfl⟩ : ∃ q, u = q + 1 := ⟨u - 1, by omega⟩
    obtain ⟨τ, a1, a2, a3, a4, t1, t2, t3, t4, t5, t6⟩ := m_bJ (cs := cs) (N := N) (i := i) (k19 := g241_19 N u) hg hN hP ((lq f n 0 n).length - (i + 1)) (i + 1) N q x1 x2 x3 x4 σ (by omega) (by omega) (by unfold iv_N at hN; omega) hq hm hL hb
    obtain ⟨p1, p2⟩ := ih (i + 1) u _ a1 a2 a3 a4 τ (by omega) (by omega) t4 t2 t3 t5
    have pre : g241_19 N (u + 1) 72 x1 x2 x3 x4 (nI i) (hp σ, cs) = g241_19 N u 72 a1 a2 a3 a4 (nI (i + 1)) (hp τ, cs) := by
      rw [g241_19]
      rw [i72_20, hL.1, if_neg (nI_ge (by omega) (by omega)), nI_1, t6]
    rw [pre]
    constructor
    · intro h
      obtain ⟨υ, v1, v2, v3⟩ := p1 h
      exact ⟨υ, t1.tr v1, v2, v3⟩
    · intro i' j' z' h
      obtain ⟨υ, v1, v2, v3⟩ := p2 i' j' z' h
      exact ⟨υ, t1.tr v1, v2, v3⟩
theorem m_betters (hg : GW n d f) (hN : iv_N N) (hm : MV σ n d f) : ((bst f n).2 = none → ∃ τ, fr [76, 79, 80, 81] [(72, 20), (72, 24), (72, 25)] σ τ ∧ MV τ n d f ∧ f241 N 72 (hp σ, cs) = some (.inl (some (.int 0)), (hp τ, cs))) ∧ ∀ i' j' z', (bst f n).2 = some (i', j', z') → ∃ τ, fr [76, 79, 80, 81] [(72, 20), (72, 24), (72, 25)] σ τ ∧ MV τ n d (fS f (lq f n 0 n) i' j' z') ∧ f241 N 72 (hp σ, cs) = some (.inl (some (.int 1)), (hp τ, cs)) := by
  have hl := hg.l96
  obtain ⟨τ, q1, q2, q3⟩ := m_lists (N := N) (cs := cs) (f := f) hg.2.1 hN hm.1 (fun k hk => hm.2.2.2 k (by have := hg.2.1; omega)) hg.l96
  have hm2 := hm.kept q1 (by decide) (by decide) (by decide) (by decide)
  obtain ⟨υ, v1, v2⟩ := m_price2 (σ := τ) (cs := cs) (N := N) (f := f) hg.2.1 hN hg.2.2.2.2.1 hm2.1 hm2.2.2.2
  have hm3 := hm2.kept v1 (by decide) (by decide) (by decide) (by decide)
  have hL3 : lnM υ (lq f n 0 n) := ⟨by rw [v1.f (by decide)]; exact q2.1, fun i a b e => by rw [v1.r (by decide), v1.r (by decide)]; exact q2.2 i a b e⟩
  obtain ⟨p1, p2⟩ := m_bI (cs := cs) (N := N) (P0 := gPr f (al n)) hg hN gPr_max (lq f n 0 n).length 0 N (gPr f (al n), none) (nI (gPr f (al n))) (-1) (-1) 0 υ (by omega) (by unfold iv_N at hN; omega) (Or.inl ⟨rfl, rfl⟩) hm3 hL3 ⟨rfl, Or.inl ⟨rfl, rfl⟩⟩
  have w1 : fr [76, 79, 80, 81] [(72, 20), (72, 24), (72, 25)] σ υ := (q1.wk (fun _ h => by simp at h; rcases h with h | h <;> simp [h]) (fun _ h => by simp at h; simp [h])).tr (v1.wk (fun _ h => by simp at h; simp [h]) (fun _ h => by simp at h; rcases h with h | h <;> simp [h]))
  have wk : ∀ ω, fr [76, 81] [(72, 24), (72, 25)] υ ω → fr [76, 79, 80, 81] [(72, 20), (72, 24), (72, 25)] σ ω := fun ω k => w1.tr (k.wk (fun _ h => by simp at h; rcases h with h | h <;> simp [h]) (fun _ h => by simp at h; rcases h with h | h <;> simp [h]))
  have pre : f241 N 72 (hp σ, cs) = g241_19 N N 72 (nI (gPr f (al n))) (-1) (-1) 0 (nI 0) (hp υ, cs) := by
    unfold f241
    rw [o72, q3, lf_cv_r, o72, v2, lf_ci_r]
    rfl
  rw [pre]
  constructor
  · intro h
    obtain ⟨ω, z1, z2, z3⟩ := p1 h
    exact ⟨ω, wk ω z1, z2, z3⟩
  · intro i' j' z' h
    obtain ⟨ω, z1, z2, z3⟩ := p2 i' j' z' h
    exact ⟨ω, wk ω z1, z2, z3⟩
end MB
/-! rounds -/
theorem c_rounds {cs : Nat × Nat} {N s n d : Nat} (hs : s < 8) (hN : iv_N N) : ∀ (m k u v : Nat) (f : Nat → Int32) (σ : hp_S), GW n d f → gPr f (al n) < m → k + m ≤ 1000001 → m < u → m < v → NV σ s n d f → σ.2.2.2 29 0 = σ.2.2.2 29 1 → σ.2.2.1 42 2 = nI (gPr f (al n)) → ∃ (k' : Nat) (f' : Nat → Int32) (τ : hp_S), GW n d f' ∧ fr ((3 + 2 * s) :: [30, 31, 43]) F29 σ τ ∧ τ.2.2.2 29 0 = τ.2.2.2 29 1 ∧ NV τ s n d f' ∧ g4_23 N u 42 (2 + 2 * s) (nI k) (hp σ, cs) = some (.inl (some (.int (nI k'))), (hp τ, cs)) ∧ ∀ (μ : hp_S) (ds : Nat × Nat), MV μ n d f → ∃ υ, fr [76, 79, 80, 81] [(72, 20), (72, 24), (72, 25)] μ υ ∧ MV υ n d f' ∧ g240_23 N v 72 (nI s) (nI k) (hp μ, ds) = some (.inl (some (.int (nI k'))), (hp (m_kp υ s), ds)) := by
  intro m
  induction m with
  | zero =>
    intro k u v f σ hg hP
    exact absurd hP (Nat.not_lt_zero _)
  | succ m ih =>
    intro k u v f σ hg hP hk hu hv0 hv hsw hpr
    obtain ⟨u, rfl⟩ : ∃ q, u = q + 1 := ⟨u - 1, by omega⟩
    obtain ⟨v, rfl⟩ : ∃ q, v = q + 1 := ⟨v - 1, by omega⟩
    obtain ⟨τ, t1, t2, t3, t4, t5⟩ := c_find (cs := cs) (N := N) hs hg hN hv hsw hpr
    have w1 : fr ((3 + 2 * s) :: [30, 31, 43]) F29 σ τ := t1.wk (fun a h => List.mem_cons_of_mem _ h) (fun _ h => h)
    cases hb : (bst f n).2 with
    | none =>
      have hz : ¬ (bst f n).1 < gPr f (al n) := by
        rcases t3 with h | ⟨_, _, _, h, _⟩
        · rw [h.2]; omega
        · rw [hb] at h; cases h
      have wNV := hv.fr t1 (by simp; omega) (F29_s hs 1) (F29_s hs 2)
      by_cases hbig : 1000000 ≤ k
      · refine ⟨k, f, σ, hg, fr.rf, hsw, hv, ?_, fun μ ds hm => ?_⟩
        · rw [g4_23]
          rw [if_pos (show (1000000 : Int32) ≤ nI k from nI_le (a := 1000000) hbig (by omega))]
        · obtain ⟨υ, v1, v2, v3⟩ := (m_betters (cs := ds) (N := N) hg hN hm).1 hb
          refine ⟨υ, v1, v2, ?_⟩
          rw [g240_23]
          rw [o72, v3, lf_ci_r, if_pos rfl, o72, m_keeps hs hN, lf_cv_r]
      · refine ⟨k, f, τ, hg, w1, t2, wNV, ?_, fun μ ds hm => ?_⟩
        · rw [g4_23]
          rw [if_neg (show ¬ (1000000 : Int32) ≤ nI k from nI_ge (b := 1000000) (by omega) (by omega)), o42, t5, lf_ci_r, if_neg hz, if_pos rfl]
        · obtain ⟨υ, v1, v2, v3⟩ := (m_betters (cs := ds) (N := N) hg hN hm).1 hb
          refine ⟨υ, v1, v2, ?_⟩
          rw [g240_23]
          rw [o72, v3, lf_ci_r, if_pos rfl, o72, m_keeps hs hN, lf_cv_r]
    | some r =>
      obtain ⟨i, j, z⟩ := r
      rcases t3 with h | ⟨i', j', z', h1, h2, h3, h4, h5, h6, h7⟩
      · rw [hb] at h; cases h.1
      · rw [hb] at h1
        cases h1
        obtain ⟨⟨u1, u2, u3, u4, u5, u6⟩, -, hok⟩ := two_lines (z := z) hg (show i < (lq f n 0 n).length by omega) h3
        obtain ⟨d4', hg'⟩ := hok h5
        have wNV := hv.fr t1 (by simp; omega) (F29_s hs 1) (F29_s hs 2)
        obtain ⟨s1, -⟩ := c_swap (σ := τ) (cs := cs) (N := N) (z := z) (lay_row hs) wNV.2.2 u1 u2 u3 u4 u5 u6
        have w2 : fr ((3 + 2 * s) :: [30, 31, 43]) F29 σ (tl4 τ (3 + 2 * s) (lp (lq f n 0 n) i).1 (lp (lq f n 0 n) i).2 (cx z (lp (lq f n 0 n) j).1 (lp (lq f n 0 n) j).2).1 (cx z (lp (lq f n 0 n) j).1 (lp (lq f n 0 n) j).2).2) := w1.tr (tl4_fr List.mem_cons_self)
        obtain ⟨c2, c3⟩ := t4
        obtain ⟨c4, c5, c6⟩ := c3 i j z hb
        obtain ⟨k', f', ω, r1, r2, r3, r4, r5, r6⟩ := ih (k + 1) u v (fS f (lq f n 0 n) i j z) _ hg' (by omega) (by omega) (by omega) (by omega) (show NV (tl4 τ (3 + 2 * s) (lp (lq f n 0 n) i).1 (lp (lq f n 0 n) i).2 (cx z (lp (lq f n 0 n) j).1 (lp (lq f n 0 n) j).2).1 (cx z (lp (lq f n 0 n) j).1 (lp (lq f n 0 n) j).2).2) s n d (fS f (lq f n 0 n) i j z) from ⟨wNV.1, wNV.2.1, fun l hl => by rw [tl4_at d4']; exact swx_congr d4' wNV.2.2 l hl⟩) t2 (by rw [← h6]; exact c2)
        refine ⟨k', f', ω, r1, w2.tr r2, r3, r4, ?_, fun μ ds hm => ?_⟩
        · rw [g4_23]
          rw [if_neg (show ¬ (1000000 : Int32) ≤ nI k from nI_ge (b := 1000000) (by omega) (by omega)), o42, t5, lf_ci_r, if_pos h7, if_neg (by decide), sN_r hs, i42_3, i42_4, i42_5, c4, c5, c6, s1 h5, lf_ci_r, nI_1]
          exact r5
        · obtain ⟨υ, v1, v2, v3⟩ := (m_betters (cs := ds) (N := N) hg hN hm).2 i j z hb
          obtain ⟨ψ, z1, z2, z3⟩ := r6 υ ds v2
          refine ⟨ψ, v1.tr z1, z2, ?_⟩
          rw [g240_23]
          rw [o72, v3, lf_ci_r, if_neg (by decide), nI_1]
          exact z3
theorem case_better {J : iv_J} {rd : iv_rd} {N : Nat} (hN : iv_N N) : iv_caseN J rd N g327_1513 := by
  intro sc i σ cs hs hi hI
  have key : ∃ (τ : hp_S) (ds : Nat × Nat), iv J τ ∧ ds.1 ≤ cs.1 + 1 ∧ ds.2 ≤ cs.2 + 6 ∧ ∀ k : lf_W → lf_R, tl_I (tc_I [("java/util/NoSuchElementException", 1)] (f148 N 0 (sc.2 (i + 1)) (hp σ, cs))) (fun w => f240 N 72 (sc.2 (i + 1)) w) k = k (hp τ, ds) := by
    generalize sc.2 (i + 1) = x
    refine putI (x := x) hI hN rfl (fun h => ?_) (fun σ' ds w h => ?_) (fun s n d f hs8 hx hg hv => ?_)
    · unfold f148
      rw [o0, c_held_no h]
      rfl
    · unfold f240
      rw [o72, h, lf_ci_r, if_neg (fun q => q rfl)]
    · subst hx
      have hn1 := hg.1
      have hn := hg.2.1
      have hne : ¬ σ.2.2.1 (2 + 2 * s) 1 = 0 := by rw [hv.1]; exact nI_ne0 (by omega) (by omega)
      by_cases h12 : n ≤ 12
      · have hsw := hI.2.2.2.2.2.2.2
        have hmax := gPr_max (f := f) (A := al n)
        obtain ⟨τ, p, t1, t2, t3, t4, t5, t6⟩ := c_priceS (σ := σ) (cs := cs) (N := N) (L := 2000000) hs8 hn1 hn hN (by omega) hv.2.2 hsw.1
        have hpp := (t3 (by omega)).1
        have w1 : fr ((3 + 2 * s) :: [30, 31, 43]) F29 σ (hp_wf τ 42 2 (nI p)) := (t1.wk (fun a h => by simp at h; rcases h with h | h <;> simp [h]) (fun q h => by
          unfold F29
          simp only [List.mem_cons, List.not_mem_nil, or_false] at h ⊢
          rcases h with h | h | h | h <;> simp [h])).tr (fr.wf (by decide))
        have hv2 : NV (hp_wf τ 42 2 (nI p)) s n d f := by
          have q := hv.fr t1 (by simp; omega) (by simp <;> omega) (by simp <;> omega)
          exact ⟨by rw [hp_wf_ne (by omega)]; exact q.1, by rw [hp_wf_ne (by omega)]; exact q.2.1, q.2.2⟩
        obtain ⟨k', f', ω, r1, r2, r3, r4, r5, r6⟩ := c_rounds (cs := cs) (N := N) (s := s) (n := n) (d := d) hs8 hN 1000001 0 N N f (hp_wf τ 42 2 (nI p)) hg (by omega) (by omega) (by unfold iv_N at hN; omega) (by unfold iv_N at hN; omega) hv2 t2 (by rw [hp_wf_at, hpp])
        have w2 := w1.tr r2
        refine Or.inr ⟨nI k', ω, n, d, f', r1, CP.of (A := [30, 31, 43]) (F := F29) (w2.wk (fun _ h => h) (fun q h => List.mem_cons_of_mem _ (List.mem_cons_of_mem _ h))) rfl rfl (fun h => h.of w2 r3 (by decide) (by decide) (by decide) (by decide)), r4, ?_, fun σ' μ ds hm hl => ?_⟩
        · unfold f148 f4
          rw [o0, c_held hs8 hne, lf_cr_r, sN_1 hs8, hv.1, if_pos (show nI n ≤ 12 from nI_le (b := 12) h12 (by omega)), r0_7, o42, r42_0, sN_r hs8, sN_o hs8, c_all hs8 hv.1, lf_ci_r, o29, show (2000000 : Int32) = nI 2000000 from rfl, t6, lf_ci_r, w42_2, show (0 : Int32) = nI 0 from rfl, r5, lf_ci_r]
        · obtain ⟨υ, v1, v2, v3⟩ := r6 μ ds hm
          refine ⟨υ, v1.kept rfl rfl, v1.l (by decide), v2, ?_⟩
          show f240 N 72 (nI s) (hp σ', ds) = _
          unfold f240
          rw [o72, hl, lf_ci_r, if_pos (by decide), i72_4, hm.1, if_pos (show nI n ≤ 12 from nI_le (b := 12) h12 (by omega))]
          exact v3
      · refine Or.inl (Or.inl ⟨-1, σ, iv_kept.rf σ, ?_, fun σ' μ ds hm hl => ⟨μ, iv_kept.rf μ, rfl, hm.2.2.1, ?_⟩⟩)
        · unfold f148
          rw [o0, c_held hs8 hne, lf_cr_r, sN_1 hs8, hv.1, if_neg (show ¬ nI n ≤ 12 from nI_ge (a := 12) (by omega) (by omega))]
        · show f240 N 72 (nI s) (hp σ', ds) = _
          unfold f240
          rw [o72, hl, lf_ci_r, if_pos (by decide), i72_4, hm.1, if_neg (show ¬ nI n ≤ 12 from nI_ge (a := 12) (by omega) (by omega))]
  obtain ⟨τ, ds, q1, q2, q3, q4⟩ := key
  refine ⟨τ, ds, q1, q2, q3, fun k23 => ?_⟩
  rw [← q4 (k23 (nI i + 6))]
  unfold g327_1513 h307 f307
  simp only [iv_s1 hs hi, Option.bind_some, if_pos hp_x]
  rfl
