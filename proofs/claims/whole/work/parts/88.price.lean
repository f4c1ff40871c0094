/-! PRICE by the class -/
def nr (y : Int64) : Nat := if y = 0 then 30 else 31
def nx (y : Int64) : Nat := if y = 0 then 31 else 30
def tog (y : Int64) : Int64 := if y = 0 then 1 else 0
theorem lay_nr (y : Int64) : hp_lay[nr y]? = some (0, 24, [], []) := by unfold nr; split <;> rfl
theorem lay_nx (y : Int64) : hp_lay[nx y]? = some (0, 24, [], []) := by unfold nx; split <;> rfl
theorem nr_nx (y : Int64) : nr y ≠ nx y := by unfold nr nx; split <;> decide
theorem nr_tog (y : Int64) : nr (tog y) = nx y := by
  unfold nr nx tog
  by_cases h : y = 0
  · rw [if_pos h, if_pos h]; rfl
  · rw [if_neg h, if_neg h]; rfl
theorem nr_in (y : Int64) : nr y ∈ [30, 31] := by unfold nr; split <;> decide
theorem nx_in (y : Int64) : nx y ∈ [30, 31] := by unfold nx; split <;> decide
theorem nr_o (y : Int64) : nr y = 30 ∨ nr y = 31 := by unfold nr; split <;> simp
theorem nx_o (y : Int64) : nx y = 30 ∨ nx y = 31 := by unfold nx; split <;> simp
section PC
variable {σ : hp_S} {cs : Nat × Nat} {N r c : Nat} {f : Nat → Int32} {A : Int32}
theorem rNear {g : Nat → lf_R} : (lf_fr (hp σ, cs) 29 9 0).bind g = g (nr (σ.2.2.2 29 0)) := r29_0
theorem rNext {g : Nat → lf_R} : (lf_fr (hp σ, cs) 29 9 1).bind g = g (nx (σ.2.2.2 29 1)) := r29_1
theorem bal_1 {v : Nat} (hv : v < 32) : (f v &&& A) ||| lf_shl 1 (nI v) = bal f A v 1 := by
  show _ = lf_shl 1 (nI v) ||| (us f (lf_shl 1 (nI v)) &&& A)
  refine b_eq (fun i => ?_)
  rw [b_or_iff, b_or_iff, b_and_iff, b_and_iff, us_bt]
  constructor
  · rintro (h | h)
    · exact Or.inr ⟨⟨v, (b_one hv).mpr rfl, h.1⟩, h.2⟩
    · exact Or.inl h
  · rintro (h | ⟨⟨j, h1, h2⟩, h3⟩)
    · exact Or.inr h
    · rw [(b_one hv).mp h1] at h2
      exact Or.inl ⟨h2, h3⟩
theorem c_fs_loop (hr : hp_lay[r]? = some (0, 24, [], [])) (hr0 : r ≠ 30 ∧ r ≠ 31) (hA : ∀ i, bt A i = true → i < 24) : ∀ (m u acc : Nat) (x : Int32) (σ : hp_S), (bl x).length = m → m < u → (∀ i, bt x i = true → bt A i = true) → (∀ k, k < 24 → σ.1 r k = f k) → ∃ τ, fr [30, 31] [] σ τ ∧ (∀ i, τ.1 (nr (σ.2.2.2 29 0)) i = if bt x i = true then bal f A i 1 else σ.1 (nr (σ.2.2.2 29 0)) i) ∧ g108_6 N u 29 r A (nI (i_pc A)) (nI acc) x (hp σ, cs) = some (.inl (some (.int (nI (acc + lsum (fun v => i_pc A - i_pc (bal f A v 1)) (bl x))))), (hp τ, cs)) := by
  intro m
  induction m with
  | zero =>
    intro u acc x σ hm hu hx ef
    obtain ⟨u, rfl⟩ : ∃ q, u = q + 1 := ⟨u - 1, by omega⟩
    have hx0 : x = 0 := by
      apply Classical.byContradiction
      intro q
      obtain ⟨l, -, -, -, e, -⟩ := bl_low q
      rw [e, List.length_cons] at hm
      omega
    subst hx0
    refine ⟨σ, fr.rf, fun i => by rw [b_0, if_neg (by decide)], ?_⟩
    unfold g108_6
    rw [if_pos rfl, bl_0]
    rfl
  | succ m ih =>
    intro u acc x σ hm hu hx ef
    obtain ⟨u, rfl⟩ : ∃ q, u = q + 1 := ⟨u - 1, by omega⟩
    have hx0 : ¬ x = 0 := by
      intro q
      rw [q, bl_0] at hm
      exact absurd hm (by simp)
    obtain ⟨l, l1, l2, l3, e, el⟩ := bl_low hx0
    have hl : l < 24 := hA l (hx l l2)
    have hb : i_pc (bal f A l 1) ≤ i_pc A := i_pc_le (fun i q => gR_in (hx l l2) ((bal_bt (by omega)).mp q))
    obtain ⟨τ, q1, q2, q3⟩ := ih u (acc + (i_pc A - i_pc (bal f A l 1))) (x &&& (x - 1)) (hp_wi σ (nr (σ.2.2.2 29 0)) l (bal f A l 1)) (by rw [e, List.length_cons] at hm; omega) (by omega) (fun i q => hx i (by rw [l3, Bool.and_eq_true] at q; exact q.1)) (fun k hk => by rw [hp_wi_ne (by have := nr_o (σ.2.2.2 29 0); omega)]; exact ef k hk)
    refine ⟨τ, (fr.wi (nr_in _)).tr q1, fun i => ?_, ?_⟩
    · have := q2 i
      rw [show (hp_wi σ (nr (σ.2.2.2 29 0)) l (bal f A l 1)).2.2.2 = σ.2.2.2 from rfl] at this
      rw [this, l3]
      by_cases c1 : i = l
      · subst c1
        rw [l2, if_pos rfl, hp_wi_at, if_neg (by simp)]
      · rw [hp_wi_nj c1, decide_eq_true c1, Bool.and_true]
    · unfold g108_6
      rw [if_neg hx0, (el N _).2, lf_ci_r, rNear, hp_ri hr (in_nI hl (by omega)), Option.bind_some, nI_clamp (by omega), ef l hl, bal_1 (by omega), hp_swi (lay_nr _) (in_nI hl (by omega)), Option.bind_some, nI_clamp (by omega), rNear]
      rw [show (hp_wi σ (nr (σ.2.2.2 29 0)) l (bal f A l 1)).2.2.2 = σ.2.2.2 from rfl, hp_ri (lay_nr _) (in_nI hl (by omega)), Option.bind_some, nI_clamp (by omega), hp_wi_at, c_pc, lf_ci_r, pk_sub hb, nI_add, q3, e]
      show _ = some (Sum.inl (some (Value.int (nI (acc + ((i_pc A - i_pc (bal f A l 1)) + lsum (fun v => i_pc A - i_pc (bal f A v 1)) (bl (x &&& (x - 1)))))))), _)
      rw [Nat.add_assoc]
theorem c_first (hr : hp_lay[r]? = some (0, 24, [], [])) (hr0 : r ≠ 30 ∧ r ≠ 31) (hA : ∀ i, bt A i = true → i < 24) (hN : iv_N N) (ef : ∀ k, k < 24 → σ.1 r k = f k) : ∃ τ, fr [30, 31] [] σ τ ∧ (∀ i, bt A i = true → τ.1 (nr (σ.2.2.2 29 0)) i = bal f A i 1) ∧ f108 N 29 r A (nI (i_pc A)) (hp σ, cs) = some (.inl (some (.int (nI (dS f A 1)))), (hp τ, cs)) := by
  obtain ⟨τ, q1, q2, q3⟩ := c_fs_loop (N := N) (cs := cs) (f := f) (A := A) hr hr0 hA _ N 0 A σ rfl (by have := bl_le A; unfold iv_N at hN; omega) (fun i q => q) ef
  refine ⟨τ, q1, fun i q => by rw [q2 i, if_pos q], ?_⟩
  unfold f108
  rw [show (0 : Int32) = nI 0 from rfl, q3, Nat.zero_add, lsum_bl hA, dS_row hA]
/-- the balls of the neighbours -/
theorem c_wd_in {k6 : Nat → Nat → Int32 → Int32 → Int32 → Int32 → lf_W → lf_R} {v acc : Nat} {x5 : Int32} : ∀ (m u : Nat) (x b : Int32), (bl x).length = m → m < u → (∀ i, bt x i = true → i < 24) → g109_47 N k6 u 29 r A (nI c) (nI acc) x5 (nI v) b x (hp σ, cs) = g109_97 N k6 29 r A (nI c) (nI acc + (nI c - nI (i_pc (un (σ.1 (nr (σ.2.2.2 29 0))) (bl x) b)))) x5 (nI v) (un (σ.1 (nr (σ.2.2.2 29 0))) (bl x) b) (hp σ, cs) := by
  intro m
  induction m with
  | zero =>
    intro u x b hm hu hx
    obtain ⟨u, rfl⟩ : ∃ q, u = q + 1 := ⟨u - 1, by omega⟩
    have hx0 : x = 0 := by
      apply Classical.byContradiction
      intro q
      obtain ⟨l, -, -, -, e, -⟩ := bl_low q
      rw [e, List.length_cons] at hm
      omega
    subst hx0
    unfold g109_47
    rw [if_pos rfl, c_pc, lf_ci_r, bl_0]
    rfl
  | succ m ih =>
    intro u x b hm hu hx
    obtain ⟨u, rfl⟩ : ∃ q, u = q + 1 := ⟨u - 1, by omega⟩
    have hx0 : ¬ x = 0 := by
      intro q
      rw [q, bl_0] at hm
      exact absurd hm (by simp)
    obtain ⟨l, l1, l2, l3, e, el⟩ := bl_low hx0
    have hl : l < 24 := hx l l2
    unfold g109_47
    rw [if_neg hx0, rNear, (el N _).2, lf_ci_r, hp_ri (lay_nr _) (in_nI hl (by omega)), Option.bind_some, nI_clamp (by omega), ih u _ _ (by rw [e, List.length_cons] at hm; omega) (by omega) (fun i q => hx i (by rw [l3, Bool.and_eq_true] at q; exact q.1)), e, un_cons]
theorem bal_next {g : Nat → Int32} {v s : Nat} (hv : v < 24) (hA : ∀ i, bt A i = true → i < 24) (hg : ∀ i, bt A i = true → g i = bal f A i s) : un g (bl (f v &&& A)) (bal f A v s) = bal f A v (s + 1) := by
  refine b_eq (fun i => ?_)
  rw [un_bt, bal_bt (by omega), bal_bt (by omega), gR_left]
  constructor
  · rintro (h | ⟨j, h1, h2⟩)
    · exact Or.inl h
    · have h3 := bl_mem.mp h1
      rw [b_and_iff] at h3
      rw [hg j h3.2] at h2
      exact Or.inr ⟨j, h3.1, h3.2, (bal_bt (by have := hA j h3.2; omega)).mp h2⟩
  · rintro (h | ⟨j, h1, h2, h3⟩)
    · exact Or.inl h
    · refine Or.inr ⟨j, bl_mem.mpr (b_and_iff.mpr ⟨h1, h2⟩), ?_⟩
      rw [hg j h2]
      exact (bal_bt (by have := hA j h2; omega)).mpr h3
theorem c_wd_loop {s : Nat} (hr : hp_lay[r]? = some (0, 24, [], [])) (hr0 : r ≠ 30 ∧ r ≠ 31) (hA : ∀ i, bt A i = true → i < 24) (hN : iv_N N) : ∀ (m u acc : Nat) (x : Int32) (σ : hp_S), (bl x).length = m → m < u → (∀ i, bt x i = true → bt A i = true) → (∀ k, k < 24 → σ.1 r k = f k) → (∀ i, bt A i = true → σ.1 (nr (σ.2.2.2 29 0)) i = bal f A i s) → σ.2.2.2 29 0 = σ.2.2.2 29 1 → ∃ τ, fr [30, 31] [(29, 0), (29, 1)] σ τ ∧ (∀ i, τ.1 (nx (σ.2.2.2 29 0)) i = if bt x i = true then bal f A i (s + 1) else σ.1 (nx (σ.2.2.2 29 0)) i) ∧ τ.2.2.2 29 0 = tog (σ.2.2.2 29 0) ∧ τ.2.2.2 29 1 = tog (σ.2.2.2 29 0) ∧ g109_6 N u 29 r A (nI (i_pc A)) (nI acc) x (hp σ, cs) = some (.inl (some (.int (nI (acc + lsum (fun v => i_pc A - i_pc (bal f A v (s + 1))) (bl x))))), (hp τ, cs)) := by
  intro m
  induction m with
  | zero =>
    intro u acc x σ hm hu hx ef hb hs
    obtain ⟨u, rfl⟩ : ∃ q, u = q + 1 := ⟨u - 1, by omega⟩
    have hx0 : x = 0 := by
      apply Classical.byContradiction
      intro q
      obtain ⟨l, -, -, -, e, -⟩ := bl_low q
      rw [e, List.length_cons] at hm
      omega
    subst hx0
    have et : ∀ (a k : Nat) (y : Int64) (ρ : hp_S), (hp_wg ρ a k y).2.2.2 a k = y := by
      intro a k y ρ
      show hp_up ρ.2.2.2 a k y a k = y
      unfold hp_up
      rw [if_pos ⟨rfl, rfl⟩]
    refine ⟨hp_wg (hp_wg σ 29 0 (tog (σ.2.2.2 29 0))) 29 1 (tog (σ.2.2.2 29 0)), (fr.wg (by decide)).tr (fr.wg (by decide)), fun i => by rw [b_0, if_neg (by decide)]; rfl, ?_, et _ _ _ _, ?_⟩
    · show hp_up (hp_wg σ 29 0 (tog (σ.2.2.2 29 0))).2.2.2 29 1 (tog (σ.2.2.2 29 0)) 29 0 = _
      unfold hp_up
      rw [if_neg (by decide)]
      exact et _ _ _ _
    · unfold g109_6
      rw [if_pos rfl, rNear, rNext, ← hs, hp_sws (a := 29) (k := 0) (p := 30) (y := tog (σ.2.2.2 29 0)) rfl rfl rfl (by
        show nx (σ.2.2.2 29 0) = nr (tog (σ.2.2.2 29 0))
        exact (nr_tog _).symm), Option.bind_some, hp_sws (a := 29) (k := 1) (p := 31) (y := tog (σ.2.2.2 29 0)) rfl rfl rfl (by
        show nr (σ.2.2.2 29 0) = nx (tog (σ.2.2.2 29 0))
        unfold nr nx tog
        by_cases h : σ.2.2.2 29 0 = 0
        · rw [if_pos h, if_pos h]; rfl
        · rw [if_neg h, if_neg h]; rfl), Option.bind_some, bl_0]
      rfl
  | succ m ih =>
    intro u acc x σ hm hu hx ef hb hs
    obtain ⟨u, rfl⟩ : ∃ q, u = q + 1 := ⟨u - 1, by omega⟩
    have hx0 : ¬ x = 0 := by
      intro q
      rw [q, bl_0] at hm
      exact absurd hm (by simp)
    obtain ⟨l, l1, l2, l3, e, el⟩ := bl_low hx0
    have hlA := hx l l2
    have hl : l < 24 := hA l hlA
    have hsub : ∀ i, bt (bal f A l (s + 1)) i = true → bt A i = true := fun i q => gR_in hlA ((bal_bt (by omega)).mp q)
    have hle : i_pc (bal f A l (s + 1)) ≤ i_pc A := i_pc_le hsub
    obtain ⟨τ, q1, q2, q3, q4, q5⟩ := ih u (acc + (i_pc A - i_pc (bal f A l (s + 1)))) (x &&& (x - 1)) (hp_wi σ (nx (σ.2.2.2 29 0)) l (bal f A l (s + 1))) (by rw [e, List.length_cons] at hm; omega) (by omega) (fun i q => hx i (by rw [l3, Bool.and_eq_true] at q; exact q.1)) (fun k hk => by rw [hp_wi_ne (by have := nx_o (σ.2.2.2 29 0); omega)]; exact ef k hk) (fun i q => by
      show (hp_wi σ (nx (σ.2.2.2 29 0)) l (bal f A l (s + 1))).1 (nr (σ.2.2.2 29 0)) i = _
      rw [hp_wi_ne (nr_nx _)]
      exact hb i q) hs
    have hfin : g109_97 N (g109_6 N u) 29 r A (nI (i_pc A)) (nI (acc + (i_pc A - i_pc (bal f A l (s + 1))))) x (nI l) (bal f A l (s + 1)) (hp σ, cs) = some (.inl (some (.int (nI (acc + lsum (fun v => i_pc A - i_pc (bal f A v (s + 1))) (bl x))))), (hp τ, cs)) := by
      unfold g109_97
      rw [rNext, ← hs, hp_swi (lay_nx _) (in_nI hl (by omega)), Option.bind_some, nI_clamp (by omega), q5, e]
      show _ = some (Sum.inl (some (Value.int (nI (acc + ((i_pc A - i_pc (bal f A l (s + 1))) + lsum (fun v => i_pc A - i_pc (bal f A v (s + 1))) (bl (x &&& (x - 1)))))))), _)
      rw [Nat.add_assoc]
    refine ⟨τ, (fr.wi (nx_in _)).tr q1, fun i => ?_, q3, q4, ?_⟩
    · have := q2 i
      rw [show (hp_wi σ (nx (σ.2.2.2 29 0)) l (bal f A l (s + 1))).2.2.2 = σ.2.2.2 from rfl] at this
      rw [this, l3]
      by_cases c1 : i = l
      · subst c1
        rw [l2, if_pos rfl, hp_wi_at, if_neg (by simp)]
      · rw [hp_wi_nj c1, decide_eq_true c1, Bool.and_true]
    · unfold g109_6
      rw [if_neg hx0, (el N _).2, lf_ci_r, rNear, hp_ri (lay_nr _) (in_nI hl (by omega)), Option.bind_some, nI_clamp (by omega), hb l hlA]
      by_cases cA : bal f A l s = A
      · have e1 : bal f A l (s + 1) = A := b_eq (fun i => ⟨hsub i, fun q => bal_mono (by omega) (Nat.le_succ s) (by rw [cA]; exact q)⟩)
        rw [if_pos cA]
        rw [e1, Nat.sub_self, Nat.add_zero] at hfin
        rw [cA]
        rw [hfin]
      · rw [if_neg cA, hp_ri hr (in_nI hl (by omega)), Option.bind_some, nI_clamp (by omega), ef l hl]
        rw [c_wd_in (σ := σ) _ N _ _ rfl (by have := bl_le (f l &&& A); unfold iv_N at hN; omega) (fun i q => hA i (b_and_iff.mp q).2), bal_next hl hA hb, pk_sub hle, nI_add]
        exact hfin
theorem c_widen {s : Nat} (hr : hp_lay[r]? = some (0, 24, [], [])) (hr0 : r ≠ 30 ∧ r ≠ 31) (hA : ∀ i, bt A i = true → i < 24) (hN : iv_N N) (ef : ∀ k, k < 24 → σ.1 r k = f k) (hb : ∀ i, bt A i = true → σ.1 (nr (σ.2.2.2 29 0)) i = bal f A i s) (hs : σ.2.2.2 29 0 = σ.2.2.2 29 1) : ∃ τ, fr [30, 31] [(29, 0), (29, 1)] σ τ ∧ (∀ i, bt A i = true → τ.1 (nr (τ.2.2.2 29 0)) i = bal f A i (s + 1)) ∧ τ.2.2.2 29 0 = τ.2.2.2 29 1 ∧ f109 N 29 r A (nI (i_pc A)) (hp σ, cs) = some (.inl (some (.int (nI (dS f A (s + 1))))), (hp τ, cs)) := by
  obtain ⟨τ, q1, q2, q3, q4, q5⟩ := c_wd_loop (N := N) (cs := cs) (f := f) (A := A) (s := s) hr hr0 hA hN _ N 0 A σ rfl (by have := bl_le A; unfold iv_N at hN; omega) (fun i q => q) ef hb hs
  refine ⟨τ, q1, fun i q => ?_, q3.trans q4.symm, ?_⟩
  · rw [q3, nr_tog, q2 i, if_pos q]
  · unfold f109
    rw [show (0 : Int32) = nI 0 from rfl, q5, Nat.zero_add, lsum_bl hA, dS_row hA]
/-- the end: FAR and SUM are left -/
theorem c_pr_end {T s : Nat} (hT : T < 100000) (hs : s ≤ 24) : ∃ τ, fr [30, 31] [(29, 0), (29, 1), (29, 3), (29, 4)] σ τ ∧ τ.2.2.2 = σ.2.2.2 ∧ τ.2.2.1 29 3 = nI s ∧ τ.2.2.1 29 4 = nI (T / 2) ∧ g107_106 N 29 (nI T) (nI s) (hp σ, cs) = some (.inl (some (.int (nI (1000 * s + T / 2)))), (hp τ, cs)) := by
  refine ⟨hp_wf (hp_wf σ 29 3 (nI s)) 29 4 (nI (T / 2)), (fr.wf (by decide)).tr (fr.wf (by decide)), rfl, by rw [hp_wf_ne (by decide), hp_wf_at], hp_wf_at, ?_⟩
  unfold g107_106
  rw [w29_3, show (2 : Int32) = nI 2 from rfl, pk_div (by omega) (by omega) (by omega), w29_4, i29_3, i29_4, hp_wf_at, hp_wf_ne (by decide), hp_wf_at, show (1000 : Int32) = nI 1000 from rfl, pk_mul, nI_add]
theorem c_pr_loop {L : Nat} (hr : hp_lay[r]? = some (0, 24, [], [])) (hr0 : r ≠ 30 ∧ r ≠ 31) (hA : ∀ i, bt A i = true → i < 24) (hN : iv_N N) (hL : L ≤ 2000000) : ∀ (m s u : Nat) (σ : hp_S), s + m = 24 → m < u → 1 ≤ s → (∀ k, k < 24 → σ.1 r k = f k) → (∀ t, t < s → ¬ dS f A t = 0) → (1 < s → dS f A s ≠ dS f A (s - 1)) → (∀ i, bt A i = true → σ.1 (nr (σ.2.2.2 29 0)) i = bal f A i s) → σ.2.2.2 29 0 = σ.2.2.2 29 1 → ∃ (τ : hp_S) (p : Nat), fr [30, 31] [(29, 0), (29, 1), (29, 3), (29, 4)] σ τ ∧ τ.2.2.2 29 0 = τ.2.2.2 29 1 ∧ (gPr f A < L → p = gPr f A ∧ (gJ f A → τ.2.2.1 29 3 = nI (gF f A) ∧ τ.2.2.1 29 4 = nI (gS f A))) ∧ (L ≤ gPr f A → L ≤ p) ∧ p ≤ 2000000 ∧ g107_38 N u 29 r A (nI L) (nI (i_pc A)) (nI (dS f A s)) (nI (sm (dS f A) s)) (nI s) (hp σ, cs) = some (.inl (some (.int (nI p))), (hp τ, cs)) := by
  intro m
  induction m with
  | zero =>
    intro s u σ hs hu h1 ef hz hd hb hsw
    exfalso
    refine hd (by omega) ?_
    rw [show s = 24 by omega, dS_end hA (by omega)]
  | succ m ih =>
    intro s u σ hs hu h1 ef hz hd hb hsw
    obtain ⟨u, rfl⟩ : ∃ q, u = q + 1 := ⟨u - 1, by omega⟩
    have hT := smD_max (f := f) (A := A) s
    have hT2 := smD_max (f := f) (A := A) (s + 1)
    have hD := dS_max (f := f) (A := A) (s := s)
    unfold g107_38
    rw [if_neg (show ¬ (24 : Int32) ≤ nI s from nI_ge (b := 24) (by omega) (by omega))]
    by_cases c0 : dS f A s = 0
    · obtain ⟨hJ, hF⟩ := gF_eq c0 (by omega) hz
      have hP : gPr f A = 1000 * s + sm (dS f A) s / 2 := by
        unfold gPr gS
        rw [if_pos (show dS f A 23 = 0 from hJ), hF]
      obtain ⟨τ, q1, q2, q3, q4, q5⟩ := c_pr_end (σ := σ) (cs := cs) (N := N) (T := sm (dS f A) s) (s := s) (by omega) (by omega)
      refine ⟨τ, _, q1, by rw [q2]; exact hsw, fun _ => ⟨hP.symm, fun _ => ⟨by rw [q3, hF], by rw [q4]; unfold gS; rw [hF]⟩⟩, fun h => by rw [hP] at h; exact h, by omega, ?_⟩
      rw [c0, if_pos (show nI 0 ≤ 0 by decide)]
      exact q5
    · rw [if_neg (show ¬ nI (dS f A s) ≤ 0 from nI_ge (a := 0) (by omega) (by omega)), show (1000 : Int32) * (nI s + 1) + (nI (sm (dS f A) s) + nI (dS f A s)) / 2 = nI (1000 * (s + 1) + sm (dS f A) (s + 1) / 2) by
        rw [nI_1, nI_add, show (1000 : Int32) = nI 1000 from rfl, pk_mul, show (2 : Int32) = nI 2 from rfl, show sm (dS f A) s + dS f A s = sm (dS f A) (s + 1) from rfl, pk_div (by omega) (by omega) (by omega), nI_add]]
      have hbig : 1000 * (s + 1) + sm (dS f A) (s + 1) / 2 ≤ gPr f A := by
        unfold gPr gS
        by_cases hJ : dS f A 23 = 0
        · rw [if_pos hJ]
          have h2 : s + 1 ≤ gF f A := by
            apply Nat.lt_of_not_le
            intro q
            exact c0 (gF_ge hJ q)
          have h3 := sm_le_n (F := dS f A) h2
          omega
        · rw [if_neg hJ]
          omega
      by_cases cL : 1000 * (s + 1) + sm (dS f A) (s + 1) / 2 < L
      · rw [if_pos (nI_lt cL (by omega)), o29]
        obtain ⟨τ, q1, q2, q3, q4⟩ := c_widen (cs := cs) (N := N) (s := s) hr hr0 hA hN ef hb hsw
        rw [q4, lf_ci_r]
        have w1 : fr [30, 31] [(29, 0), (29, 1), (29, 3), (29, 4)] σ τ := q1.wk (fun a q => q) (fun q h => by
          rcases List.mem_cons.mp h with rfl | h
          · decide
          · rw [List.mem_singleton.mp h]; decide)
        by_cases cS : dS f A (s + 1) = dS f A s
        · rw [cS, if_neg (fun q => q rfl)]
          have hNJ : ¬ dS f A 23 = 0 := by
            rw [dS_still hA cS (by omega)]
            exact c0
          have hP : gPr f A = 1000000 := by
            unfold gPr
            rw [if_neg hNJ]
          exact ⟨τ, 1000000, w1, q3, fun _ => ⟨hP.symm, fun q => absurd q hNJ⟩, fun h => by rw [hP] at h; exact h, by omega, rfl⟩
        · rw [if_pos (by rw [q_eq (by have := dS_max (f := f) (A := A) (s := s + 1); omega) (by omega)]; exact cS), nI_add, nI_1]
          obtain ⟨υ, p, p1, p2, p3, p4, p5, p6⟩ := ih (s + 1) u τ (by omega) (by omega) (by omega) (fun k hk => by rw [q1.r (by simp; omega)]; exact ef k hk) (fun t ht => by
            by_cases q : t = s
            · rw [q]; exact c0
            · exact hz t (by omega)) (fun _ => cS) q2 q3
          exact ⟨υ, p, w1.tr p1, p2, p3, p4, p5, p6⟩
      · rw [if_neg (nI_nlt (by omega) (by omega))]
        exact ⟨σ, L, fr.rf, hsw, fun q => by omega, fun _ => Nat.le_refl _, hL, rfl⟩
/-- PRICE, or no less than the limit if it isn't below it -/
theorem c_price {L : Nat} (hr : hp_lay[r]? = some (0, 24, [], [])) (hr0 : r ≠ 30 ∧ r ≠ 31) (hA : ∀ i, bt A i = true → i < 24) (hA0 : ¬ A = 0) (hN : iv_N N) (hL : L ≤ 2000000) (ef : ∀ k, k < 24 → σ.1 r k = f k) (hsw : σ.2.2.2 29 0 = σ.2.2.2 29 1) : ∃ (τ : hp_S) (p : Nat), fr [30, 31] [(29, 0), (29, 1), (29, 3), (29, 4)] σ τ ∧ τ.2.2.2 29 0 = τ.2.2.2 29 1 ∧ (gPr f A < L → p = gPr f A ∧ (gJ f A → τ.2.2.1 29 3 = nI (gF f A) ∧ τ.2.2.1 29 4 = nI (gS f A))) ∧ (L ≤ gPr f A → L ≤ p) ∧ p ≤ 2000000 ∧ f107 N 29 r A (nI L) (hp σ, cs) = some (.inl (some (.int (nI p))), (hp τ, cs)) := by
  obtain ⟨τ, q1, q2, q3⟩ := c_first (cs := cs) (N := N) hr hr0 hA hN ef
  have w1 : fr [30, 31] [(29, 0), (29, 1), (29, 3), (29, 4)] σ τ := q1.wk (fun a q => q) (fun q h => absurd h List.not_mem_nil)
  have hc1 : 1 ≤ i_pc A := by
    have h1 := bl_len A
    obtain ⟨l, -, -, -, e, -⟩ := bl_low hA0
    rw [e, List.length_cons] at h1
    omega
  have hc24 := i_pc_max (by omega) hA
  have e0 := dS_0 (f := f) hA
  have hm : nI (i_pc A) * (nI (i_pc A) - 1) = nI (dS f A 0) := by
    rw [show (1 : Int32) = nI 1 from rfl, pk_sub hc1, pk_mul, e0]
  have hg : τ.2.2.2 29 0 = τ.2.2.2 29 1 := by rw [q1.g List.not_mem_nil, q1.g List.not_mem_nil]; exact hsw
  have hb : ∀ i, bt A i = true → τ.1 (nr (τ.2.2.2 29 0)) i = bal f A i 1 := fun i q => by rw [q1.g List.not_mem_nil]; exact q2 i q
  have he : ∀ k, k < 24 → τ.1 r k = f k := fun k hk => by rw [q1.r (by simp; omega)]; exact ef k hk
  unfold f107 g107_36
  rw [c_pc, lf_ci_r, o29, q3, lf_ci_r, hm]
  by_cases c1 : i_pc A ≤ 1
  · have ez : dS f A 0 = 0 := by rw [e0, show i_pc A = 1 by omega]
    have ez1 : dS f A 1 = 0 := by have := dS_mono (f := f) (A := A) (s := 0) (t := 1) (by omega); omega
    obtain ⟨hJ, hF⟩ := gF_eq ez (by omega) (fun t ht => absurd ht (Nat.not_lt_zero t))
    have hS : gS f A = 0 := by
      unfold gS
      rw [hF, show sm (dS f A) 0 = 0 from rfl]
    have hP : gPr f A = 0 := by
      unfold gPr
      rw [if_pos (show dS f A 23 = 0 from hJ), hF, hS]
    rw [if_pos (show nI (i_pc A) ≤ 1 from nI_le (b := 1) c1 (by omega)), ez, ez1]
    obtain ⟨υ, p1, p2, p3, p4, p5⟩ := c_pr_end (σ := τ) (cs := cs) (N := N) (T := 0) (s := 0) (by omega) (by omega)
    refine ⟨υ, 0, w1.tr p1, by rw [p2]; exact hg, fun _ => ⟨hP.symm, fun _ => ⟨by rw [p3, hF], by rw [p4, hS]⟩⟩, fun h => by rw [hP] at h; exact h, by omega, ?_⟩
    obtain ⟨N', hN'⟩ : ∃ q, N = q + 1 := ⟨N - 1, by unfold iv_N at hN; omega⟩
    have : g107_38 N (N' + 1) 29 r A (nI L) (nI (i_pc A)) (nI 0) (nI 0) 0 (hp τ, cs) = some (.inl (some (.int (nI 0))), (hp υ, cs)) := by
      unfold g107_38
      rw [if_neg (by decide), if_pos (by decide)]
      exact p5
    rw [← hN'] at this
    exact this
  · rw [if_neg (show ¬ nI (i_pc A) ≤ 1 from nI_ge (a := 1) (by omega) (by omega))]
    obtain ⟨υ, p, p1, p2, p3, p4, p5, p6⟩ := c_pr_loop (cs := cs) (N := N) (L := L) (f := f) hr hr0 hA hN hL 23 1 N τ (by omega) (by unfold iv_N at hN; omega) (by omega) he (fun t ht => by
      rw [show t = 0 by omega, e0]
      have : 1 ≤ i_pc A * (i_pc A - 1) := Nat.mul_pos (by omega) (by omega)
      omega) (fun q => by omega) hb hg
    have e1 : sm (dS f A) 1 = dS f A 0 := by show 0 + dS f A 0 = _; omega
    rw [e1] at p6
    exact ⟨υ, p, w1.tr p1, p2, p3, p4, p5, p6⟩
end PC
