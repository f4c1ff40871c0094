/-! traces by the class, walks by the model -/
section TR
variable {cs : Nat × Nat} {N n : Nat} {f : Nat → Int32}
theorem c_ti1 {v : Nat} {x1 : Nat} {x2 : Int32} {k8 : Nat → Nat → Int32 → Int32 → Int32 → lf_W → lf_R} (hn : n ≤ 24) (hv : v < n) : ∀ (m u9 u : Nat) (σ : hp_S), u9 + m = n → m < u → ∃ τ, fr [38, 39] [] σ τ ∧ (∀ t, u9 ≤ t → t < n → τ.2.1 (ur (σ.2.2.2 37 0)) (24 * v + t) = if v = t then 1 else 0) ∧ (∀ j, (j < 24 * v + u9 ∨ 24 * v + n ≤ j) → τ.2.1 (ur (σ.2.2.2 37 0)) j = σ.2.1 (ur (σ.2.2.2 37 0)) j) ∧ g69_17 N k8 u 37 x1 x2 (nI n) (nI v) (nI u9) (hp σ, cs) = k8 37 x1 x2 (nI n) (nI (v + 1)) (hp τ, cs) := by
  intro m
  induction m with
  | zero =>
    intro u9 u σ hu9 hu
    obtain ⟨u, rfl⟩ : ∃ q, u = q + 1 := ⟨u - 1, by omega⟩
    refine ⟨σ, fr.rf, fun t q1 q2 => by omega, fun _ _ => rfl, ?_⟩
    unfold g69_17
    rw [if_pos (nI_le (by omega) (by omega)), nI_1]
  | succ m ih =>
    intro u9 u σ hu9 hu
    obtain ⟨u, rfl⟩ : ∃ q, u = q + 1 := ⟨u - 1, by omega⟩
    obtain ⟨τ, q1, q2, q3, q4⟩ := ih (u9 + 1) u (hp_wl σ (ur (σ.2.2.2 37 0)) (24 * v + u9) (if v = u9 then 1 else 0)) (by omega) (by omega)
    have e2 : (hp_wl σ (ur (σ.2.2.2 37 0)) (24 * v + u9) (if v = u9 then 1 else 0)).2.2.2 = σ.2.2.2 := rfl
    rw [e2] at q2 q3
    refine ⟨τ, (fr.wl (ur_in _)).tr q1, fun t t1 t2 => ?_, fun j hj => ?_, ?_⟩
    · by_cases c : t = u9
      · rw [c, q3 _ (by omega), hp_wl_at]
      · exact q2 t (by omega) t2
    · rw [q3 j (by omega), hp_wl_nj (by omega)]
    · unfold g69_17 g69_47
      rw [if_neg (nI_ge (by omega) (by omega)), uPow, ix_b]
      by_cases c : v = u9
      · rw [if_neg (fun q => q (by rw [c])), wrL (lay_ur _) (by omega) (by omega), nI_1]
        rw [if_pos c] at q4
        exact q4
      · rw [if_pos (by rw [q_eq (by omega) (by omega)]; exact c), wrL (lay_ur _) (by omega) (by omega), nI_1]
        rw [if_neg c] at q4
        exact q4
theorem c_ti2 {x1 : Nat} {x2 : Int32} (hn : n ≤ 24) (hN : iv_N N) : ∀ (m v u : Nat) (σ : hp_S), v + m = n → m < u → (∀ a b, a < v → b < n → σ.2.1 (ur (σ.2.2.2 37 0)) (24 * a + b) = MP f 0 a b) → ∃ τ, fr [38, 39] [] σ τ ∧ (∀ a b, a < n → b < n → τ.2.1 (ur (τ.2.2.2 37 0)) (24 * a + b) = MP f 0 a b) ∧ g69_8 N u 37 x1 x2 (nI n) (nI v) (hp σ, cs) = g69_63 N N 37 x1 x2 (nI n) (nI 0) (hp τ, cs) := by
  intro m
  induction m with
  | zero =>
    intro v u σ hv hu hh
    obtain ⟨u, rfl⟩ : ∃ q, u = q + 1 := ⟨u - 1, by omega⟩
    refine ⟨σ, fr.rf, fun a b ha hb => hh a b (by omega) hb, ?_⟩
    unfold g69_8
    rw [if_pos (nI_le (by omega) (by omega))]
    rfl
  | succ m ih =>
    intro v u σ hv hu hh
    obtain ⟨u, rfl⟩ : ∃ q, u = q + 1 := ⟨u - 1, by omega⟩
    obtain ⟨τ, q1, q2, q3, q4⟩ := c_ti1 (N := N) (cs := cs) (v := v) (x1 := x1) (x2 := x2) (k8 := g69_8 N u) hn (by omega) n 0 N σ (by omega) (by unfold iv_N at hN; omega)
    have eg : τ.2.2.2 37 0 = σ.2.2.2 37 0 := q1.g List.not_mem_nil
    obtain ⟨υ, p1, p2, p3⟩ := ih (v + 1) u τ (by omega) (by omega) (fun a b ha hb => by
      rw [eg]
      by_cases c : a = v
      · rw [c, q2 b (by omega) hb]
        rfl
      · rw [q3 _ (by omega)]
        exact hh a b (by omega) hb)
    refine ⟨υ, q1.tr p1, p2, ?_⟩
    unfold g69_8
    rw [if_neg (nI_ge (by omega) (by omega)), show (0 : Int32) = nI 0 from rfl, q4]
    exact p3
theorem c_tr {s k : Nat} (hs : s < 8) (hn : n ≤ 24) (hw : gw f n) (hN : iv_N N) (hk : k ≤ 12) : ∀ (m h u : Nat) (σ : hp_S), 2 * h + 2 * m = 14 → m < u → σ.2.2.2 37 0 = σ.2.2.2 37 1 → σ.2.2.1 (2 + 2 * s) 1 = nI n → (∀ k, k < 24 → σ.1 (3 + 2 * s) k = f k) → (∀ a b, a < n → b < n → (2 * h ≤ k → σ.2.1 (ur (σ.2.2.2 37 0)) (24 * a + b) = MP f h a b)) → (∀ i, i < 2 * h → i ≤ k → σ.2.1 40 i = tR f n i) → ∃ τ, fr [38, 39, 40] [(37, 0), (37, 1)] σ τ ∧ τ.2.2.2 37 0 = τ.2.2.2 37 1 ∧ (∀ i, i ≤ k → τ.2.1 40 i = tR f n i) ∧ g69_63 N u 37 (2 + 2 * s) (nI k) (nI n) (nI (2 * h)) (hp σ, cs) = some (.inl none, (hp τ, cs)) := by
  intro m
  induction m with
  | zero =>
    intro h u σ hh hu hsw e ef hp' ht
    obtain ⟨u, rfl⟩ : ∃ q, u = q + 1 := ⟨u - 1, by omega⟩
    refine ⟨σ, fr.rf, hsw, fun i hi => ht i (by omega) hi, ?_⟩
    unfold g69_63
    rw [if_pos (nI_lt (by omega) (by omega))]
  | succ m ih =>
    intro h u σ hh hu hsw e ef hp' ht
    obtain ⟨u, rfl⟩ : ∃ q, u = q + 1 := ⟨u - 1, by omega⟩
    by_cases c : k < 2 * h
    · refine ⟨σ, fr.rf, hsw, fun i hi => ht i (by omega) hi, ?_⟩
      unfold g69_63
      rw [if_pos (nI_lt c (by omega))]
    · have hP := fun a b ha hb => hp' a b ha hb (by omega)
      have s1 := c_sop (σ := σ) (cs := cs) (N := N) (o := ur (σ.2.2.2 37 0)) (a := h) (b := h) hn hw hN (lay_ur _) hP hP
      have wt : ∀ (ρ : hp_S) (j : Nat) (y : Int64) (g : lf_W → lf_R), j < 13 → (lf_wl (hp ρ, cs) 40 (nI j) y).bind g = g (hp (hp_wl ρ 40 j y), cs) := fun ρ j y g hj => b40 hj
      have pre : g69_63 N (u + 1) 37 (2 + 2 * s) (nI k) (nI n) (nI (2 * h)) (hp σ, cs) = if nI k ≤ nI (2 * h) then (g69_63 N u 37 (2 + 2 * s) (nI k) (nI n) (nI (2 * h + 2)) (hp (hp_wl σ 40 (2 * h) (tR f n (2 * h))), cs)) else (if 12 ≤ nI (2 * h) then (g69_63 N u 37 (2 + 2 * s) (nI k) (nI n) (nI (2 * h + 2)) (hp (hp_wl σ 40 (2 * h) (tR f n (2 * h))), cs)) else (if lf_is (hp (hp_wl σ 40 (2 * h) (tR f n (2 * h))), cs) 37 6 = true then (lf_cv (f71 N 37 (2 + 2 * s) (hp (hp_wl σ 40 (2 * h) (tR f n (2 * h))), cs)) fun w18 => (lf_fr w18 37 6 2).bind fun v24 => (lf_fr w18 37 6 1).bind fun v26 => if lf_is w18 37 6 = true then (lf_cl (f70 N 37 (nI n) v26 w18) fun v34 w28 => (lf_wl w28 v24 (nI (2 * h) + 1) v34).bind fun w35 => (lf_fr w35 37 6 0).bind fun v37 => (lf_fr w35 37 6 1).bind fun v39 => (lf_wf w35 37 6 0 2 (.ref v39)).bind fun w41 => (lf_wf w41 37 6 1 2 (.ref v37)).bind fun w43 => g69_63 N u 37 (2 + 2 * s) (nI k) (nI n) (nI (2 * h + 2)) w43) else none) else none)) := by
        rw [g69_63]
        unfold g69_148
        rw [if_neg (nI_nlt (by omega) (by omega)), if_neg (show ¬ (12 : Int32) < nI (2 * h) from nI_nlt (a := 12) (by omega) (by omega)), r37_2, uPow, o37, s1, lf_cl_r, show h + h = 2 * h by omega, wt _ _ _ _ (by omega), show nI (2 * h) + 2 = nI (2 * h + 2) from nI_add (2 * h) 2]
      have t1 : ∀ i, i < 2 * h + 1 → i ≤ k → (hp_wl σ 40 (2 * h) (tR f n (2 * h))).2.1 40 i = tR f n i := by
        intro i hi hik
        by_cases q : i = 2 * h
        · rw [q, hp_wl_at]
        · rw [hp_wl_nj q]; exact ht i (by omega) hik
      have w0 : fr [38, 39, 40] [(37, 0), (37, 1)] σ (hp_wl σ 40 (2 * h) (tR f n (2 * h))) := fr.wl (by decide)
      by_cases c2 : k ≤ 2 * h
      · obtain ⟨τ, q1, q2, q3, q4⟩ := ih (h + 1) u (hp_wl σ 40 (2 * h) (tR f n (2 * h))) (by omega) (by omega) hsw e ef (fun a b ha hb q => by omega) (fun i hi hik => t1 i (by omega) hik)
        refine ⟨τ, w0.tr q1, q2, q3, ?_⟩
        rw [pre, if_pos (nI_le c2 (by omega))]
        exact q4
      · obtain ⟨τ, q1, q2, q3, q4⟩ := c_mu3 (N := N) (cs := cs) (f := f) (h := h) hs hn hw hN n 0 N (hp_wl σ 40 (2 * h) (tR f n (2 * h))) (by omega) (by unfold iv_N at hN; omega) hsw ef (fun a b ha hb => by
          show (hp_wl σ 40 (2 * h) (tR f n (2 * h))).2.1 (ur (σ.2.2.2 37 0)) (24 * a + b) = _
          rw [hp_wl_ne (by have := ur_o (σ.2.2.2 37 0); omega)]
          exact hP a b ha hb) (fun a b ha => absurd ha (Nat.not_lt_zero a))
        have e2 : (hp_wl σ 40 (2 * h) (tR f n (2 * h))).2.2.2 = σ.2.2.2 := rfl
        rw [e2] at q2 q3
        have eg0 : τ.2.2.2 37 0 = σ.2.2.2 37 0 := q1.g List.not_mem_nil
        have eg1 : τ.2.2.2 37 1 = σ.2.2.2 37 0 := by rw [q1.g List.not_mem_nil]; exact hsw.symm
        have s2 := c_sop (σ := τ) (cs := cs) (N := N) (o := ux (σ.2.2.2 37 0)) (a := h) (b := h + 1) hn hw hN (lay_ux _) (fun a b ha hb => by
          rw [eg0, q2, hp_wl_ne (by have := ur_o (σ.2.2.2 37 0); omega)]
          exact hP a b ha hb) q3
        have et : ∀ (a k : Nat) (y : Int64) (ρ : hp_S), (hp_wg ρ a k y).2.2.2 a k = y := by
          intro a k y ρ
          show hp_up ρ.2.2.2 a k y a k = y
          unfold hp_up
          rw [if_pos ⟨rfl, rfl⟩]
        have e4 : ∀ (ρ : hp_S) (y : Int64), (hp_wg (hp_wg ρ 37 0 y) 37 1 y).2.2.2 37 0 = y := by
          intro ρ y
          show hp_up (hp_wg ρ 37 0 y).2.2.2 37 1 y 37 0 = _
          unfold hp_up
          rw [if_neg (by decide)]
          exact et _ _ _ _
        have w1 : fr [38, 39, 40] [(37, 0), (37, 1)] σ (hp_wg (hp_wg (hp_wl τ 40 (2 * h + 1) (tR f n (2 * h + 1))) 37 0 (tog (σ.2.2.2 37 0))) 37 1 (tog (σ.2.2.2 37 0))) := ((((w0.tr (q1.wk (fun _ z => by simp at z; rcases z with z | z <;> simp [z]) (fun _ z => absurd z List.not_mem_nil))).tr (fr.wl (by decide))).tr (fr.wg (by decide))).tr (fr.wg (by decide)))
        obtain ⟨υ, p1, p2, p3, p4⟩ := ih (h + 1) u (hp_wg (hp_wg (hp_wl τ 40 (2 * h + 1) (tR f n (2 * h + 1))) 37 0 (tog (σ.2.2.2 37 0))) 37 1 (tog (σ.2.2.2 37 0))) (by omega) (by omega) ((e4 _ _).trans (et _ _ _ _).symm) (by rw [w1.f (by simp; omega)]; exact e) (fun j hj => by rw [w1.r (by simp; omega)]; exact ef j hj) (fun a b ha hb _ => by
          rw [e4, ur_tog]
          show (hp_wl τ 40 (2 * h + 1) (tR f n (2 * h + 1))).2.1 (ux (σ.2.2.2 37 0)) (24 * a + b) = _
          rw [hp_wl_ne (by have := ux_o (σ.2.2.2 37 0); omega)]
          exact q3 a b ha hb) (fun i hi hik => by
          show (hp_wl τ 40 (2 * h + 1) (tR f n (2 * h + 1))).2.1 40 i = _
          by_cases q : i = 2 * h + 1
          · rw [q, hp_wl_at]
          · rw [hp_wl_nj q, q1.l (by decide)]
            exact t1 i (by omega) hik)
        refine ⟨υ, w1.tr p1, p2, p3, ?_⟩
        have f71e : f71 N 37 (2 + 2 * s) (hp (hp_wl σ 40 (2 * h) (tR f n (2 * h))), cs) = some (.inl none, (hp τ, cs)) := by
          unfold f71
          rw [sN_1 hs, show (hp_wl σ 40 (2 * h) (tR f n (2 * h))).2.2.1 (2 + 2 * s) 1 = nI n from e, show (0 : Int32) = nI 0 from rfl]
          exact q4
        rw [pre, if_neg (nI_ge (by omega) (by omega)), if_neg (show ¬ (12 : Int32) ≤ nI (2 * h) from nI_ge (b := 12) (by omega) (by omega)), o37, f71e, lf_cv_r, r37_2, uHi, eg1, o37, s2, lf_cl_r, nI_1, show h + (h + 1) = 2 * h + 1 by omega, wt _ _ _ _ (by omega), uPow, uHi]
        rw [show (hp_wl τ 40 (2 * h + 1) (tR f n (2 * h + 1))).2.2.2 37 0 = σ.2.2.2 37 0 from eg0, show (hp_wl τ 40 (2 * h + 1) (tR f n (2 * h + 1))).2.2.2 37 1 = σ.2.2.2 37 0 from eg1]
        rw [hp_sws (a := 37) (k := 0) (p := 38) (y := tog (σ.2.2.2 37 0)) rfl rfl rfl (by
          show ux (σ.2.2.2 37 0) = ur (tog (σ.2.2.2 37 0))
          exact (ur_tog _).symm), Option.bind_some, hp_sws (a := 37) (k := 1) (p := 39) (y := tog (σ.2.2.2 37 0)) rfl rfl rfl (by
          show ur (σ.2.2.2 37 0) = ux (tog (σ.2.2.2 37 0))
          unfold ur ux tog
          by_cases h : σ.2.2.2 37 0 = 0
          · rw [if_pos h, if_pos h]; rfl
          · rw [if_neg h, if_neg h]; rfl), Option.bind_some]
        exact p4
/-- trace -/
theorem c_trace {σ : hp_S} {s k : Nat} (hs : s < 8) (hn : n ≤ 24) (hw : gw f n) (hN : iv_N N) (hk : k ≤ 12) (hsw : σ.2.2.2 37 0 = σ.2.2.2 37 1) (e : σ.2.2.1 (2 + 2 * s) 1 = nI n) (ef : ∀ k, k < 24 → σ.1 (3 + 2 * s) k = f k) : ∃ τ, fr [38, 39, 40] [(37, 0), (37, 1)] σ τ ∧ τ.2.2.2 37 0 = τ.2.2.2 37 1 ∧ (∀ i, i ≤ k → τ.2.1 40 i = tR f n i) ∧ f69 N 37 (2 + 2 * s) (nI k) (hp σ, cs) = some (.inl none, (hp τ, cs)) := by
  obtain ⟨τ, q1, q2, q3⟩ := c_ti2 (N := N) (cs := cs) (f := f) (x1 := 2 + 2 * s) (x2 := nI k) hn hN n 0 N σ (by omega) (by unfold iv_N at hN; omega) (fun a _ ha => absurd ha (Nat.not_lt_zero a))
  obtain ⟨υ, p1, p2, p3, p4⟩ := c_tr (N := N) (cs := cs) (f := f) (s := s) (k := k) hs hn hw hN hk 7 0 N τ (by omega) (by unfold iv_N at hN; omega) (by rw [q1.g List.not_mem_nil, q1.g List.not_mem_nil]; exact hsw) (by rw [q1.f List.not_mem_nil]; exact e) (fun j hj => by rw [q1.r (by simp; omega)]; exact ef j hj) (fun a b ha hb _ => q2 a b ha hb) (fun i hi => absurd hi (Nat.not_lt_zero i))
  refine ⟨υ, (q1.wk (fun _ z => by simp at z; rcases z with z | z <;> simp [z]) (fun _ z => absurd z List.not_mem_nil)).tr p1, p2, p3, ?_⟩
  unfold f69
  rw [sN_1 hs, e, show (0 : Int32) = nI 0 from rfl, q3]
  exact p4
/-! the model's walks -/
theorem m_wv {x2 x6 : Int32} {x3 : Int64} {a fr9 z : Nat} {k30 : Nat → Int32 → Int64 → Int32 → lf_W → lf_R} {k79 : Nat → Int32 → Int64 → Int32 → Int32 → lf_W → lf_R} {k88 : Nat → Int32 → Int64 → Int32 → Int32 → Int32 → lf_W → lf_R} (hn : n ≤ 24) (ha : a < n) : ∀ (m b u : Nat) (σ : hp_S), b + m = n → m < u → σ.2.2.1 72 4 = nI n → (∀ j, j < 24 → σ.1 76 j = f j) → (∀ j, j < n → σ.2.1 88 j = MP f z j fr9) → ∃ τ, fr [89] [] σ τ ∧ τ.2.1 89 a = lf9 (fun w => MP f z w fr9) ((List.range' b m).filter (fun w => bt (f a) w)) (σ.2.1 89 a) ∧ (∀ j, j ≠ a → τ.2.1 89 j = σ.2.1 89 j) ∧ g236_108 N k30 k79 k88 u 72 x2 x3 (nI fr9) x6 (nI a) (nI b) (hp σ, cs) = k88 72 x2 x3 (nI fr9) x6 (nI (a + 1)) (hp τ, cs) := by
  intro m
  induction m with
  | zero =>
    intro b u σ hb hu e ef hd
    obtain ⟨u, rfl⟩ : ∃ q, u = q + 1 := ⟨u - 1, by omega⟩
    refine ⟨σ, fr.rf, rfl, fun _ _ => rfl, ?_⟩
    unfold g236_108
    rw [i72_4, e, if_pos (nI_le (by omega) (by omega)), nI_1]
  | succ m ih =>
    intro b u σ hb hu e ef hd
    obtain ⟨u, rfl⟩ : ∃ q, u = q + 1 := ⟨u - 1, by omega⟩
    rw [List.range'_succ]
    by_cases c : bt (f a) b = true
    · obtain ⟨τ, q1, q2, q3, q4⟩ := ih (b + 1) u (hp_wl σ 89 a (σ.2.1 89 a + MP f z b fr9)) (by omega) (by omega) e ef (fun j hj => by rw [hp_wl_ne (by decide)]; exact hd j hj)
      rw [hp_wl_at] at q2
      refine ⟨τ, (fr.wl (by decide)).tr q1, ?_, fun j hj => by rw [q3 j hj, hp_wl_nj hj], ?_⟩
      · rw [q2, List.filter_cons_of_pos (p := fun w => bt (f a) w) c, lf9_cons]
      · rw [g236_108]
        unfold g236_145
        rw [i72_4, e, if_neg (nI_ge (by omega) (by omega)), o72, m_joined (by omega) (by omega), ef a (by omega), if_pos c, lf_ci_r, if_neg (by decide), r72_33, a89 (by omega), r72_32, a88 (by omega), hd b (by omega), b89 (by omega), nI_1]
        exact q4
    · obtain ⟨τ, q1, q2, q3, q4⟩ := ih (b + 1) u σ (by omega) (by omega) e ef hd
      refine ⟨τ, q1, ?_, q3, ?_⟩
      · rw [q2, List.filter_cons_of_neg (p := fun w => bt (f a) w) c]
      · rw [g236_108]
        unfold g236_145
        rw [i72_4, e, if_neg (nI_ge (by omega) (by omega)), o72, m_joined (by omega) (by omega), ef a (by omega), if_neg c, lf_ci_r, if_pos rfl, nI_1]
        exact q4
theorem m_wc {x2 x6 : Int32} {x3 : Int64} {fr9 z : Nat} {k30 : Nat → Int32 → Int64 → Int32 → lf_W → lf_R} {k79 : Nat → Int32 → Int64 → Int32 → Int32 → lf_W → lf_R} (hn : n ≤ 24) : ∀ (m a u : Nat) (σ : hp_S), a + m = n → m < u → σ.2.2.1 72 4 = nI n → (∀ j, j < n → σ.2.1 89 j = MP f z j fr9) → (∀ j, j < a → σ.2.1 88 j = MP f z j fr9) → ∃ τ, fr [88] [] σ τ ∧ (∀ j, j < n → τ.2.1 88 j = MP f z j fr9) ∧ g236_160 N k30 k79 u 72 x2 x3 (nI fr9) x6 (nI a) (hp σ, cs) = k79 72 x2 x3 (nI fr9) (x6 + 1) (hp τ, cs) := by
  intro m
  induction m with
  | zero =>
    intro a u σ ha hu e h1 h2
    obtain ⟨u, rfl⟩ : ∃ q, u = q + 1 := ⟨u - 1, by omega⟩
    refine ⟨σ, fr.rf, fun j hj => h2 j (by omega), ?_⟩
    unfold g236_160
    rw [i72_4, e, if_pos (nI_le (by omega) (by omega))]
  | succ m ih =>
    intro a u σ ha hu e h1 h2
    obtain ⟨u, rfl⟩ : ∃ q, u = q + 1 := ⟨u - 1, by omega⟩
    obtain ⟨τ, q1, q2, q3⟩ := ih (a + 1) u (hp_wl σ 88 a (MP f z a fr9)) (by omega) (by omega) e (fun j hj => by rw [hp_wl_ne (by decide)]; exact h1 j hj) (fun j hj => by
      by_cases c : j = a
      · rw [c, hp_wl_at]
      · rw [hp_wl_nj c]; exact h2 j (by omega))
    refine ⟨τ, (fr.wl (by decide)).tr q1, q2, ?_⟩
    unfold g236_160
    rw [i72_4, e, if_neg (nI_ge (by omega) (by omega)), r72_32, r72_33, a89 (by omega), h1 a (by omega), b88 (by omega), nI_1]
    exact q3
theorem m_wb {x2 x6 : Int32} {x3 : Int64} {fr9 z : Nat} {k30 : Nat → Int32 → Int64 → Int32 → lf_W → lf_R} {k79 : Nat → Int32 → Int64 → Int32 → Int32 → lf_W → lf_R} (hn : n ≤ 24) (hw : gw f n) (hN : iv_N N) : ∀ (m a u : Nat) (σ : hp_S), a + m = n → m < u → σ.2.2.1 72 4 = nI n → (∀ j, j < 24 → σ.1 76 j = f j) → (∀ j, j < n → σ.2.1 88 j = MP f z j fr9) → (∀ j, j < a → σ.2.1 89 j = MP f (z + 1) j fr9) → ∃ τ, fr [88, 89] [] σ τ ∧ (∀ j, j < n → τ.2.1 88 j = MP f (z + 1) j fr9) ∧ g236_88 N k30 k79 u 72 x2 x3 (nI fr9) x6 (nI a) (hp σ, cs) = k79 72 x2 x3 (nI fr9) (x6 + 1) (hp τ, cs) := by
  intro m
  induction m with
  | zero =>
    intro a u σ ha hu e ef h1 h2
    obtain ⟨u, rfl⟩ : ∃ q, u = q + 1 := ⟨u - 1, by omega⟩
    obtain ⟨τ, q1, q2, q3⟩ := m_wc (N := N) (cs := cs) (f := f) (x2 := x2) (x6 := x6) (x3 := x3) (fr9 := fr9) (z := z + 1) (k30 := k30) (k79 := k79) hn n 0 N σ (by omega) (by unfold iv_N at hN; omega) e (fun j hj => h2 j (by omega)) (fun j hj => absurd hj (Nat.not_lt_zero j))
    refine ⟨τ, q1.wk (fun _ z => by simp at z; simp [z]) (fun _ z => z), q2, ?_⟩
    unfold g236_88
    rw [i72_4, e, if_pos (nI_le (by omega) (by omega)), show (0 : Int32) = nI 0 from rfl]
    exact q3
  | succ m ih =>
    intro a u σ ha hu e ef h1 h2
    obtain ⟨u, rfl⟩ : ∃ q, u = q + 1 := ⟨u - 1, by omega⟩
    obtain ⟨τ, q1, q2, q3, q4⟩ := m_wv (N := N) (cs := cs) (f := f) (x2 := x2) (x6 := x6) (x3 := x3) (a := a) (fr9 := fr9) (z := z) (k30 := k30) (k79 := k79) (k88 := g236_88 N k30 k79 u) hn (by omega) n 0 N (hp_wl σ 89 a 0) (by omega) (by unfold iv_N at hN; omega) e ef (fun j hj => by rw [hp_wl_ne (by decide)]; exact h1 j hj)
    rw [hp_wl_at, ← bl_n (x := f a) (n := n) (by omega) (fun i q => (hw a (by omega) i q).2.1)] at q2
    obtain ⟨υ, p1, p2, p3⟩ := ih (a + 1) u τ (by omega) (by omega) (by rw [q1.f List.not_mem_nil]; exact e) (fun j hj => by rw [q1.r (by decide)]; exact ef j hj) (fun j hj => by rw [q1.l (by decide), hp_wl_ne (by decide)]; exact h1 j hj) (fun j hj => by
      by_cases c : j = a
      · rw [c, q2]
        rfl
      · rw [q3 j c, hp_wl_nj c]; exact h2 j (by omega))
    refine ⟨υ, ((fr.wl (by decide)).tr (q1.wk (fun _ z => by simp at z; simp [z]) (fun _ z => z))).tr p1, p2, ?_⟩
    unfold g236_88
    rw [i72_4, e, if_neg (nI_ge (by omega) (by omega)), r72_33, b89 (by omega), show (0 : Int32) = nI 0 from rfl, q4]
    exact p3
theorem m_wz {k fr9 : Nat} {x3 : Int64} {k30 : Nat → Int32 → Int64 → Int32 → lf_W → lf_R} (hk : k ≤ 12) (hn : n ≤ 24) (hw : gw f n) (hN : iv_N N) (hf9 : fr9 < n) : ∀ (m z u : Nat) (σ : hp_S), z + m = k → m < u → σ.2.2.1 72 4 = nI n → (∀ j, j < 24 → σ.1 76 j = f j) → (∀ j, j < n → σ.2.1 88 j = MP f z j fr9) → ∃ τ, fr [88, 89] [] σ τ ∧ g236_79 N k30 u 72 (nI k) x3 (nI fr9) (nI z) (hp σ, cs) = k30 72 (nI k) (x3 + MP f k fr9 fr9) (nI (fr9 + 1)) (hp τ, cs) := by
  intro m
  induction m with
  | zero =>
    intro z u σ hz hu e ef h1
    obtain ⟨u, rfl⟩ : ∃ q, u = q + 1 := ⟨u - 1, by omega⟩
    refine ⟨σ, fr.rf, ?_⟩
    unfold g236_79
    rw [if_pos (nI_le (by omega) (by omega)), r72_32, a88 (by omega), h1 fr9 hf9, show z = k by omega, nI_1]
  | succ m ih =>
    intro z u σ hz hu e ef h1
    obtain ⟨u, rfl⟩ : ∃ q, u = q + 1 := ⟨u - 1, by omega⟩
    obtain ⟨τ, q1, q2, q3⟩ := m_wb (N := N) (cs := cs) (f := f) (x2 := nI k) (x6 := nI z) (x3 := x3) (fr9 := fr9) (z := z) (k30 := k30) (k79 := g236_79 N k30 u) hn hw hN n 0 N σ (by omega) (by unfold iv_N at hN; omega) e ef h1 (fun j hj => absurd hj (Nat.not_lt_zero j))
    obtain ⟨υ, p1, p2⟩ := ih (z + 1) u τ (by omega) (by omega) (by rw [q1.f List.not_mem_nil]; exact e) (fun j hj => by rw [q1.r (by decide)]; exact ef j hj) q2
    refine ⟨υ, q1.tr p1, ?_⟩
    unfold g236_79
    rw [if_neg (nI_ge (by omega) (by omega)), show (0 : Int32) = nI 0 from rfl, q3, nI_1]
    exact p2
theorem m_wi {x2 : Int32} {x3 : Int64} {fr9 : Nat} {k30 : Nat → Int32 → Int64 → Int32 → lf_W → lf_R} (hn : n ≤ 24) (hf9 : fr9 < n) : ∀ (m a u : Nat) (σ : hp_S), a + m = n → m < u → σ.2.2.1 72 4 = nI n → (∀ j, j < a → σ.2.1 88 j = MP f 0 j fr9) → ∃ τ, fr [88] [] σ τ ∧ (∀ j, j < n → τ.2.1 88 j = MP f 0 j fr9) ∧ g236_42 N k30 u 72 x2 x3 (nI fr9) (nI a) (hp σ, cs) = g236_79 N k30 N 72 x2 x3 (nI fr9) (nI 0) (hp τ, cs) := by
  intro m
  induction m with
  | zero =>
    intro a u σ ha hu e h1
    obtain ⟨u, rfl⟩ : ∃ q, u = q + 1 := ⟨u - 1, by omega⟩
    refine ⟨σ, fr.rf, fun j hj => h1 j (by omega), ?_⟩
    unfold g236_42
    rw [i72_4, e, if_pos (nI_le (by omega) (by omega))]
    rfl
  | succ m ih =>
    intro a u σ ha hu e h1
    obtain ⟨u, rfl⟩ : ∃ q, u = q + 1 := ⟨u - 1, by omega⟩
    obtain ⟨τ, q1, q2, q3⟩ := ih (a + 1) u (hp_wl σ 88 a (MP f 0 a fr9)) (by omega) (by omega) e (fun j hj => by
      by_cases c : j = a
      · rw [c, hp_wl_at]
      · rw [hp_wl_nj c]; exact h1 j (by omega))
    refine ⟨τ, (fr.wl (by decide)).tr q1, q2, ?_⟩
    unfold g236_42 g236_69
    rw [i72_4, e, if_neg (nI_ge (by omega) (by omega)), r72_32]
    by_cases c : a = fr9
    · rw [if_neg (fun q => q (by rw [c])), b88 (by omega), nI_1]
      rw [show MP f 0 a fr9 = 1 by show (if a = fr9 then (1 : Int64) else 0) = 1; rw [if_pos c]] at q3
      exact q3
    · rw [if_pos (by rw [q_eq (by omega) (by omega)]; exact c), b88 (by omega), nI_1]
      rw [show MP f 0 a fr9 = 0 by show (if a = fr9 then (1 : Int64) else 0) = 0; rw [if_neg c]] at q3
      exact q3
theorem m_wf {k : Nat} (hk : k ≤ 12) (hn : n ≤ 24) (hw : gw f n) (hN : iv_N N) : ∀ (m a u : Nat) (acc : Int64) (σ : hp_S), a + m = n → m < u → σ.2.2.1 72 4 = nI n → (∀ j, j < 24 → σ.1 76 j = f j) → ∃ τ, fr [88, 89] [] σ τ ∧ g236_30 N u 72 (nI k) acc (nI a) (hp σ, cs) = some (.inl (some (.long (acc + lS (fun i => MP f k (a + i) (a + i)) m))), (hp τ, cs)) := by
  intro m
  induction m with
  | zero =>
    intro a u acc σ ha hu e ef
    obtain ⟨u, rfl⟩ : ∃ q, u = q + 1 := ⟨u - 1, by omega⟩
    refine ⟨σ, fr.rf, ?_⟩
    unfold g236_30
    rw [i72_4, e, if_pos (nI_le (by omega) (by omega))]
    show _ = some (Sum.inl (some (Value.long (acc + 0))), _)
    rw [Int64.add_zero]
  | succ m ih =>
    intro a u acc σ ha hu e ef
    obtain ⟨u, rfl⟩ : ∃ q, u = q + 1 := ⟨u - 1, by omega⟩
    obtain ⟨τ, q1, q2, q3⟩ := m_wi (N := N) (cs := cs) (f := f) (x2 := nI k) (x3 := acc) (fr9 := a) (k30 := g236_30 N u) hn (by omega) n 0 N σ (by omega) (by unfold iv_N at hN; omega) e (fun j hj => absurd hj (Nat.not_lt_zero j))
    obtain ⟨υ, p1, p2⟩ := m_wz (N := N) (cs := cs) (f := f) (k := k) (fr9 := a) (x3 := acc) (k30 := g236_30 N u) hk hn hw hN (by omega) k 0 N τ (by omega) (by unfold iv_N at hN; omega) (by rw [q1.f List.not_mem_nil]; exact e) (fun j hj => by rw [q1.r (by decide)]; exact ef j hj) q2
    have w1 : fr [88, 89] [] σ υ := (q1.wk (fun _ z => by simp at z; simp [z]) (fun _ z => z)).tr p1
    obtain ⟨ω, z1, z2⟩ := ih (a + 1) u (acc + MP f k a a) υ (by omega) (by omega) (by rw [w1.f List.not_mem_nil]; exact e) (fun j hj => by rw [w1.r (by decide)]; exact ef j hj)
    refine ⟨ω, w1.tr z1, ?_⟩
    unfold g236_30
    rw [i72_4, e, if_neg (nI_ge (by omega) (by omega)), show (0 : Int32) = nI 0 from rfl, q3, p2, z2, lS_front, lS_congr (F := fun i => MP f k (a + 1 + i) (a + 1 + i)) (G := fun i => MP f k (a + (i + 1)) (a + (i + 1))) (fun i _ => by rw [show a + 1 + i = a + (i + 1) by omega]), Int64.add_assoc]
    rfl
end TR
theorem iv_sw.of37 {σ τ : hp_S} {A : List Nat} {F : List (Nat × Nat)} (h : iv_sw σ) (k : fr A F σ τ) (h1 : τ.2.2.2 37 0 = τ.2.2.2 37 1) (h2 : (61, 4) ∉ F) (h3 : (61, 5) ∉ F) (h4 : (29, 0) ∉ F) (h5 : (29, 1) ∉ F) : iv_sw τ := by
  refine ⟨?_, h1, ?_⟩
  · rw [k.g h4, k.g h5]; exact h.1
  · rw [k.g h2, k.g h3]; exact h.2.2
theorem case_walks {J : iv_J} {rd : iv_rd} {N : Nat} (hN : iv_N N) : iv_caseN J rd N g327_1331 := by
  intro sc i σ cs hs hi hI
  have key : ∃ (τ : hp_S) (ds : Nat × Nat), iv J τ ∧ ds.1 ≤ cs.1 + 1 ∧ ds.2 ≤ cs.2 + 6 ∧ ∀ k : lf_W → lf_R, tl_L (tc_L [("java/util/NoSuchElementException", 1), ("java/lang/IllegalArgumentException", 2)] (f146 N 0 (sc.2 (i + 1)) (sc.2 (i + 2)) (hp σ, cs))) (fun w => f236 N 72 (sc.2 (i + 1)) (sc.2 (i + 2)) w) k = k (hp τ, ds) := by
    generalize sc.2 (i + 1) = x
    generalize sc.2 (i + 2) = y
    refine askL (x := x) hI hN rfl (fun h => ?_) (fun σ' ds w h => ?_) (fun s n d f hs8 hx hg hv => ?_)
    · unfold f146
      rw [o0, c_held_no h]
      rfl
    · unfold f236
      rw [o72, h, lf_ci_r, if_pos rfl]
    · subst hx
      have hn1 := hg.1
      have hn := hg.2.1
      have hne : ¬ σ.2.2.1 (2 + 2 * s) 1 = 0 := by rw [hv.1]; exact nI_ne0 (by omega) (by omega)
      by_cases good : ¬ y < 0 ∧ ¬ 10 < y
      · obtain ⟨g1, g2⟩ := good
        obtain ⟨k, hk, rfl⟩ := nn_of g1
        have hk10 : k ≤ 10 := by
          have : ¬ nI 10 < nI k := g2
          rw [q_lt (by omega) hk] at this
          omega
        obtain ⟨τ, q1, q2, q3, q4⟩ := c_trace (σ := σ) (cs := cs) (N := N) (k := k) hs8 hn hg.2.2.2.2.1 hN (by omega) hI.2.2.2.2.2.2.2.2.1 hv.1 hv.2.2
        refine Or.inl ⟨tR f n k, τ, q1.keptS rfl rfl (fun h => h.of37 q1 q2 (by decide) (by decide) (by decide) (by decide)), ?_, fun σ' μ ds hm hl => ?_⟩
        · unfold f146 f65
          rw [o0, c_held hs8 hne, lf_cr_r, if_neg g1, if_pos (show nI k ≤ 10 from nI_le (b := 10) hk10 (by omega)), r0_6, o37, o37, q4, lf_cv_r, r37_2, a40 (by omega), q3 k (Nat.le_refl _), lf_cl_r]
        · obtain ⟨υ, p1, p2⟩ := m_wf (N := N) (cs := ds) (f := f) (k := k) (by omega) hn hg.2.2.2.2.1 hN n 0 N 0 μ (by omega) (by unfold iv_N at hN; omega) hm.1 hm.2.2.2
          refine ⟨υ, p1.kept rfl rfl, p1.l (by decide), by rw [p1.f List.not_mem_nil]; exact hm.2.2.1, ?_⟩
          show f236 N 72 (nI s) (nI k) (hp σ', ds) = _
          unfold f236
          rw [o72, hl, lf_ci_r, if_neg (by decide), m_within_in g1 g2, lf_ci_r, o72, m_rt hm.2.2.1 (by decide), lf_ci_r, if_pos (by decide), show (0 : Int32) = nI 0 from rfl, p2, Int64.zero_add]
          unfold tR
          rw [lS_congr (F := fun i => MP f k (0 + i) (0 + i)) (G := fun v => MP f k v v) (fun i _ => by rw [Nat.zero_add])]
      · refine Or.inr ⟨"java/lang/IllegalArgumentException", 2, σ, iv_kept.rf σ, by decide, rfl, ?_, fun σ' μ ds hm hl => ⟨hp_wf μ 72 0 2, 0, iv_kept.wm (by omega), hp_wf_at, ?_⟩⟩
        · unfold f146
          rw [o0, c_held hs8 hne, lf_cr_r]
          by_cases c1 : y < 0
          · rw [if_pos c1]
          rw [if_neg c1]
          by_cases c2 : 10 < y
          · rw [if_neg (fun q => by
              rw [fa_le] at q
              rw [fa_lt] at c2
              omega)]
          · exact absurd ⟨c1, c2⟩ good
        · show f236 N 72 (nI s) y (hp σ', ds) = _
          unfold f236
          rw [o72, hl, lf_ci_r, if_neg (by decide)]
          by_cases c1 : y < 0
          · rw [m_within_lo c1, lf_ci_r, o72, m_rf hm.2.2.1 (by decide), lf_ci_r, if_neg (fun q => q rfl)]
          by_cases c2 : 10 < y
          · rw [m_within_hi c2, lf_ci_r, o72, m_rf hm.2.2.1 (by decide), lf_ci_r, if_neg (fun q => q rfl)]
          · exact absurd ⟨c1, c2⟩ good
  obtain ⟨τ, ds, q1, q2, q3, q4⟩ := key
  refine ⟨τ, ds, q1, q2, q3, fun k23 => ?_⟩
  rw [← q4 (k23 (nI i + 6))]
  unfold g327_1331 h305 f305
  simp only [iv_s1 hs hi, iv_s2 hs hi, Option.bind_some, if_pos hp_x]
  rfl
