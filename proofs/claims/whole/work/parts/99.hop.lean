/-! the table filled, on both sides; case hop -/
theorem bal_endn {f : Nat → Int32} {n v s : Nat} (h1 : 1 ≤ n) (hn : n ≤ 24) (hv : v < n) (hs : n - 1 ≤ s) : bal f (al n) v s = bal f (al n) v (n - 1) := by
  refine bal_still ?_ s hs
  apply Classical.byContradiction
  intro q
  have e1 := bal_many (by omega) q n (by omega)
  have e2 := i_pc_max (x := bal f (al n) v n) (n := n) (by omega) (fun i q => bal_n24 hn hv q)
  omega
theorem gR_tr {f : Nat → Int32} {A : Int32} {s a x : Nat} (h : gR f A s a x) : ∀ {t b : Nat}, gR f A t x b → gR f A (s + t) a b
  | 0, b, q => by rw [← show x = b from q]; exact h
  | t + 1, b, q => by
    rcases q with q | ⟨u, q1, q2, q3⟩
    · exact Or.inl (gR_tr h q)
    · exact Or.inr ⟨u, gR_tr h q1, q2, q3⟩
theorem gd_n {f : Nat → Int32} {n v t : Nat} (h1 : 1 ≤ n) (hn : n ≤ 24) (hv : v < n) (h : gd f (al n) v t < 24) : gd f (al n) v t ≤ n - 1 := by
  have hq := fun s (hs : s < 24) => gd_lt_iff (f := f) (A := al n) (x := t) (v := v) (s := s) (by omega) hs
  generalize gd f (al n) v t = d at hq h ⊢
  apply Nat.le_of_not_lt
  intro q
  have a1 := (hq (n - 1) (by omega)).mp q
  refine a1 ?_
  rw [← bal_endn h1 hn hv (s := d) (by omega)]
  apply Classical.byContradiction
  intro r
  have := (hq d h).mpr r
  omega
/-- knot 0 reaches all: all reach all -/
theorem gJ_0 {f : Nat → Int32} {n : Nat} (h1 : 1 ≤ n) (hn : n ≤ 24) (hw : gw f n) : bal f (al n) 0 (n - 1) = al n ↔ dS f (al n) 23 = 0 := by
  have hf : ∀ a b, bt (al n) a = true → bt (al n) b = true → bt (f a) b = true → bt (f b) a = true := fun a b h1 h2 h3 => (hw a (by have := (al_in hn).mp h1; omega) b h3).2.2.2
  rw [dS_zero]
  constructor
  · intro h a b ha hb q1 q2
    have e0 : bt (al n) 0 = true := (al_in hn).mpr h1
    have r1 : gR f (al n) (n - 1) 0 a := (bal_bt (by omega)).mp (by rw [h]; exact q1)
    have r2 : gR f (al n) (n - 1) 0 b := (bal_bt (by omega)).mp (by rw [h]; exact q2)
    have r3 := gR_tr (gR_sym hf e0 r1) r2
    have r4 : bt (bal f (al n) a (n - 1 + (n - 1))) b = true := (bal_bt (by omega)).mpr r3
    have an : a < n := (al_in hn).mp q1
    rw [bal_endn h1 hn an (by omega)] at r4
    exact bal_mono (by omega) (by omega) r4
  · intro h
    refine b_eq (fun i => ⟨fun q => (al_in hn).mpr (bal_n24 hn h1 q), fun q => ?_⟩)
    have hi := (al_in hn).mp q
    have := h 0 i (by omega) (by omega) ((al_in hn).mpr h1) q
    rw [bal_endn h1 hn h1 (s := 23) (by omega)] at this
    exact this
section FI
variable {cs : Nat × Nat} {N s n : Nat} {f : Nat → Int32}
theorem c_fz {v : Nat} {X : Int32} (hv : v < 24) (hn : n ≤ 24) {k13 : Nat → Nat → Int32 → Int32 → Int32 → lf_W → lf_R} {p : Nat} : ∀ (m t u : Nat) (σ : hp_S), t + m = n → m < u → ∃ τ, fr [62] [] σ τ ∧ (∀ j, τ.1 62 j = if 24 * v + t ≤ j ∧ j < 24 * v + n then -1 else σ.1 62 j) ∧ g114_33 N k13 u 61 p (nI n) X (nI v) (nI t) (hp σ, cs) = k13 61 p (nI n) X (nI (v + 1)) (hp τ, cs) := by
  intro m
  induction m with
  | zero =>
    intro t u σ ht hu
    obtain ⟨u, rfl⟩ : ∃ q, u = q + 1 := ⟨u - 1, by omega⟩
    refine ⟨σ, fr.rf, fun j => by rw [if_neg (by omega)], ?_⟩
    unfold g114_33
    rw [if_pos (nI_le (by omega) (by omega)), nI_1]
  | succ m ih =>
    intro t u σ ht hu
    obtain ⟨u, rfl⟩ : ∃ q, u = q + 1 := ⟨u - 1, by omega⟩
    obtain ⟨τ, q1, q2, q3⟩ := ih (t + 1) u (hp_wi σ 62 (24 * v + t) (-1)) (by omega) (by omega)
    refine ⟨τ, (fr.wi (by decide)).tr q1, fun j => ?_, ?_⟩
    · rw [q2 j]
      by_cases c : j = 24 * v + t
      · rw [c, hp_wi_at, if_neg (by omega), if_pos (by omega)]
      · rw [hp_wi_nj c]
        by_cases c2 : 24 * v + (t + 1) ≤ j ∧ j < 24 * v + n
        · rw [if_pos c2, if_pos (by omega)]
        · rw [if_neg c2, if_neg (by omega)]
    · unfold g114_33
      rw [if_neg (nI_ge (by omega) (by omega)), r61_0, ix_b, b62 (by omega), nI_1]
      exact q3
theorem hst_0 {v t : Nat} {A : Int32} (hv : v < 24) : hst f A 0 v t = -1 := by
  unfold hst
  split
  · next h =>
    unfold hnx
    have : (bl (f v)).find? (fun c => decide (gd f A v t < 24) && decide (gd f A c t + 1 = gd f A v t)) = none := by
      rw [List.find?_eq_none]
      intro u _ q
      rw [Bool.and_eq_true, decide_eq_true_iff, decide_eq_true_iff] at q
      omega
    rw [this]
    rfl
  · rfl
theorem c_fi (hn : n ≤ 24) (hN : iv_N N) : ∀ (m v u : Nat) (σ : hp_S), v + m = n → m < u → (∀ w, w < v → σ.1 (tr (σ.2.2.2 61 4)) w = bal f (al n) w 0) → (∀ w t, w < v → t < n → σ.1 62 (24 * w + t) = -1) → ∃ τ, fr [62, 66, 67] [] σ τ ∧ (∀ w, w < n → τ.1 (tr (τ.2.2.2 61 4)) w = bal f (al n) w 0) ∧ (∀ w t, w < n → t < n → τ.1 62 (24 * w + t) = -1) ∧ g114_13 N u 61 (2 + 2 * s) (nI n) (al n) (nI v) (hp σ, cs) = g114_68 N N 61 (2 + 2 * s) (nI n) (al n) (nI 1) (hp τ, cs) := by
  intro m
  induction m with
  | zero =>
    intro v u σ hv hu h1 h2
    obtain ⟨u, rfl⟩ : ∃ q, u = q + 1 := ⟨u - 1, by omega⟩
    rw [show v = n by omega] at h1 h2
    refine ⟨σ, fr.rf, h1, h2, ?_⟩
    unfold g114_13
    rw [if_pos (nI_le (by omega) (by omega))]
    rfl
  | succ m ih =>
    intro v u σ hv hu h1 h2
    obtain ⟨u, rfl⟩ : ∃ q, u = q + 1 := ⟨u - 1, by omega⟩
    have ho := tr_o (σ.2.2.2 61 4)
    obtain ⟨τ, q1, q2, q3⟩ := c_fz (N := N) (cs := cs) (n := n) (v := v) (X := al n) (p := 2 + 2 * s) (k13 := g114_13 N u) (by omega) hn n 0 N (hp_wi σ (tr (σ.2.2.2 61 4)) v (lf_shl 1 (nI v))) (by omega) (by unfold iv_N at hN; omega)
    have eg : τ.2.2.2 61 4 = σ.2.2.2 61 4 := q1.g List.not_mem_nil
    obtain ⟨υ, p1, p2, p3, p4⟩ := ih (v + 1) u τ (by omega) (by omega) (fun w hw => by
      rw [eg, q1.r (by simp; omega)]
      by_cases c : w = v
      · rw [c, hp_wi_at]
        rfl
      · rw [hp_wi_nj c]
        exact h1 w (by omega)) (fun w t hw ht => by
      rw [q2]
      by_cases c : w = v
      · rw [c, if_pos (by omega)]
      · rw [if_neg (by omega), hp_wi_ne (by omega)]
        exact h2 w t (by omega) ht)
    refine ⟨υ, ((fr.wi (tr_in _)).tr (q1.wk (fun _ h => by simp at h; simp [h]) (fun _ h => h))).tr p1, p2, p3, ?_⟩
    unfold g114_13
    rw [if_neg (nI_ge (by omega) (by omega)), tNear, hp_swi (lay_tr _) (in_nI (by omega) (by omega)), Option.bind_some, nI_clamp (by omega), show (0 : Int32) = nI 0 from rfl, q3]
    exact p4
/-- fill -/
theorem c_fill {σ : hp_S} (hs : s < 8) (h1 : 1 ≤ n) (hn : n ≤ 24) (hw : gw f n) (hN : iv_N N) (e : σ.2.2.1 (2 + 2 * s) 1 = nI n) (ef : ∀ k, k < 24 → σ.1 (3 + 2 * s) k = f k) (hsw : σ.2.2.2 61 4 = σ.2.2.2 61 5) : ∃ τ, fr [62, 66, 67] [(61, 4), (61, 5)] σ τ ∧ τ.2.2.2 61 4 = τ.2.2.2 61 5 ∧ (∀ v t, v < n → t < n → τ.1 62 (24 * v + t) = hnx f (al n) v t) ∧ f114 N 61 (2 + 2 * s) (hp σ, cs) = some (.inl (some (.int (if dS f (al n) 23 = 0 then 1 else 0))), (hp τ, cs)) := by
  obtain ⟨τ, q1, q2, q3, q4⟩ := c_fi (N := N) (cs := cs) (f := f) (s := s) hn hN n 0 N σ (by omega) (by unfold iv_N at hN; omega) (fun w hw => absurd hw (Nat.not_lt_zero w)) (fun w _ hw => absurd hw (Nat.not_lt_zero w))
  obtain ⟨υ, p1, p2, p3, p4⟩ := c_ts (N := N) (cs := cs) (f := f) hs h1 hn hw hN (n - 1) 1 N τ (by omega) (by omega) (by unfold iv_N at hN; omega) (fun k hk => by rw [q1.r (by simp; omega)]; exact ef k hk) (by rw [q1.g List.not_mem_nil, q1.g List.not_mem_nil]; exact hsw) ⟨q2, fun w hw => absurd hw (Nat.not_lt_zero w), fun w t hw' ht => by rw [q3 w t hw' ht, if_neg (Nat.not_lt_zero w), show 1 - 1 = 0 from rfl, hst_0 (by omega)]⟩
  refine ⟨υ, (q1.wk (fun _ h => h) (fun _ h => absurd h List.not_mem_nil)).tr p1, p2, fun v t hv ht => ?_, ?_⟩
  · rw [p3.2.2 v t hv ht, if_neg (Nat.not_lt_zero v)]
    unfold hst
    split
    · rfl
    · next h =>
      have h24 : ¬ gd f (al n) v t < 24 := fun q => h (gd_n h1 hn hv q)
      unfold hnx
      have : (bl (f v)).find? (fun c => decide (gd f (al n) v t < 24) && decide (gd f (al n) c t + 1 = gd f (al n) v t)) = none := by
        rw [List.find?_eq_none]
        intro u _ q
        rw [Bool.and_eq_true, decide_eq_true_iff, decide_eq_true_iff] at q
        exact h24 q.1
      rw [this]
      rfl
  · unfold f114
    rw [sN_1 hs, e, sN_o hs, c_all hs e, lf_ci_r, show (0 : Int32) = nI 0 from rfl, q4, p4]
    by_cases c : dS f (al n) 23 = 0
    · rw [if_pos c, if_pos ((gJ_0 h1 hn hw).mpr c)]
    · rw [if_neg c, if_neg (fun q => c ((gJ_0 h1 hn hw).mp q))]
      rfl
/-- measures -/
theorem m_meas (hn : n ≤ 24) (hN : iv_N N) : ∀ (m v u : Nat) (σ : hp_S), v + m = n → m < u → σ.2.2.1 72 4 = nI n → (∀ j, j < 24 → σ.1 76 j = f j) → (∀ a b, a < v → b < n → σ.1 81 (24 * a + b) = gdI f (al n) a b) → ∃ τ, fr [81] [] σ τ ∧ (∀ a b, a < n → b < n → τ.1 81 (24 * a + b) = gdI f (al n) a b) ∧ g221_2 N u 72 (nI v) (hp σ, cs) = some (.inl none, (hp τ, cs)) := by
  intro m
  induction m with
  | zero =>
    intro v u σ hv hu e ef hd
    obtain ⟨u, rfl⟩ : ∃ q, u = q + 1 := ⟨u - 1, by omega⟩
    refine ⟨σ, fr.rf, fun a b ha hb => hd a b (by omega) hb, ?_⟩
    unfold g221_2
    rw [i72_4, e, if_pos (nI_le (by omega) (by omega))]
  | succ m ih =>
    intro v u σ hv hu e ef hd
    obtain ⟨u, rfl⟩ : ∃ q, u = q + 1 := ⟨u - 1, by omega⟩
    obtain ⟨τ, q1, q2, q3, q4⟩ := m_spreads (N := N) (cs := cs) (f := f) (A := al n) (v := v) (by omega) hn hN (fun i q => (al_in hn).mp q) e ef
    obtain ⟨υ, p1, p2, p3⟩ := ih (v + 1) u τ (by omega) (by omega) (by rw [q1.f List.not_mem_nil]; exact e) (fun j hj => by rw [q1.r (by decide)]; exact ef j hj) (fun a b ha hb => by
      by_cases c : a = v
      · rw [c]; exact q2 b hb
      · rw [q3 _ (by omega)]; exact hd a b (by omega) hb)
    refine ⟨υ, q1.tr p1, p2, ?_⟩
    unfold g221_2
    rw [i72_4, e, if_neg (nI_ge (by omega) (by omega)), o72, m_all e, lf_ci_r, o72]
    rw [show f219 N 72 (nI v) (lf_shl 1 (nI n) - 1) (hp σ, cs) = _ from q4, lf_cv_r, nI_1]
    exact p3
/-- the last knot that fits, going down -/
def md (p : Nat → Bool) : Nat → Int32 → Int32
  | 0, h => h
  | m + 1, h => md p m (if p m = true then nI m else h)
theorem md_find {p : Nat → Bool} : ∀ (m : Nat) (h : Int32), md p m h = fo ((List.range m).find? p) h
  | 0, _ => rfl
  | m + 1, h => by
    show md p m (if p m = true then nI m else h) = _
    rw [md_find m, List.range_succ, List.find?_append]
    cases e : (List.range m).find? p with
    | some c => rfl
    | none =>
      show (if p m = true then nI m else h) = fo ([m].find? p) h
      by_cases c : p m = true
      · rw [if_pos c, List.find?_cons_of_pos c]
        rfl
      · rw [if_neg c, List.find?_cons_of_neg c]
        rfl
theorem m_rc {a b : Nat} {x1 : Int32} (hn : n ≤ 24) (ha : a < n) (hb : b < n) (hab : a ≠ b) {k8 : Nat → Int32 → Int32 → lf_W → lf_R} {k18 : Nat → Int32 → Int32 → Int32 → lf_W → lf_R} : ∀ (m u : Nat) (σ : hp_S), m ≤ n → m < u → (∀ j, j < 24 → σ.1 76 j = f j) → (∀ a b, a < n → b < n → σ.1 81 (24 * a + b) = gdI f (al n) a b) → ∃ τ, fr [107] [] σ τ ∧ τ.1 107 (24 * a + b) = md (fun c => bt (f a) c && decide (gd f (al n) a b < 24) && decide (gd f (al n) c b + 1 = gd f (al n) a b)) m (σ.1 107 (24 * a + b)) ∧ (∀ j, j ≠ 24 * a + b → τ.1 107 j = σ.1 107 j) ∧ g269_71 N k8 k18 u 72 x1 (nI a) (nI b) (nI m - 1) (hp σ, cs) = k18 72 x1 (nI a) (nI (b + 1)) (hp τ, cs) := by
  have nab : ¬ nI a = nI b := by rw [q_eq (by omega) (by omega)]; exact hab
  intro m
  induction m with
  | zero =>
    intro u σ hm hu ef hd
    obtain ⟨u, rfl⟩ : ∃ q, u = q + 1 := ⟨u - 1, by omega⟩
    refine ⟨σ, fr.rf, rfl, fun _ _ => rfl, ?_⟩
    unfold g269_71 g269_138
    rw [if_pos (by decide), nI_1]
  | succ m ih =>
    intro u σ hm hu ef hd
    obtain ⟨u, rfl⟩ : ∃ q, u = q + 1 := ⟨u - 1, by omega⟩
    have em : nI (m + 1) - 1 = nI m := pk_sub (a := m + 1) (b := 1) (by omega)
    have ed : nI m + (-1) = nI m - 1 := by
      rw [Int32.sub_eq_add_neg]
    have hcond : (gdI f (al n) m b + 1 = gdI f (al n) a b) ↔ (gd f (al n) a b < 24 ∧ gd f (al n) m b + 1 = gd f (al n) a b) := by
      have q1 := gd_le (f := f) (A := al n) (v := m) (x := b)
      have q2 : gd f (al n) a b ≠ 0 := by
        intro q
        have := (gd_eq (f := f) (A := al n) (x := b) (v := a) (s := 0) (by omega) (by omega)).mp q
        exact hab ((b_one (by omega)).mp this).symm
      unfold gdI
      generalize gd f (al n) m b = d1 at q1 ⊢
      generalize gd f (al n) a b = d2 at q2 ⊢
      by_cases c1 : d1 < 24
      · rw [if_pos c1, nI_1]
        by_cases c2 : d2 < 24
        · rw [if_pos c2, q_eq (by omega) (by omega)]
          exact ⟨fun q => ⟨c2, q⟩, fun q => q.2⟩
        · rw [if_neg c2, q_ne1 (by omega)]
          exact ⟨fun q => q.elim, fun q => absurd q.1 c2⟩
      · rw [if_neg c1]
        by_cases c2 : d2 < 24
        · rw [if_pos c2, show (-1 : Int32) + 1 = nI 0 by decide, q_eq (by omega) (by omega)]
          exact ⟨fun q => absurd q.symm q2, fun q => by omega⟩
        · rw [if_neg c2]
          exact ⟨fun q => absurd q (by decide), fun q => absurd q.1 c2⟩
    have hmd : ∀ h, md (fun c => bt (f a) c && decide (gd f (al n) a b < 24) && decide (gd f (al n) c b + 1 = gd f (al n) a b)) (m + 1) h = md (fun c => bt (f a) c && decide (gd f (al n) a b < 24) && decide (gd f (al n) c b + 1 = gd f (al n) a b)) m (if (bt (f a) m && decide (gd f (al n) a b < 24) && decide (gd f (al n) m b + 1 = gd f (al n) a b)) = true then nI m else h) := fun _ => rfl
    rw [hmd]
    by_cases c : bt (f a) m = true
    · by_cases g : gd f (al n) a b < 24 ∧ gd f (al n) m b + 1 = gd f (al n) a b
      · rw [if_pos (by rw [c, decide_eq_true g.1, decide_eq_true g.2]; rfl)]
        obtain ⟨τ, q1, q2, q3, q4⟩ := ih u (hp_wi σ 107 (24 * a + b) (nI m)) (by omega) (by omega) (fun j hj => by rw [hp_wi_ne (by decide)]; exact ef j hj) (fun x y hx hy => by rw [hp_wi_ne (by decide)]; exact hd x y hx hy)
        rw [hp_wi_at] at q2
        refine ⟨τ, (fr.wi (by decide)).tr q1, q2, fun j hj => by rw [q3 j hj, hp_wi_nj hj], ?_⟩
        rw [g269_71]
        unfold g269_132
        rw [em, if_neg (nI_pos (by omega)), if_neg nab, o72, m_joined (by omega) (by omega), ef a (by omega), if_pos c, lf_ci_r, if_neg (by decide), r72_23, ix_a, a81 (by omega), r72_23, ix_a, a81 (by omega), hd m b (by omega) hb, hd a b ha hb, if_neg (fun q => q (hcond.mpr g)), r72_65, b107 (by omega), ed]
        exact q4
      · rw [if_neg (fun q => g (by
          simp only [Bool.and_eq_true, decide_eq_true_iff] at q
          exact ⟨q.1.2, q.2⟩))]
        obtain ⟨τ, q1, q2, q3, q4⟩ := ih u σ (by omega) (by omega) ef hd
        refine ⟨τ, q1, q2, q3, ?_⟩
        rw [g269_71]
        unfold g269_132
        rw [em, if_neg (nI_pos (by omega)), if_neg nab, o72, m_joined (by omega) (by omega), ef a (by omega), if_pos c, lf_ci_r, if_neg (by decide), r72_23, ix_a, a81 (by omega), r72_23, ix_a, a81 (by omega), hd m b (by omega) hb, hd a b ha hb, if_pos (fun q => g (hcond.mp q)), ed]
        exact q4
    · rw [if_neg (fun q => c (by
        simp only [Bool.and_eq_true] at q
        exact q.1.1))]
      obtain ⟨τ, q1, q2, q3, q4⟩ := ih u σ (by omega) (by omega) ef hd
      refine ⟨τ, q1, q2, q3, ?_⟩
      rw [g269_71]
      unfold g269_132
      rw [em, if_neg (nI_pos (by omega)), if_neg nab, o72, m_joined (by omega) (by omega), ef a (by omega), if_neg c, lf_ci_r, if_pos rfl, ed]
      exact q4
theorem hn_self {a : Nat} {A : Int32} (ha : a < 24) : hnx f A a a = -1 := by
  have := hst_0 (f := f) (A := A) (v := a) (t := a) ha
  unfold hst at this
  rw [if_pos (by rw [gd_self ha]; omega)] at this
  exact this
theorem hn_md {a b : Nat} (hn : n ≤ 24) (hw : gw f n) (ha : a < n) : md (fun c => bt (f a) c && decide (gd f (al n) a b < 24) && decide (gd f (al n) c b + 1 = gd f (al n) a b)) n (-1) = hnx f (al n) a b := by
  rw [md_find]
  unfold hnx
  rw [bl_n (x := f a) (n := n) (by omega) (fun i q => (hw a (by omega) i q).2.1), ff_filter, List.range_eq_range']
  congr 1
  refine ff_congr _ (fun c _ => ?_)
  rw [Bool.and_assoc]
theorem m_rb {a : Nat} (hn : n ≤ 24) (hw : gw f n) (hN : iv_N N) (ha : a < n) {k8 : Nat → Int32 → Int32 → lf_W → lf_R} : ∀ (m b u : Nat) (W : Bool) (σ : hp_S), b + m = n → m < u → σ.2.2.1 72 4 = nI n → (∀ j, j < 24 → σ.1 76 j = f j) → (∀ a b, a < n → b < n → σ.1 81 (24 * a + b) = gdI f (al n) a b) → ∃ τ, fr [107] [] σ τ ∧ (∀ t, b ≤ t → t < n → τ.1 107 (24 * a + t) = hnx f (al n) a t) ∧ (∀ j, (j < 24 * a + b ∨ 24 * a + n ≤ j) → τ.1 107 j = σ.1 107 j) ∧ g269_18 N k8 u 72 (if W = true then 1 else 0) (nI a) (nI b) (hp σ, cs) = k8 72 (if (W && (List.range' b m).all (fun t => decide (gd f (al n) a t < 24))) = true then 1 else 0) (nI (a + 1)) (hp τ, cs) := by
  intro m
  induction m with
  | zero =>
    intro b u W σ hb hu e ef hd
    obtain ⟨u, rfl⟩ : ∃ q, u = q + 1 := ⟨u - 1, by omega⟩
    refine ⟨σ, fr.rf, fun t q1 q2 => by omega, fun _ _ => rfl, ?_⟩
    unfold g269_18
    rw [i72_4, e, if_pos (nI_le (by omega) (by omega)), nI_1, List.range'_zero, List.all_nil, Bool.and_true]
  | succ m ih =>
    intro b u W σ hb hu e ef hd
    obtain ⟨u, rfl⟩ : ∃ q, u = q + 1 := ⟨u - 1, by omega⟩
    have mid : ∀ (x : Int32), ∃ ρ, fr [107] [] σ ρ ∧ ρ.1 107 (24 * a + b) = hnx f (al n) a b ∧ (∀ j, j ≠ 24 * a + b → ρ.1 107 j = σ.1 107 j) ∧ g269_50 N k8 (g269_18 N k8 u) 72 (nI a) (nI b) x (hp σ, cs) = g269_18 N k8 u 72 x (nI a) (nI (b + 1)) (hp ρ, cs) := by
      intro x
      by_cases hab : a = b
      · refine ⟨hp_wi σ 107 (24 * a + b) (-1), fr.wi (by decide), by rw [hp_wi_at, ← hab, hn_self (by omega)], fun j hj => hp_wi_nj hj, ?_⟩
        obtain ⟨N', hN'⟩ : ∃ q, N = q + 1 := ⟨N - 1, by unfold iv_N at hN; omega⟩
        have : ∀ y : Int32, g269_71 N k8 (g269_18 N k8 u) (N' + 1) 72 x (nI a) (nI b) y (hp (hp_wi σ 107 (24 * a + b) (-1)), cs) = g269_18 N k8 u 72 x (nI a) (nI (b + 1)) (hp (hp_wi σ 107 (24 * a + b) (-1)), cs) := by
          intro y
          rw [g269_71]
          unfold g269_138
          by_cases hy : y < 0
          · rw [if_pos hy, nI_1]
          · rw [if_neg hy, if_pos (by rw [hab]), nI_1]
        rw [← hN'] at this
        unfold g269_50
        rw [r72_65, ix_a, b107 (by omega), i72_4, this]
      · obtain ⟨ρ, q1, q2, q3, q4⟩ := m_rc (N := N) (cs := cs) (f := f) (a := a) (b := b) (x1 := x) (k8 := k8) (k18 := g269_18 N k8 u) hn ha (by omega) hab n N (hp_wi σ 107 (24 * a + b) (-1)) (by omega) (by unfold iv_N at hN; omega) (fun j hj => by rw [hp_wi_ne (by decide)]; exact ef j hj) (fun x y hx hy => by rw [hp_wi_ne (by decide)]; exact hd x y hx hy)
        rw [hp_wi_at, hn_md hn hw ha] at q2
        refine ⟨ρ, (fr.wi (by decide)).tr q1, q2, fun j hj => by rw [q3 j hj, hp_wi_nj hj], ?_⟩
        unfold g269_50
        rw [r72_65, ix_a, b107 (by omega), i72_4]
        rw [show (hp_wi σ 107 (24 * a + b) (-1)).2.2.1 72 4 = nI n from e]
        exact q4
    have go : ∀ (W' : Bool), W' = (W && decide (gd f (al n) a b < 24)) → ∃ τ, fr [107] [] σ τ ∧ (∀ t, b ≤ t → t < n → τ.1 107 (24 * a + t) = hnx f (al n) a t) ∧ (∀ j, (j < 24 * a + b ∨ 24 * a + n ≤ j) → τ.1 107 j = σ.1 107 j) ∧ g269_50 N k8 (g269_18 N k8 u) 72 (nI a) (nI b) (if W' = true then 1 else 0) (hp σ, cs) = k8 72 (if (W && (List.range' b (m + 1)).all (fun t => decide (gd f (al n) a t < 24))) = true then 1 else 0) (nI (a + 1)) (hp τ, cs) := by
      intro W' hW
      obtain ⟨ρ, r1, r2, r3, r4⟩ := mid (if W' = true then 1 else 0)
      obtain ⟨τ, q1, q2, q3, q4⟩ := ih (b + 1) u W' ρ (by omega) (by omega) (by rw [r1.f List.not_mem_nil]; exact e) (fun j hj => by rw [r1.r (by decide)]; exact ef j hj) (fun x y hx hy => by rw [r1.r (by decide)]; exact hd x y hx hy)
      refine ⟨τ, r1.tr q1, fun t t1 t2 => ?_, fun j hj => ?_, ?_⟩
      · by_cases c : t = b
        · rw [c, q3 _ (by omega)]; exact r2
        · exact q2 t (by omega) t2
      · rw [q3 j (by omega), r3 j (by omega)]
      · rw [r4, q4, hW, List.range'_succ, List.all_cons, Bool.and_assoc]
    rw [g269_18]
    unfold g269_49
    rw [i72_4, e, if_neg (nI_ge (by omega) (by omega))]
    cases W with
    | false =>
      rw [if_pos (show (if false = true then (1 : Int32) else 0) = 0 from rfl)]
      exact go false rfl
    | true =>
      rw [if_neg (show ¬ (if true = true then (1 : Int32) else 0) = 0 by decide), r72_23, ix_a, a81 (by omega), hd a b ha (by omega)]
      by_cases c : gd f (al n) a b < 24
      · rw [gdI_lt c, if_neg (by rw [q_ne1 (by omega)]; exact id)]
        exact go true (by rw [decide_eq_true c]; rfl)
      · rw [gdI_no c, if_pos rfl]
        exact go false (by rw [decide_eq_false c]; rfl)
theorem m_ra (hn : n ≤ 24) (hw : gw f n) (hN : iv_N N) : ∀ (m a u : Nat) (W : Bool) (σ : hp_S), a + m = n → m < u → σ.2.2.1 72 4 = nI n → (∀ j, j < 24 → σ.1 76 j = f j) → (∀ a b, a < n → b < n → σ.1 81 (24 * a + b) = gdI f (al n) a b) → (∀ x t, x < a → t < n → σ.1 107 (24 * x + t) = hnx f (al n) x t) → ∃ τ, fr [107] [] σ τ ∧ (∀ x t, x < n → t < n → τ.1 107 (24 * x + t) = hnx f (al n) x t) ∧ g269_8 N u 72 (if W = true then 1 else 0) (nI a) (hp σ, cs) = some (.inl (some (.int (if (W && (List.range' a m).all (fun x => (List.range' 0 n).all (fun t => decide (gd f (al n) x t < 24)))) = true then 1 else 0))), (hp τ, cs)) := by
  intro m
  induction m with
  | zero =>
    intro a u W σ ha hu e ef hd hh
    obtain ⟨u, rfl⟩ : ∃ q, u = q + 1 := ⟨u - 1, by omega⟩
    refine ⟨σ, fr.rf, fun x t hx ht => hh x t (by omega) ht, ?_⟩
    unfold g269_8
    rw [i72_4, e, if_pos (nI_le (by omega) (by omega)), List.range'_zero, List.all_nil, Bool.and_true, if_pos (by cases W <;> simp)]
  | succ m ih =>
    intro a u W σ ha hu e ef hd hh
    obtain ⟨u, rfl⟩ : ∃ q, u = q + 1 := ⟨u - 1, by omega⟩
    obtain ⟨τ, q1, q2, q3, q4⟩ := m_rb (N := N) (cs := cs) (f := f) (a := a) (k8 := g269_8 N u) hn hw hN (by omega) n 0 N W σ (by omega) (by unfold iv_N at hN; omega) e ef hd
    obtain ⟨υ, p1, p2, p3⟩ := ih (a + 1) u (W && (List.range' 0 n).all (fun t => decide (gd f (al n) a t < 24))) τ (by omega) (by omega) (by rw [q1.f List.not_mem_nil]; exact e) (fun j hj => by rw [q1.r (by decide)]; exact ef j hj) (fun x y hx hy => by rw [q1.r (by decide)]; exact hd x y hx hy) (fun x t hx ht => by
      by_cases c : x = a
      · rw [c]; exact q2 t (by omega) ht
      · rw [q3 _ (by omega)]; exact hh x t (by omega) ht)
    refine ⟨υ, q1.tr p1, p2, ?_⟩
    rw [g269_8]
    rw [i72_4, e, if_neg (nI_ge (by omega) (by omega)), show (0 : Int32) = nI 0 from rfl]
    rw [show nI 0 = (0 : Int32) from rfl] at q4 ⊢
    rw [q4, p3, List.range'_succ, List.all_cons, Bool.and_assoc]
/-- routes -/
theorem m_routes {σ : hp_S} (hn : n ≤ 24) (hw : gw f n) (hN : iv_N N) (e : σ.2.2.1 72 4 = nI n) (ef : ∀ j, j < 24 → σ.1 76 j = f j) : ∃ τ, fr [81, 107] [] σ τ ∧ (∀ x t, x < n → t < n → τ.1 107 (24 * x + t) = hnx f (al n) x t) ∧ (∀ a b, a < n → b < n → τ.1 81 (24 * a + b) = gdI f (al n) a b) ∧ f269 N 72 (hp σ, cs) = some (.inl (some (.int (if dS f (al n) 23 = 0 then 1 else 0))), (hp τ, cs)) := by
  obtain ⟨τ, q1, q2, q3⟩ := m_meas (N := N) (cs := cs) (f := f) hn hN n 0 N σ (by omega) (by unfold iv_N at hN; omega) e ef (fun a _ ha => absurd ha (Nat.not_lt_zero a))
  obtain ⟨υ, p1, p2, p3⟩ := m_ra (N := N) (cs := cs) (f := f) hn hw hN n 0 N true τ (by omega) (by unfold iv_N at hN; omega) (by rw [q1.f List.not_mem_nil]; exact e) (fun j hj => by rw [q1.r (by decide)]; exact ef j hj) q2 (fun x _ hx => absurd hx (Nat.not_lt_zero x))
  refine ⟨υ, (q1.wk (fun _ h => by simp at h; simp [h]) (fun _ h => h)).tr (p1.wk (fun _ h => by simp at h; simp [h]) (fun _ h => h)), p2, fun a b ha hb => by rw [p1.r (by decide)]; exact q2 a b ha hb, ?_⟩
  unfold f269 f221
  rw [o72, show (0 : Int32) = nI 0 from rfl, q3, lf_cv_r]
  rw [show (if true = true then (1 : Int32) else 0) = 1 from rfl] at p3
  rw [p3]
  have hiff : (true && (List.range' 0 n).all (fun x => (List.range' 0 n).all (fun t => decide (gd f (al n) x t < 24)))) = true ↔ dS f (al n) 23 = 0 := by
    rw [Bool.true_and, List.all_eq_true]
    refine Iff.trans ?_ gJ_iff.symm
    constructor
    · intro h a b ha hb h1 h2
      have := h a (List.mem_range'_1.mpr ⟨by omega, by have := (al_in hn).mp h1; omega⟩)
      rw [List.all_eq_true] at this
      exact of_decide_eq_true (this b (List.mem_range'_1.mpr ⟨by omega, by have := (al_in hn).mp h2; omega⟩))
    · intro h x hx
      rw [List.all_eq_true]
      intro t ht
      have h1 := List.mem_range'_1.mp hx
      have h2 := List.mem_range'_1.mp ht
      exact decide_eq_true (h x t (by omega) (by omega) ((al_in hn).mpr (by omega)) ((al_in hn).mpr (by omega)))
  by_cases c : dS f (al n) 23 = 0
  · rw [if_pos c, if_pos (hiff.mpr c)]
  · rw [if_neg c, if_neg (fun q => c (hiff.mp q))]
    rfl
end FI
theorem iv_sw.of61 {σ τ : hp_S} {A : List Nat} {F : List (Nat × Nat)} (h : iv_sw σ) (k : fr A F σ τ) (h1 : τ.2.2.2 61 4 = τ.2.2.2 61 5) (h2 : (37, 0) ∉ F) (h3 : (37, 1) ∉ F) (h4 : (29, 0) ∉ F) (h5 : (29, 1) ∉ F) : iv_sw τ := by
  refine ⟨?_, ?_, h1⟩
  · rw [k.g h4, k.g h5]; exact h.1
  · rw [k.g h2, k.g h3]; exact h.2.1
theorem case_hop {J : iv_J} {rd : iv_rd} {N : Nat} (hN : iv_N N) : iv_caseN J rd N g327_2273 := by
  intro sc i σ cs hs hi hI
  have key : ∃ (τ : hp_S) (ds : Nat × Nat), iv J τ ∧ ds.1 ≤ cs.1 + 1 ∧ ds.2 ≤ cs.2 + 6 ∧ ∀ k : lf_W → lf_R, tl_I (tc_I [("java/util/NoSuchElementException", 1)] (f159 N 0 (sc.2 (i + 1)) (sc.2 (i + 2)) (sc.2 (i + 3)) (hp σ, cs))) (fun w => f270 N 72 (sc.2 (i + 1)) (sc.2 (i + 2)) (sc.2 (i + 3)) w) k = k (hp τ, ds) := by
    generalize sc.2 (i + 1) = x
    generalize sc.2 (i + 2) = y
    generalize sc.2 (i + 3) = z
    refine askI (x := x) hI hN rfl (fun h => ?_) (fun σ' ds w h => ?_) (fun s n d f hs8 hx hg hv => ?_)
    · unfold f159
      rw [o0, c_hw_no h]
      rfl
    · unfold f270
      rw [o72, h, lf_ci_r, if_pos rfl]
    · subst hx
      have hn1 := hg.1
      have hn := hg.2.1
      rcases two_or n hn y z with h | ⟨p, q, hp', hq, rfl, rfl⟩
      · refine Or.inr ⟨"java/util/NoSuchElementException", 1, σ, iv_kept.rf σ, by decide, rfl, ?_, fun σ' μ ds hm hl => ⟨hp_wf μ 72 0 1, 0, iv_kept.wm (by omega), hp_wf_at, ?_⟩⟩
        · unfold f159
          rw [o0, c_hw_out hs8 hn1 hn hv.1 h]
          rfl
        · show f270 N 72 (nI s) y z (hp σ', ds) = _
          unfold f270
          rw [o72, hl, lf_ci_r, if_neg (by decide), o72, m_has_out hn hm.1 hm.2.2.1 h, lf_ci_r, if_neg (fun q => q rfl)]
      · obtain ⟨τ, q1, q2, q3, q4⟩ := c_fill (σ := σ) (cs := cs) (N := N) hs8 hn1 hn hg.2.2.2.2.1 hN hv.1 hv.2.2 hI.2.2.2.2.2.2.2.2.2
        refine Or.inl ⟨if dS f (al n) 23 = 0 then hnx f (al n) p q else -1, τ, q1.keptS rfl rfl (fun h => h.of61 q1 q2 (by decide) (by decide) (by decide) (by decide)), ?_, fun σ' μ ds hm hl => ?_⟩
        · unfold f159 f113
          rw [o0, c_hw_in hs8 hn hv.1 hp' hq, lf_cr_r, r0_11, o61, q4, lf_ci_r]
          by_cases c : dS f (al n) 23 = 0
          · rw [if_pos c, if_pos c, if_neg (by decide), r0_11, o61, r61_0, ix_b, a62 (by omega), q3 p q hp' hq, lf_ci_r]
          · rw [if_neg c, if_neg c, if_pos rfl]
        · obtain ⟨υ, p1, p2, p3, p4⟩ := m_routes (σ := μ) (cs := ds) (N := N) hn hg.2.2.2.2.1 hN hm.1 hm.2.2.2
          refine ⟨υ, p1.kept rfl rfl, p1.l (by decide), by rw [p1.f List.not_mem_nil]; exact hm.2.2.1, ?_⟩
          show f270 N 72 (nI s) (nI p) (nI q) (hp σ', ds) = _
          unfold f270
          rw [o72, hl, lf_ci_r, if_neg (by decide), o72, m_has_in hn hm.1 hm.2.2.1 hp' hq, lf_ci_r, if_pos (by decide), o72, p4, lf_ci_r]
          by_cases c : dS f (al n) 23 = 0
          · rw [if_pos c, if_pos c, if_neg (by decide)]
            by_cases hpq : p = q
            · rw [if_pos (by rw [hpq]), hpq, hn_self (by omega)]
            · rw [if_neg (by rw [q_eq (by omega) (by omega)]; exact hpq), r72_65, ix_a, a107 (by omega), p2 p q hp' hq]
          · rw [if_neg c, if_neg c, if_pos rfl]
  obtain ⟨τ, ds, q1, q2, q3, q4⟩ := key
  refine ⟨τ, ds, q1, q2, q3, fun k23 => ?_⟩
  rw [← q4 (k23 (nI i + 6))]
  unfold g327_2273 h318 f318
  simp only [iv_s1 hs hi, iv_s2 hs hi, iv_s3 hs hi, Option.bind_some, if_pos hp_x]
  rfl
