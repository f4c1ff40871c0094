/-! read: the model reads a text: knots and lines -/
/-- the knots that a clause has named -/
def MSn (σ : hp_S) (c : Nat) (g : Nat → Nat) : Prop := σ.2.2.1 72 19 = nI c ∧ ∀ k, k < c → σ.1 78 k = nI (g k)
theorem MSn.fr {σ τ : hp_S} {c : Nat} {g : Nat → Nat} {A : List Nat} {F : List (Nat × Nat)} (h : MSn σ c g) (k : fr A F σ τ) (hA : 78 ∉ A) (h1 : (72, 19) ∉ F) : MSn τ c g := by
  unfold MSn
  rw [k.f h1, k.r hA]
  exact h
/-- nothing is wrong yet -/
def MGd (σ : hp_S) : Prop := σ.2.2.1 72 9 = 0 ∧ σ.2.2.1 72 10 = -1
theorem MGd.fr {σ τ : hp_S} {A : List Nat} {F : List (Nat × Nat)} (h : MGd σ) (k : fr A F σ τ) (h1 : (72, 9) ∉ F) (h2 : (72, 10) ∉ F) : MGd τ := by
  unfold MGd
  rw [k.f h1, k.f h2]
  exact h
/-- something is wrong -/
def MBd (σ : hp_S) (x pl : Nat) : Prop := σ.2.2.1 72 9 = nI x ∧ σ.2.2.1 72 10 = nI pl
/-- lines at work -/
def MLr (σ : hp_S) (pl : Nat) (q : Nat × (Nat → Int32)) : Prop := σ.2.2.1 72 9 = nI q.1 ∧ (q.1 = 0 → σ.2.2.1 72 10 = -1) ∧ (¬ q.1 = 0 → σ.2.2.1 72 10 = nI pl) ∧ ∀ k, k < 24 → σ.1 76 k = q.2 k
section RDU
variable {cs : Nat × Nat} {N n p s kn e c sh a b pl : Nat} {B g : Nat → Nat} {f : Nat → Int32} {q : Nat × (Nat → Int32)} {σ : hp_S}
theorem a78_0 {h : Int32 → lf_R} : (lf_ri (hp σ, cs) 78 0).bind h = h (σ.1 78 0) := a78 (j := 0) (by omega)
theorem a78_1 {h : Int32 → lf_R} : (lf_ri (hp σ, cs) 78 1).bind h = h (σ.1 78 1) := a78 (j := 1) (by omega)
theorem m_ok (h : σ.2.2.1 72 9 = 0) : f199 N 72 (hp σ, cs) = some (.inl (some (.int 1)), (hp σ, cs)) := by
  unfold f199
  rw [i72_9, h, if_neg (show ¬ ¬ (0 : Int32) = 0 by decide)]
theorem m_no (h : ¬ σ.2.2.1 72 9 = 0) : f199 N 72 (hp σ, cs) = some (.inl (some (.int 0)), (hp σ, cs)) := by
  unfold f199
  rw [i72_9, if_pos h]
theorem m_wr {x : Int32} (h : σ.2.2.1 72 9 = 0) (h14 : σ.2.2.1 72 14 = nI pl) : f198 N 72 x (hp σ, cs) = some (.inl none, (hp (hp_wf (hp_wf σ 72 9 x) 72 10 (nI pl)), cs)) := by
  unfold f198
  rw [i72_9, h, if_pos rfl, w72_9, i72_14, hp_wf_ne (by decide), h14, w72_10]
theorem m_wn {x : Int32} (h : ¬ σ.2.2.1 72 9 = 0) : f198 N 72 x (hp σ, cs) = some (.inl none, (hp σ, cs)) := by
  unfold f198
  rw [i72_9, if_neg h]
theorem MBd.no {x : Nat} (h : MBd σ x pl) (hx : ¬ x = 0) (h6 : x ≤ 6) : ¬ σ.2.2.1 72 9 = 0 := by
  rw [h.1]
  exact nI_z (by omega) hx
/-- wrong: as it is noted -/
theorem m_wrB {x : Nat} (h : MGd σ) (h14 : σ.2.2.1 72 14 = nI pl) : ∃ τ, fr [] [(72, 9), (72, 10)] σ τ ∧ MBd τ x pl ∧ f198 N 72 (nI x) (hp σ, cs) = some (.inl none, (hp τ, cs)) := ⟨_, (fr.wf (by decide)).tr (fr.wf (by decide)), ⟨by rw [hp_wf_ne (by decide), hp_wf_at], hp_wf_at⟩, m_wr h.1 h14⟩
/-- the model's drawLine -/
theorem m_draw (hN : iv_N N) (hkn : kn ≤ 24) (he : e ≤ 8) (hL : MLr σ pl q) (hO : rdO q kn e) (h5 : σ.2.2.1 72 5 = nI e) (h14 : σ.2.2.1 72 14 = nI pl) (ha : a < kn) (hb : b < kn) (hne : a ≠ b) : ∃ τ, fr [76] [(72, 9), (72, 10)] σ τ ∧ MLr τ pl (rdS e q a b) ∧ f203 N 72 (nI a) (nI b) (hp σ, cs) = some (.inl none, (hp τ, cs)) := by
  obtain ⟨x, f⟩ := q
  have l1 : σ.2.2.1 72 9 = nI x := hL.1
  have l2 : x = 0 → σ.2.2.1 72 10 = -1 := hL.2.1
  have l4 : ∀ k, k < 24 → σ.1 76 k = f k := hL.2.2.2
  have o1 : x ≤ 6 := hO.1
  have o2 : rdG f kn e := hO.2
  by_cases c0 : x = 0
  · subst c0
    have g9 : σ.2.2.1 72 9 = 0 := l1
    have p1 := o2.2 a (by omega)
    have p2 := o2.2 b (by omega)
    rw [rdS_0]
    have wr : ∀ y : Nat, ¬ y = 0 → MLr (hp_wf (hp_wf σ 72 9 (nI y)) 72 10 (nI pl)) pl (y, f) := fun y hy => ⟨by rw [hp_wf_ne (by decide), hp_wf_at], fun z => absurd z hy, fun _ => hp_wf_at, l4⟩
    have fw : ∀ y : Nat, fr [76] [(72, 9), (72, 10)] σ (hp_wf (hp_wf σ 72 9 (nI y)) 72 10 (nI pl)) := fun y => (fr.wf (by decide)).tr (fr.wf (by decide))
    by_cases c1 : bt (f a) b = true
    · rw [if_pos c1]
      refine ⟨_, fw 5, wr 5 (by decide), ?_⟩
      unfold f203
      rw [o72, m_ok g9, lf_ci_r, if_pos (by decide), o72, m_joined (by omega) (by omega), l4 a (by omega), if_pos c1, lf_ci_r, if_neg (by decide), o72, m_wr g9 h14, lf_cv_r]
      rfl
    · rw [if_neg c1]
      have s1 : bt (f a) b = false := ts_nt c1
      have s2 : bt (f b) a = false := by rw [bt_sym hkn o2.1 ha hb]; exact s1
      by_cases c2 : e ≤ i_pc (f a) ∨ e ≤ i_pc (f b)
      · rw [if_pos c2]
        refine ⟨_, fw 6, wr 6 (by decide), ?_⟩
        have e57 : g203_57 N 72 (hp σ, cs) = some (.inl none, (hp (hp_wf (hp_wf σ 72 9 (nI 6)) 72 10 (nI pl)), cs)) := by
          unfold g203_57
          rw [o72, m_wr g9 h14, lf_cv_r]
          rfl
        unfold f203
        rw [o72, m_ok g9, lf_ci_r, if_pos (by decide), o72, m_joined (by omega) (by omega), l4 a (by omega), if_neg c1, lf_ci_r, if_pos rfl, r72_6, a76 (by omega), l4 a (by omega), m_pc hN, lf_ci_r, i72_5, h5]
        by_cases d : e ≤ i_pc (f a)
        · rw [if_pos (nI_le d (by omega)), e57]
        · rw [if_neg (nI_ge (by omega) (by omega)), r72_6, a76 (by omega), l4 b (by omega), m_pc hN, lf_ci_r, i72_5, h5, if_neg (nI_nlt (by omega) (by omega)), e57]
      · rw [if_neg c2]
        obtain ⟨τ, q1, q2, q3⟩ := m_joins2 (N := N) (cs := cs) (σ := σ) (f := f) (p := a) (q := b) (by omega) (by omega) hne l4 s1 s2
        refine ⟨τ, q1.wk (by decide) (fun _ z => absurd z List.not_mem_nil), ⟨by rw [q1.f List.not_mem_nil]; exact g9, fun _ => by rw [q1.f List.not_mem_nil]; exact l2 rfl, fun z => absurd rfl z, q2⟩, ?_⟩
        unfold f203
        rw [o72, m_ok g9, lf_ci_r, if_pos (by decide), o72, m_joined (by omega) (by omega), l4 a (by omega), if_neg c1, lf_ci_r, if_pos rfl, r72_6, a76 (by omega), l4 a (by omega), m_pc hN, lf_ci_r, i72_5, h5, if_neg (nI_ge (by omega) (by omega)), r72_6, a76 (by omega), l4 b (by omega), m_pc hN, lf_ci_r, i72_5, h5, if_pos (nI_lt (by omega) (by omega)), o72, q3, lf_cv_r]
  · rw [rdS_st (q := (x, f)) c0]
    refine ⟨σ, fr.rf, hL, ?_⟩
    unfold f203
    rw [o72, m_no (by rw [l1]; exact nI_z (by omega) c0), lf_ci_r, if_neg (by decide)]
/-- the row's loop, or the ring's -/
theorem m_l112 (hN : iv_N N) (hkn : kn ≤ 24) (he : e ≤ 8) (hl : rdLs c g kn) (hc : c ≤ 12) (hs : sh = 0 ∨ sh = 1) : ∀ (m k u : Nat) (q : Nat × (Nat → Int32)) (σ : hp_S), k + m = c → 1 ≤ k → m < u → rdO q kn e → MLr σ pl q → MSn σ c g → σ.2.2.1 72 5 = nI e → σ.2.2.1 72 14 = nI pl → ∃ τ, fr [76] [(72, 9), (72, 10)] σ τ ∧ MLr τ pl (rdI e g (fun k => k - 1) m k q) ∧ g204_112 N u 72 (nI sh) (nI k) (hp σ, cs) = g204_153 N 72 (nI sh) (hp τ, cs) := by
  intro m
  induction m with
  | zero =>
    intro k u q σ hk h1 hu hO hL hS h5 h14
    obtain ⟨u, rfl⟩ : ∃ q, u = q + 1 := ⟨u - 1, by omega⟩
    refine ⟨σ, fr.rf, hL, ?_⟩
    rw [g204_112, i72_19, hS.1, if_pos (nI_le (by omega) (by omega))]
  | succ m ih =>
    intro k u q σ hk h1 hu hO hL hS h5 h14
    obtain ⟨u, rfl⟩ : ∃ q, u = q + 1 := ⟨u - 1, by omega⟩
    have x1 := hl.1 (k - 1) (by omega)
    have x2 := hl.1 k (by omega)
    have x3 := hl.2 (k - 1) k (by omega) (by omega) (by omega)
    obtain ⟨τ1, q1, q2, q3⟩ := m_draw (N := N) (cs := cs) hN hkn he hL hO h5 h14 x1 x2 x3
    obtain ⟨τ, r1, r2, r3⟩ := ih (k + 1) u (rdS e q (g (k - 1)) (g k)) τ1 (by omega) (by omega) (by omega) (rdS_ok hkn hO x1 x2 x3) q2 (hS.fr q1 (by decide) (by decide)) (by rw [q1.f (by decide)]; exact h5) (by rw [q1.f (by decide)]; exact h14)
    refine ⟨τ, q1.tr r1, r2, ?_⟩
    have e129 : g204_129 N (g204_112 N u) 72 (nI sh) (nI k) (hp σ, cs) = g204_153 N 72 (nI sh) (hp τ, cs) := by
      unfold g204_129
      rw [r72_18, show nI k - 1 = nI (k - 1) from pk_sub (b := 1) h1, a78 (by omega), hS.2 (k - 1) (by omega), r72_18, a78 (by omega), hS.2 k (by omega), o72, q3, lf_cv_r, nI_1]
      exact r3
    rw [g204_112, i72_19, hS.1, if_neg (nI_ge (by omega) (by omega))]
    by_cases d : sh = 0
    · rw [if_pos (show nI sh = 0 by rw [d]; rfl), e129]
    · rw [if_neg (nI_z (by omega) d), if_neg (show ¬ ¬ nI sh = 1 from fun z => z (by rw [show sh = 1 by omega]; rfl)), e129]
theorem m_l197 {k : Nat} {k181 : Nat → Int32 → Int32 → lf_W → lf_R} (hN : iv_N N) (hkn : kn ≤ 24) (he : e ≤ 8) (hl : rdLs c g kn) (hc : c ≤ 12) (hk : k < c) : ∀ (m j u : Nat) (q : Nat × (Nat → Int32)) (σ : hp_S), j + m = k → m < u → rdO q kn e → MLr σ pl q → MSn σ c g → σ.2.2.1 72 5 = nI e → σ.2.2.1 72 14 = nI pl → ∃ τ, fr [76] [(72, 9), (72, 10)] σ τ ∧ MLr τ pl (rdJ e g k m j q) ∧ g204_197 N k181 u 72 (nI sh) (nI k) (nI j) (hp σ, cs) = k181 72 (nI sh) (nI (k + 1)) (hp τ, cs) := by
  intro m
  induction m with
  | zero =>
    intro j u q σ hj hu hO hL hS h5 h14
    obtain ⟨u, rfl⟩ : ∃ q, u = q + 1 := ⟨u - 1, by omega⟩
    refine ⟨σ, fr.rf, hL, ?_⟩
    rw [g204_197, if_pos (nI_le (by omega) (by omega)), nI_1]
  | succ m ih =>
    intro j u q σ hj hu hO hL hS h5 h14
    obtain ⟨u, rfl⟩ : ∃ q, u = q + 1 := ⟨u - 1, by omega⟩
    have x1 := hl.1 j (by omega)
    have x2 := hl.1 k hk
    have x3 := hl.2 j k (by omega) hk (by omega)
    obtain ⟨τ1, q1, q2, q3⟩ := m_draw (N := N) (cs := cs) hN hkn he hL hO h5 h14 x1 x2 x3
    obtain ⟨τ, r1, r2, r3⟩ := ih (j + 1) u (rdS e q (g j) (g k)) τ1 (by omega) (by omega) (rdS_ok hkn hO x1 x2 x3) q2 (hS.fr q1 (by decide) (by decide)) (by rw [q1.f (by decide)]; exact h5) (by rw [q1.f (by decide)]; exact h14)
    refine ⟨τ, q1.tr r1, r2, ?_⟩
    rw [g204_197, if_neg (nI_ge (by omega) (by omega)), r72_18, a78 (by omega), hS.2 j (by omega), r72_18, a78 (by omega), hS.2 k hk, o72, q3, lf_cv_r, nI_1]
    exact r3
theorem m_l181 (hN : iv_N N) (hkn : kn ≤ 24) (he : e ≤ 8) (hl : rdLs c g kn) (hc : c ≤ 12) (hs : sh = 2) : ∀ (m k u : Nat) (q : Nat × (Nat → Int32)) (σ : hp_S), k + m = c → m < u → rdO q kn e → MLr σ pl q → MSn σ c g → σ.2.2.1 72 5 = nI e → σ.2.2.1 72 14 = nI pl → ∃ τ, fr [76] [(72, 9), (72, 10)] σ τ ∧ MLr τ pl (rdA e g m k q) ∧ g204_181 N u 72 (nI sh) (nI k) (hp σ, cs) = g204_232 N 72 (nI sh) (hp τ, cs) := by
  intro m
  induction m with
  | zero =>
    intro k u q σ hk hu hO hL hS h5 h14
    obtain ⟨u, rfl⟩ : ∃ q, u = q + 1 := ⟨u - 1, by omega⟩
    refine ⟨σ, fr.rf, hL, ?_⟩
    rw [g204_181, i72_19, hS.1, if_pos (nI_le (by omega) (by omega))]
  | succ m ih =>
    intro k u q σ hk hu hO hL hS h5 h14
    obtain ⟨u, rfl⟩ : ∃ q, u = q + 1 := ⟨u - 1, by omega⟩
    obtain ⟨τ1, q1, q2, q3⟩ := m_l197 (N := N) (cs := cs) (k := k) (sh := sh) (k181 := g204_181 N u) hN hkn he hl hc (by omega) k 0 N q σ (by omega) (by unfold iv_N at hN; omega) hO hL hS h5 h14
    obtain ⟨τ, r1, r2, r3⟩ := ih (k + 1) u (rdJ e g k k 0 q) τ1 (by omega) (by omega) (rdJ_ok hkn hl (by omega) k 0 q (by omega) hO) q2 (hS.fr q1 (by decide) (by decide)) (by rw [q1.f (by decide)]; exact h5) (by rw [q1.f (by decide)]; exact h14)
    refine ⟨τ, q1.tr r1, r2, ?_⟩
    rw [g204_181, i72_19, hS.1, if_neg (nI_ge (by omega) (by omega)), if_neg (show ¬ ¬ nI sh = 2 from fun z => z (by rw [hs]; rfl))]
    rw [show g204_197 N (g204_181 N u) N 72 (nI sh) (nI k) 0 (hp σ, cs) = _ from q3]
    exact r3
theorem m_l234 (hN : iv_N N) (hkn : kn ≤ 24) (he : e ≤ 8) (hl : rdLs c g kn) (hc : c ≤ 12) (hs : sh = 3) : ∀ (m k u : Nat) (q : Nat × (Nat → Int32)) (σ : hp_S), k + m = c → 1 ≤ k → m < u → rdO q kn e → MLr σ pl q → MSn σ c g → σ.2.2.1 72 5 = nI e → σ.2.2.1 72 14 = nI pl → ∃ τ, fr [76] [(72, 9), (72, 10)] σ τ ∧ MLr τ pl (rdI e g (fun _ => 0) m k q) ∧ g204_234 N u 72 (nI sh) (nI k) (hp σ, cs) = g204_269 N 72 (nI sh) (hp τ, cs) := by
  intro m
  induction m with
  | zero =>
    intro k u q σ hk h1 hu hO hL hS h5 h14
    obtain ⟨u, rfl⟩ : ∃ q, u = q + 1 := ⟨u - 1, by omega⟩
    refine ⟨σ, fr.rf, hL, ?_⟩
    rw [g204_234, i72_19, hS.1, if_pos (nI_le (by omega) (by omega))]
  | succ m ih =>
    intro k u q σ hk h1 hu hO hL hS h5 h14
    obtain ⟨u, rfl⟩ : ∃ q, u = q + 1 := ⟨u - 1, by omega⟩
    have x1 := hl.1 0 (by omega)
    have x2 := hl.1 k (by omega)
    have x3 := hl.2 0 k (by omega) (by omega) (by omega)
    obtain ⟨τ1, q1, q2, q3⟩ := m_draw (N := N) (cs := cs) hN hkn he hL hO h5 h14 x1 x2 x3
    obtain ⟨τ, r1, r2, r3⟩ := ih (k + 1) u (rdS e q (g 0) (g k)) τ1 (by omega) (by omega) (by omega) (rdS_ok hkn hO x1 x2 x3) q2 (hS.fr q1 (by decide) (by decide)) (by rw [q1.f (by decide)]; exact h5) (by rw [q1.f (by decide)]; exact h14)
    refine ⟨τ, q1.tr r1, r2, ?_⟩
    rw [g204_234, i72_19, hS.1, if_neg (nI_ge (by omega) (by omega)), if_neg (show ¬ ¬ nI sh = 3 from fun z => z (by rw [hs]; rfl)), r72_18, a78_0, hS.2 0 (by omega), r72_18, a78 (by omega), hS.2 k (by omega), o72, q3, lf_cv_r, nI_1]
    exact r3
theorem m_p179 (hN : iv_N N) (h2 : 2 ≤ c) (hc : c ≤ 12) (hS : σ.2.2.1 72 19 = nI c) (h : sh ≤ 4) (hn : ¬ sh = 2) : g204_179 N 72 (nI sh) (hp σ, cs) = g204_232 N 72 (nI sh) (hp σ, cs) := by
  unfold g204_179
  obtain ⟨M, rfl⟩ : ∃ q, N = q + 1 := ⟨N - 1, by unfold iv_N at hN; omega⟩
  rw [g204_181, i72_19, hS, if_neg (show ¬ nI c ≤ 1 from nI_ge (a := 1) (by omega) (by omega)), if_pos (show ¬ nI sh = 2 from fun z => hn ((nI_eq (b := 2) (by omega) (by omega)).mp z))]
theorem m_p232 (hN : iv_N N) (h2 : 2 ≤ c) (hc : c ≤ 12) (hS : σ.2.2.1 72 19 = nI c) (h : sh ≤ 4) (hn : ¬ sh = 3) : g204_232 N 72 (nI sh) (hp σ, cs) = g204_269 N 72 (nI sh) (hp σ, cs) := by
  unfold g204_232
  obtain ⟨M, rfl⟩ : ∃ q, N = q + 1 := ⟨N - 1, by unfold iv_N at hN; omega⟩
  rw [g204_234, i72_19, hS, if_neg (show ¬ nI c ≤ 1 from nI_ge (a := 1) (by omega) (by omega)), if_pos (show ¬ nI sh = 3 from fun z => hn ((nI_eq (b := 3) (by omega) (by omega)).mp z))]
theorem m_p269 (h : sh ≤ 4) (hn : ¬ sh = 4) : g204_269 N 72 (nI sh) (hp σ, cs) = g204_322 N 72 (hp σ, cs) := by
  have n4 : ¬ nI sh = 4 := fun z => hn ((nI_eq (b := 4) (by omega) (by omega)).mp z)
  unfold g204_269
  rw [if_pos n4]
  unfold g204_312
  rw [if_pos n4]
/-- the lines of a clause -/
theorem m_lines (hN : iv_N N) (hkn : kn ≤ 24) (he : e ≤ 8) (hl : rdLs c g kn) (h2 : 2 ≤ c) (hc : c ≤ 12) (hs : sh ≤ 4) (hG : rdG f kn e) (hg : MGd σ) (h76 : ∀ k, k < 24 → σ.1 76 k = f k) (hS : MSn σ c g) (h5 : σ.2.2.1 72 5 = nI e) (h14 : σ.2.2.1 72 14 = nI pl) : ∃ τ, fr [76] [(72, 9), (72, 10)] σ τ ∧ MLr τ pl (rdD e sh g c f) ∧ g204_112 N N 72 (nI sh) 1 (hp σ, cs) = g204_322 N 72 (hp τ, cs) := by
  have h0 : rdO ((0 : Nat), f) kn e := ⟨Nat.zero_le _, hG⟩
  have L0 : MLr σ pl (0, f) := ⟨hg.1, fun _ => hg.2, fun z => absurd rfl z, h76⟩
  have hNN : c < N := by
    unfold iv_N at hN
    omega
  have skip : ¬ sh = 0 → ¬ sh = 1 → g204_112 N N 72 (nI sh) 1 (hp σ, cs) = g204_179 N 72 (nI sh) (hp σ, cs) := by
    intro s0 s1
    have n1 : ¬ nI sh = 1 := fun z => s1 ((nI_eq (b := 1) (by omega) (by omega)).mp z)
    have e153 : g204_153 N 72 (nI sh) (hp σ, cs) = g204_179 N 72 (nI sh) (hp σ, cs) := by
      unfold g204_153
      rw [if_pos n1]
    rw [← e153]
    obtain ⟨M, hM⟩ : ∃ q, N = q + 1 := ⟨N - 1, by omega⟩
    have e112 : g204_112 N (M + 1) 72 (nI sh) 1 (hp σ, cs) = g204_153 N 72 (nI sh) (hp σ, cs) := by
      rw [g204_112, i72_19, hS.1, if_neg (show ¬ nI c ≤ 1 from nI_ge (a := 1) (by omega) (by omega)), if_neg (nI_z (by omega) s0), if_pos n1]
    rw [← hM] at e112
    exact e112
  unfold rdD
  by_cases c4 : sh = 4
  · rw [if_pos c4]
    have x0 := hl.1 0 (by omega)
    have x1 := hl.1 1 (by omega)
    have x2 := hl.2 0 1 (by omega) (by omega) (by omega)
    have pre : g204_112 N N 72 (nI sh) 1 (hp σ, cs) = g204_269 N 72 (nI sh) (hp σ, cs) := by
      rw [skip (by omega) (by omega), m_p179 hN h2 hc hS.1 hs (by omega), m_p232 hN h2 hc hS.1 hs (by omega)]
    rw [pre]
    have e269 : ∀ t, t = (if bt (f (g 0)) (g 1) = true then (1 : Int32) else 0) → g204_269 N 72 (nI sh) (hp σ, cs) = if t = 0 then (g204_312 N 72 (nI sh) (hp σ, cs)) else (lf_cv (f184 N 72 (nI (g 0)) (nI (g 1)) (hp σ, cs)) fun w26 => g204_322 N 72 w26) := by
      intro t ht
      unfold g204_269
      rw [if_neg (show ¬ ¬ nI sh = 4 from fun z => z (by rw [c4]; rfl)), r72_18, a78_0, hS.2 0 (by omega), r72_18, a78_1, hS.2 1 (by omega), o72, m_joined (by omega) (by omega), h76 (g 0) (by omega), lf_ci_r, r72_18, a78_0, hS.2 0 (by omega), r72_18, a78_1, hS.2 1 (by omega), o72, ← ht]
    by_cases d : bt (f (g 0)) (g 1) = true
    · have d2 : bt (f (g 1)) (g 0) = true := by rw [bt_sym hkn hG.1 x0 x1]; exact d
      rw [if_pos d]
      obtain ⟨τ, q1, q2, q3⟩ := m_parts2 (N := N) (cs := cs) (σ := σ) (f := f) (p := g 0) (q := g 1) (by omega) (by omega) x2 h76 d d2
      refine ⟨τ, q1.wk (by decide) (fun _ z => absurd z List.not_mem_nil), ⟨by rw [q1.f List.not_mem_nil]; exact hg.1, fun _ => by rw [q1.f List.not_mem_nil]; exact hg.2, fun z => absurd rfl z, q2⟩, ?_⟩
      rw [e269 1 (by rw [if_pos d]), if_neg (by decide), q3, lf_cv_r]
    · rw [if_neg d]
      refine ⟨hp_wf (hp_wf σ 72 9 (nI 5)) 72 10 (nI pl), (fr.wf (by decide)).tr (fr.wf (by decide)), ⟨by rw [hp_wf_ne (by decide), hp_wf_at], fun z => nz5 z, fun _ => hp_wf_at, h76⟩, ?_⟩
      rw [e269 0 (by rw [if_neg d]), if_pos rfl]
      unfold g204_312
      rw [if_neg (show ¬ ¬ nI sh = 4 from fun z => z (by rw [c4]; rfl)), o72, m_wr hg.1 h14, lf_cv_r]
      rfl
  · rw [if_neg c4]
    by_cases c2 : sh = 2
    · rw [if_pos c2]
      obtain ⟨τ, q1, q2, q3⟩ := m_l181 (N := N) (cs := cs) (sh := sh) hN hkn he hl hc c2 (c - 1) 1 N (0, f) σ (by omega) (by omega) h0 L0 hS h5 h14
      refine ⟨τ, q1, q2, ?_⟩
      have S2 := hS.fr q1 (by decide) (by decide)
      rw [skip (by omega) (by omega)]
      unfold g204_179
      rw [show g204_181 N N 72 (nI sh) 1 (hp σ, cs) = _ from q3, m_p232 hN h2 hc S2.1 hs (by omega), m_p269 hs c4]
    · rw [if_neg c2]
      by_cases c3 : sh = 3
      · rw [if_pos c3]
        obtain ⟨τ, q1, q2, q3⟩ := m_l234 (N := N) (cs := cs) (sh := sh) hN hkn he hl hc c3 (c - 1) 1 N (0, f) σ (by omega) (by omega) (by omega) h0 L0 hS h5 h14
        refine ⟨τ, q1, q2, ?_⟩
        rw [skip (by omega) (by omega), m_p179 hN h2 hc hS.1 hs c2]
        unfold g204_232
        rw [show g204_234 N N 72 (nI sh) 1 (hp σ, cs) = _ from q3, m_p269 hs c4]
      · rw [if_neg c3]
        obtain ⟨τ, q1, q2, q3⟩ := m_l112 (N := N) (cs := cs) (sh := sh) hN hkn he hl hc (by omega) (c - 1) 1 N (0, f) σ (by omega) (by omega) (by omega) h0 L0 hS h5 h14
        have hO := rdI_ok (e := e) (ix := fun k => k - 1) hkn hl (fun k h1 h2 => ⟨by omega, by omega⟩) (c - 1) 1 (0, f) (by omega) (by omega) h0
        have S2 := hS.fr q1 (by decide) (by decide)
        rw [show g204_112 N N 72 (nI sh) 1 (hp σ, cs) = _ from q3]
        by_cases c1 : sh = 1
        · rw [if_pos c1]
          obtain ⟨υ, r1, r2, r3⟩ := m_draw (N := N) (cs := cs) hN hkn he q2 hO (by rw [q1.f (by decide)]; exact h5) (by rw [q1.f (by decide)]; exact h14) (hl.1 (c - 1) (by omega)) (hl.1 0 (by omega)) (hl.2 _ _ (by omega) (by omega) (by omega))
          have S3 := S2.fr r1 (by decide) (by decide)
          refine ⟨υ, q1.tr r1, r2, ?_⟩
          unfold g204_153
          rw [if_neg (show ¬ ¬ nI sh = 1 from fun z => z (by rw [c1]; rfl)), r72_18, i72_19, S2.1, show nI c - 1 = nI (c - 1) from pk_sub (b := 1) (by omega), a78 (by omega), S2.2 (c - 1) (by omega), r72_18, a78_0, S2.2 0 (by omega), o72, r3, lf_cv_r, m_p179 hN h2 hc S3.1 hs c2, m_p232 hN h2 hc S3.1 hs c3, m_p269 hs c4]
        · rw [if_neg c1]
          refine ⟨τ, q1, q2, ?_⟩
          unfold g204_153
          rw [if_pos (show ¬ nI sh = 1 from fun z => c1 ((nI_eq (b := 1) (by omega) (by omega)).mp z)), m_p179 hN h2 hc S2.1 hs c2, m_p232 hN h2 hc S2.1 hs c3, m_p269 hs c4]
end RDU
