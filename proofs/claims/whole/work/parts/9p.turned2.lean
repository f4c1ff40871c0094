/-! moves of the model, and nets that are turned -/
section TV
variable {cs : Nat × Nat} {N K a b r : Nat} {M : Int32} {σ : hp_S}
theorem m_ml {w : lf_W} (h : gok K a b) (hN : iv_N N) (hb : ∀ i, bt M i = true → i < a * b) : ∀ (c y u : Nat) (X : Int32), y + c = a * b → c < u → (X = 0 ∨ X = 1) → ∃ v : Int32, (v = 0 ∨ v = 1) ∧ (v = 1 ↔ X = 1 ∧ ∀ i, y ≤ i → bt M i = true → bt M (ginv K a b i) = true) ∧ g210_36 N u (nI K) (nI a) (nI b) M X (nI y) w = some (.inl (some (.int v)), w) := by
  have h24 := h.2.2.1
  intro c
  induction c with
  | zero =>
    intro y u X hy hu hX
    obtain ⟨u, rfl⟩ : ∃ q, u = q + 1 := ⟨u - 1, by omega⟩
    refine ⟨X, hX, ⟨fun z => ⟨z, fun i hi z => by have := hb i z; omega⟩, fun z => z.1⟩, ?_⟩
    unfold g210_36
    rw [pk_mul, if_pos (nI_le (by omega) (by omega)), if_pos hX]
  | succ c ih =>
    intro y u X hy hu hX
    obtain ⟨u, rfl⟩ : ∃ q, u = q + 1 := ⟨u - 1, by omega⟩
    have e0 : ∀ X : Int32, g210_82 N (g210_36 N u) (nI K) (nI a) (nI b) M X (nI y) w = g210_36 N u (nI K) (nI a) (nI b) M X (nI (y + 1)) w := by
      intro X
      unfold g210_82
      rw [nI_1]
    have z0 : ¬ (0 : Int32) = 1 := by decide
    have pre : g210_36 N (u + 1) (nI K) (nI a) (nI b) M X (nI y) w = (if ¬ (if bt M y = true then (1 : Int32) else 0) = 1 then (g210_82 N (g210_36 N u) (nI K) (nI a) (nI b) M X (nI y) w) else (if X = 0 then (g210_79 N (g210_36 N u) (nI K) (nI a) (nI b) M (nI y) w) else (lf_ci (f209 N (nI K) (nI a) (nI b) (nI y) w) fun v8 w5 => if ¬ ((lf_shr M v8) &&& 1) = 1 then (g210_79 N (g210_36 N u) (nI K) (nI a) (nI b) M (nI y) w5) else (g210_80 N (g210_36 N u) (nI K) (nI a) (nI b) M (nI y) 1 w5)))) := by
      rw [g210_36]
      rw [pk_mul, if_neg (nI_ge (by omega) (by omega)), sh_bit (by omega)]
    rw [pre]
    by_cases c1 : bt M y = true
    · rw [if_pos c1, if_neg (fun z => z rfl)]
      rcases hX with rfl | rfl
      · obtain ⟨v, v1, v2, v3⟩ := ih (y + 1) u 0 (by omega) (by omega) (Or.inl rfl)
        refine ⟨v, v1, ⟨fun z => absurd (v2.mp z).1 z0, fun z => absurd z.1 z0⟩, ?_⟩
        rw [if_pos rfl]
        unfold g210_79 g210_80
        rw [e0, v3]
      · have gi := (g_inv h (hb y c1)).1
        have ef : f209 N (nI K) (nI a) (nI b) (nI y) w = some (.inl (some (.int (nI (ginv K a b y)))), w) := by
          unfold f209
          exact m_gi h (hb y c1) (ginv K a b y) 0 N (by omega) (by unfold iv_N at hN; omega)
        rw [if_neg (by decide), ef, lf_ci_r, sh_bit (by omega)]
        by_cases c2 : bt M (ginv K a b y) = true
        · obtain ⟨v, v1, v2, v3⟩ := ih (y + 1) u 1 (by omega) (by omega) (Or.inr rfl)
          refine ⟨v, v1, ⟨fun z => ⟨rfl, fun i hi z1 => ?_⟩, fun z => v2.mpr ⟨rfl, fun i hi => z.2 i (by omega)⟩⟩, ?_⟩
          · by_cases e : i = y
            · rw [e]; exact c2
            · exact (v2.mp z).2 i (by omega) z1
          · rw [if_pos c2, if_neg (fun z => z rfl)]
            unfold g210_80
            rw [e0, v3]
        · obtain ⟨v, v1, v2, v3⟩ := ih (y + 1) u 0 (by omega) (by omega) (Or.inl rfl)
          refine ⟨v, v1, ⟨fun z => absurd (v2.mp z).1 z0, fun z => absurd (z.2 y (Nat.le_refl _) c1) c2⟩, ?_⟩
          rw [if_neg c2, if_pos (by decide)]
          unfold g210_79 g210_80
          rw [e0, v3]
    · obtain ⟨v, v1, v2, v3⟩ := ih (y + 1) u X (by omega) (by omega) hX
      refine ⟨v, v1, ⟨fun z => ⟨(v2.mp z).1, fun i hi z1 => ?_⟩, fun z => v2.mpr ⟨z.1, fun i hi => z.2 i (by omega)⟩⟩, ?_⟩
      · by_cases e : i = y
        · exact absurd (e ▸ z1) c1
        · exact (v2.mp z).2 i (by omega) z1
      · rw [if_neg c1, if_pos (by decide), e0, v3]
theorem m_moves {w : lf_W} (h : gok K a b) (hN : iv_N N) : (gmv K a b M → f210 N (nI K) (nI a) (nI b) M w = some (.inl (some (.int 1)), w)) ∧ (¬ gmv K a b M → f210 N (nI K) (nI a) (nI b) M w = some (.inl (some (.int 0)), w)) := by
  have h24 := h.2.2.1
  have hab : 1 ≤ a * b := Nat.mul_pos h.1 h.2.1
  have hpc : i_pc M ≤ 32 := i_pc_max (by omega) (fun i hi => bt_lt hi)
  have e8 : (nI (i_pc M) ≤ 8) = (i_pc M ≤ 8) := by
    rw [show (8 : Int32) = nI 8 from rfl, q_le (by omega) (by omega)]
  have lo : ∀ P : Prop, (∀ i, bt M i = true → i < a * b) → bt M 0 = false → ((1 : Int32) = 1 ∧ (∀ i, 1 ≤ i → bt M i = true → bt M (ginv K a b i) = true) ↔ ∀ i, bt M i = true → bt M (ginv K a b i) = true) := fun _ _ h0 => ⟨fun z i hi => z.2 i (by
      rcases Nat.eq_zero_or_pos i with e | e
      · rw [e, h0] at hi; cases hi
      · exact e) hi, fun z => ⟨rfl, fun i _ => z i⟩⟩
  unfold f210
  constructor
  · rintro ⟨m1, m2, m3, m4⟩
    rw [if_neg (fun z => by have := m3 31 (neg_31 z); omega), and1, if_neg (show ¬ bt M 0 = true by rw [m2]; decide), if_neg (by decide), pk_mul, if_neg (show ¬ ¬ lf_shr M (nI (a * b)) = 0 from fun z => z (shr_0 (by omega) m3)), m_pc hN, lf_ci_r, if_pos (by rw [e8]; exact m1)]
    obtain ⟨v, v1, v2, v3⟩ := m_ml (w := w) h hN m3 (a * b - 1) 1 N 1 (by omega) (by unfold iv_N at hN; omega) (Or.inr rfl)
    rw [v2.mpr ((lo True m3 m2).mpr m4)] at v3
    exact v3
  · intro hm
    by_cases c0 : M < 0
    · rw [if_pos c0]
    rw [if_neg c0, and1]
    by_cases m2 : bt M 0 = true
    · rw [if_pos m2, if_pos rfl]
    rw [if_neg m2, if_neg (by decide), pk_mul]
    by_cases m3 : lf_shr M (nI (a * b)) = 0
    · rw [if_neg (fun z => z m3), m_pc hN, lf_ci_r]
      have m3' := shr_0' (by omega) m3
      by_cases m1 : i_pc M ≤ 8
      · rw [if_pos (by rw [e8]; exact m1)]
        obtain ⟨v, v1, v2, v3⟩ := m_ml (w := w) h hN m3' (a * b - 1) 1 N 1 (by omega) (by unfold iv_N at hN; omega) (Or.inr rfl)
        have v0 : v = 0 := v1.resolve_right (fun z => hm ⟨m1, by simpa using m2, m3', (lo True m3' (by simpa using m2)).mp (v2.mp z)⟩)
        rw [v0] at v3
        exact v3
      · rw [if_neg (by rw [e8]; exact m1)]
    · rw [if_pos m3]
/-- the lines of a turned net -/
def tL (K a b : Nat) (M : Int32) (k i : Nat) : Prop := ∃ m, bt M m = true ∧ i = gop K a b k m
theorem c_tX {x : Nat} {k23 : Nat → Nat → Int32 → Int32 → lf_W → lf_R} (hr : r < 8) (h : gok K a b) (hm : ∀ i, bt M i = true → i < a * b) (hx : x < a * b) : ∀ (c u : Nat) (X : Int32) (σ : hp_S), i_pc X = c → c < u → (∀ i, bt X i = true → bt M i = true) → gF3 σ K a b → ∃ τ, fr [3 + 2 * r] [] σ τ ∧ (∀ k, k ≠ x → τ.1 (3 + 2 * r) k = σ.1 (3 + 2 * r) k) ∧ (∀ i, bt (τ.1 (3 + 2 * r) x) i = true ↔ bt (σ.1 (3 + 2 * r) x) i = true ∨ ∃ m, bt X m = true ∧ i = gop K a b x m) ∧ i_pc (τ.1 (3 + 2 * r) x) ≤ i_pc (σ.1 (3 + 2 * r) x) + c ∧ g43_34 N k23 u 25 (2 + 2 * r) M (nI x) X (hp σ, cs) = k23 25 (2 + 2 * r) M (nI (x + 1)) (hp τ, cs) := by
  have h24 := h.2.2.1
  intro c
  induction c with
  | zero =>
    intro u X σ hX hu hs h3
    obtain ⟨u, rfl⟩ : ∃ q, u = q + 1 := ⟨u - 1, by omega⟩
    have h0 : X = 0 := by
      apply Classical.byContradiction
      intro z
      obtain ⟨l, -, -, -, el, -⟩ := bl_low z
      have := bl_len X
      rw [el, List.length_cons] at this
      omega
    refine ⟨σ, fr.rf, fun _ _ => rfl, fun i => ⟨Or.inl, fun z => z.resolve_right (fun ⟨m, z1, _⟩ => by rw [h0, b_0] at z1; cases z1)⟩, by omega, ?_⟩
    unfold g43_34
    rw [if_pos h0, nI_1]
  | succ c ih =>
    intro u X σ hX hu hs h3
    obtain ⟨u, rfl⟩ : ∃ q, u = q + 1 := ⟨u - 1, by omega⟩
    have h0 : ¬ X = 0 := by
      intro z
      rw [z, i_pc_0] at hX
      omega
    obtain ⟨l, l1, l2, l3, l4, l5⟩ := bl_low h0
    have hX' : i_pc (X &&& (X - 1)) = c := by
      have h1 := bl_len X
      have h2 := bl_len (X &&& (X - 1))
      rw [l4, List.length_cons] at h1
      omega
    have hl := hm l (hs l l2)
    have ho := (g_op h hx hl).1
    have w1 : fr [3 + 2 * r] [] σ (hp_wi σ (3 + 2 * r) x (σ.1 (3 + 2 * r) x ||| lf_shl 1 (nI (gop K a b x l)))) := fr.wi List.mem_cons_self
    obtain ⟨τ, t1, t2, t3, t4, t5⟩ := ih u (X &&& (X - 1)) (hp_wi σ (3 + 2 * r) x (σ.1 (3 + 2 * r) x ||| lf_shl 1 (nI (gop K a b x l)))) hX' (by omega) (fun i hi => by
      rw [l3] at hi
      simp only [Bool.and_eq_true] at hi
      exact hs i hi.1) h3
    refine ⟨τ, w1.tr t1, fun k hk => ?_, fun i => ?_, ?_, ?_⟩
    · rw [t2 k hk, hp_wi_nj hk]
    · rw [t3 i, hp_wi_at, b_or_iff, b_one (by omega)]
      constructor
      · rintro ((z | z) | ⟨m, z1, z2⟩)
        · exact Or.inl z
        · exact Or.inr ⟨l, l2, z⟩
        · rw [l3] at z1
          simp only [Bool.and_eq_true] at z1
          exact Or.inr ⟨m, z1.1, z2⟩
      · rintro (z | ⟨m, z1, z2⟩)
        · exact Or.inl (Or.inl z)
        · by_cases e : m = l
          · exact Or.inl (Or.inr (e ▸ z2))
          · exact Or.inr ⟨m, by rw [l3, z1, decide_eq_true e]; rfl, z2⟩
    · rw [hp_wi_at] at t4
      have := or1_pc (x := σ.1 (3 + 2 * r) x) (show gop K a b x l < 32 by omega)
      omega
    · rw [g43_34]
      rw [if_neg h0, sN_r hr, sN_ri hr (by omega), (l5 N _).1, lf_nest_r, lf_ci_r, o25, c_op h h3 (by omega) (by omega), lf_ci_r, sN_wi hr (by omega)]
      exact t5
def tP (σ : hp_S) (r K a b : Nat) (M : Int32) (T : Nat) : Prop := ∀ k, k < 24 → (∀ i, bt (σ.1 (3 + 2 * r) k) i = true ↔ k < T ∧ tL K a b M k i) ∧ i_pc (σ.1 (3 + 2 * r) k) ≤ i_pc M ∧ (T ≤ k → σ.1 (3 + 2 * r) k = 0)
theorem c_tO (hr : r < 8) (h : gok K a b) (hN : iv_N N) (hm : ∀ i, bt M i = true → i < a * b) : ∀ (c x u : Nat) (σ : hp_S), x + c = a * b → c < u → σ.2.2.1 (2 + 2 * r) 1 = nI (a * b) → gF3 σ K a b → tP σ r K a b M x → ∃ τ, fr [3 + 2 * r] [] σ τ ∧ tP τ r K a b M (a * b) ∧ g43_23 N u 25 (2 + 2 * r) M (nI x) (hp σ, cs) = some (.inl none, (hp τ, cs)) := by
  have h24 := h.2.2.1
  have hpc : i_pc M ≤ 32 := i_pc_max (by omega) (fun i hi => bt_lt hi)
  intro c
  induction c with
  | zero =>
    intro x u σ hx hu e h3 hP
    obtain ⟨u, rfl⟩ : ∃ q, u = q + 1 := ⟨u - 1, by omega⟩
    refine ⟨σ, fr.rf, by rw [show a * b = x by omega]; exact hP, ?_⟩
    unfold g43_23
    rw [sN_1 hr, e, if_pos (nI_le (by omega) (by omega))]
  | succ c ih =>
    intro x u σ hx hu e h3 hP
    obtain ⟨u, rfl⟩ : ∃ q, u = q + 1 := ⟨u - 1, by omega⟩
    obtain ⟨τ, t1, t2, t3, t4, t5⟩ := c_tX (cs := cs) (N := N) (r := r) (k23 := g43_23 N u) hr h hm (show x < a * b by omega) (i_pc M) N M σ rfl (by unfold iv_N at hN; omega) (fun _ z => z) h3
    have x0 := (hP x (by omega)).2.2 (Nat.le_refl _)
    have h3' : gF3 τ K a b := ⟨by rw [t1.f List.not_mem_nil]; exact h3.1, by rw [t1.f List.not_mem_nil]; exact h3.2.1, by rw [t1.f List.not_mem_nil]; exact h3.2.2⟩
    obtain ⟨υ, v1, v2, v3⟩ := ih (x + 1) u τ (by omega) (by omega) (by rw [t1.f List.not_mem_nil]; exact e) h3' (fun k hk => by
      by_cases q : k = x
      · subst q
        refine ⟨fun i => ?_, ?_, fun z => by omega⟩
        · rw [t3 i, x0]
          constructor
          · rintro (z | z)
            · rw [b_0] at z; cases z
            · exact ⟨by omega, z⟩
          · rintro ⟨-, z⟩
            exact Or.inr z
        · rw [x0, i_pc_0] at t4
          omega
      · obtain ⟨p1, p2, p3⟩ := hP k hk
        rw [t2 k q]
        refine ⟨fun i => ?_, p2, fun z => p3 (by omega)⟩
        rw [p1 i]
        constructor
        · exact fun z => ⟨by omega, z.2⟩
        · exact fun z => ⟨by omega, z.2⟩)
    refine ⟨υ, t1.tr v1, v2, ?_⟩
    rw [g43_23]
    rw [sN_1 hr, e, if_neg (nI_ge (by omega) (by omega))]
    exact t5.trans v3
theorem c_turnN (hr : r < 8) (h : gok K a b) (hN : iv_N N) (hm : ∀ i, bt M i = true → i < a * b) (hp8 : i_pc M ≤ 8) (h3 : gF3 σ K a b) : ∃ τ, fr [3 + 2 * r] [(2 + 2 * r, 1), (2 + 2 * r, 2)] σ τ ∧ τ.2.2.1 (2 + 2 * r) 1 = nI (a * b) ∧ τ.2.2.1 (2 + 2 * r) 2 = nI (if 1 < i_pc M then i_pc M else 1) ∧ tP τ r K a b M (a * b) ∧ f43 N 25 (2 + 2 * r) M (hp σ, cs) = some (.inl none, (hp τ, cs)) := by
  have h24 := h.2.2.1
  have w0 : fr [3 + 2 * r] [(2 + 2 * r, 1), (2 + 2 * r, 2)] σ (c_bg σ r (nI (a * b)) (nI (if 1 < i_pc M then i_pc M else 1))) := ((fr.wf (k := 1) (by simp)).tr (fr.wf (k := 2) (by simp))).tr ⟨fun a h => ⟨hp_fill_ne (by simp at h; exact h), rfl⟩, fun a k h => ⟨rfl, rfl⟩⟩
  obtain ⟨τ, t1, t2, t3⟩ := c_tO (cs := cs) (N := N) (r := r) hr h hN hm (a * b) 0 N (c_bg σ r (nI (a * b)) (nI (if 1 < i_pc M then i_pc M else 1))) (by omega) (by unfold iv_N at hN; omega) (by
    show (hp_wf (hp_wf σ (2 + 2 * r) 1 (nI (a * b))) (2 + 2 * r) 2 (nI (if 1 < i_pc M then i_pc M else 1))).2.2.1 (2 + 2 * r) 1 = _
    rw [hp_wf_ne (by omega), hp_wf_at]) ⟨by rw [w0.f (by simp <;> omega)]; exact h3.1, by rw [w0.f (by simp <;> omega)]; exact h3.2.1, by rw [w0.f (by simp <;> omega)]; exact h3.2.2⟩ (fun k hk => by
    rw [show (c_bg σ r (nI (a * b)) (nI (if 1 < i_pc M then i_pc M else 1))).1 (3 + 2 * r) k = 0 from hp_fill_at hk]
    refine ⟨fun i => ⟨fun z => absurd z (by rw [b_0]; decide), fun z => absurd z.1 (Nat.not_lt_zero _)⟩, by rw [i_pc_0]; omega, fun _ => rfl⟩)
  refine ⟨τ, w0.tr (t1.wk (fun _ z => z) (fun _ z => absurd z List.not_mem_nil)), ?_, ?_, t2, ?_⟩
  · rw [t1.f List.not_mem_nil]
    show (hp_wf (hp_wf σ (2 + 2 * r) 1 (nI (a * b))) (2 + 2 * r) 2 (nI (if 1 < i_pc M then i_pc M else 1))).2.2.1 (2 + 2 * r) 1 = _
    rw [hp_wf_ne (by omega), hp_wf_at]
  · rw [t1.f List.not_mem_nil]
    show (hp_wf (hp_wf σ (2 + 2 * r) 1 (nI (a * b))) (2 + 2 * r) 2 (nI (if 1 < i_pc M then i_pc M else 1))).2.2.1 (2 + 2 * r) 2 = _
    rw [hp_wf_at]
  · unfold f43
    rw [i25_1, h3.2.1, i25_2, h3.2.2, c_pc, lf_ci_r, sN_o hr, pk_mul, show lf_max 1 (nI (i_pc M)) = nI (if 1 < i_pc M then i_pc M else 1) from max_nI (a := 1) (by omega) (by omega), c_begin hr hN, lf_cv_r]
    exact t3
end TV
