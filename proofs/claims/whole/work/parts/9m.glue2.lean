/-! the model glues -/
section GV
variable {cs : Nat × Nat} {N s t p q d e : Nat} {f g : Nat → Int32} {Z : Int32}
theorem m_jnX {σ : hp_S} {a b : Nat} (ha : a < 24) (hb : b < 24) (hne : a ≠ b) : ∃ τ, fr [76] [] σ τ ∧ (∀ k i, bt (τ.1 76 k) i = true ↔ bt (σ.1 76 k) i = true ∨ (k = a ∧ i = b) ∨ (k = b ∧ i = a)) ∧ f183 N 72 (nI a) (nI b) (hp σ, cs) = some (.inl none, (hp τ, cs)) := by
  refine ⟨_, (fr.wi (by decide)).tr (fr.wi (by decide)), fun k i => ?_, m_joins ha hb hne⟩
  show bt ((hp_2 σ 76 a b (σ.1 76 a ||| lf_shl 1 (nI b)) (σ.1 76 b ||| lf_shl 1 (nI a))).1 76 k) i = true ↔ _
  rw [hp_2_at]
  by_cases c1 : k = b
  · rw [if_pos c1, b_or_iff, b_one (by omega), c1]
    constructor
    · rintro (h | h)
      · exact Or.inl h
      · exact Or.inr (Or.inr ⟨rfl, h⟩)
    · rintro (h | h | h)
      · exact Or.inl h
      · omega
      · exact Or.inr h.2
  · rw [if_neg c1]
    by_cases c2 : k = a
    · rw [if_pos c2, b_or_iff, b_one (by omega), c2]
      constructor
      · rintro (h | h)
        · exact Or.inl h
        · exact Or.inr (Or.inl ⟨rfl, h⟩)
      · rintro (h | h | h)
        · exact Or.inl h
        · exact Or.inr h.2
        · omega
    · rw [if_neg c2]
      constructor
      · exact Or.inl
      · rintro (h | h | h)
        · exact h
        · omega
        · omega
theorem m_b213 {σ : hp_S} {s x j : Nat} {f : Nat → Int32} (hs : s < 8) (hx : x < 24) (hj : j < 32) (e : σ.1 75 (24 * s + x) = f x) : f213 N 72 (nI s) (nI x) (nI j) (hp σ, cs) = some (.inl (some (.int (if bt (f x) j = true then 1 else 0))), (hp σ, cs)) := by
  unfold f213
  rw [r72_3, show (24 : Int32) * nI s + nI x = nI (24 * s + x) by rw [show (24 : Int32) = nI 24 from rfl, pk_mul, nI_add], a75 (by omega), e, sh_bit (by omega)]
  cases bt (f x) j <;> rfl
/-- what may be set -/
def gT (f g : Nat → Int32) (p q : Nat) (Z : Int32) (k i : Nat) : Prop := k < p * q ∧ gB f g p Z k i = true
def gSn (σ : hp_S) (f g : Nat → Int32) (p q : Nat) (Z : Int32) : Prop := ∀ k i, k < 24 → bt (σ.1 76 k) i = true → gT f g p q Z k i
def gLe (σ τ : hp_S) : Prop := ∀ k i, bt (σ.1 76 k) i = true → bt (τ.1 76 k) i = true
def g75 (σ : hp_S) (s : Nat) (f : Nat → Int32) : Prop := ∀ k, k < 24 → σ.1 75 (24 * s + k) = f k
theorem gT_F {x y j : Nat} (hf : GW p d f) (hx : x < p) (hy : y < q) (h : bt (f x) j = true) (hz : Z = 0 ∨ y = 0) : gT f g p q Z (x + p * y) (j + p * y) ∧ gT f g p q Z (j + p * y) (x + p * y) ∧ x + p * y < p * q ∧ j + p * y < p * q ∧ x + p * y ≠ j + p * y := by
  have hp24 := hf.2.1
  obtain ⟨h1, h2, h3, h4⟩ := hf.2.2.2.2.1 x (by omega) j h
  have hb : p * (y + 1) ≤ p * q := Nat.mul_le_mul_left p hy
  rw [Nat.mul_add] at hb
  have hz' : (decide (Z = 0) || decide (y = 0)) = true := by simpa using hz
  refine ⟨⟨by omega, ?_⟩, ⟨by omega, ?_⟩, by omega, by omega, by omega⟩
  · unfold gB
    rw [(dm_of hx).1, (dm_of hx).2, (dm_of h2).1, (dm_of h2).2, h, hz', decide_eq_true rfl]
    rfl
  · unfold gB
    rw [(dm_of hx).1, (dm_of hx).2, (dm_of h2).1, (dm_of h2).2, h4, hz', decide_eq_true rfl]
    rfl
theorem gT_G {x y j : Nat} (hg : GW q e g) (hx : x < p) (hy : y < q) (h : bt (g y) j = true) : gT f g p q Z (x + p * y) (x + p * j) ∧ gT f g p q Z (x + p * j) (x + p * y) ∧ x + p * y < p * q ∧ x + p * j < p * q ∧ x + p * y ≠ x + p * j := by
  have hq24 := hg.2.1
  obtain ⟨h1, h2, h3, h4⟩ := hg.2.2.2.2.1 y (by omega) j h
  have hb : p * (y + 1) ≤ p * q := Nat.mul_le_mul_left p hy
  have hc : p * (j + 1) ≤ p * q := Nat.mul_le_mul_left p h2
  rw [Nat.mul_add] at hb hc
  refine ⟨⟨by omega, ?_⟩, ⟨by omega, ?_⟩, by omega, by omega, fun z => ?_⟩
  · unfold gB
    rw [(dm_of hx).1, (dm_of hx).2, (dm_of hx).1, (dm_of hx).2, h, decide_eq_true (show x = x from rfl), Bool.and_true, Bool.or_true]
  · unfold gB
    rw [(dm_of hx).1, (dm_of hx).2, (dm_of hx).1, (dm_of hx).2, h4, decide_eq_true (show x = x from rfl), Bool.and_true, Bool.or_true]
  · have z1 : p * y = p * j := by omega
    exact h3 (Nat.eq_of_mul_eq_mul_left (by omega) z1)
theorem m_gF {x y : Nat} {x1 : Int32} {k106 : Nat → Int32 → Int32 → Int32 → Int32 → Int32 → Int32 → Int32 → lf_W → lf_R} {k116 : Nat → Int32 → Int32 → Int32 → Int32 → Int32 → Int32 → Int32 → Int32 → lf_W → lf_R} (hs : s < 8) (hf : GW p d f) (hpq : p * q ≤ 24) (hx : x < p) (hy : y < q) (hq24 : q ≤ 24) : ∀ (m j u : Nat) (σ : hp_S), j + m = p → m < u → gSn σ f g p q Z → g75 σ s f → ∃ τ, fr [76] [] σ τ ∧ gSn τ f g p q Z ∧ gLe σ τ ∧ (∀ j', j ≤ j' → bt (f x) j' = true → (Z = 0 ∨ y = 0) → bt (τ.1 76 (x + p * y)) (j' + p * y) = true) ∧ g214_126 N k106 k116 u 72 x1 Z (nI s) (nI t) (nI p) (nI q) (nI y) (nI x) (nI j) (hp σ, cs) = g214_183 N k106 k116 N 72 x1 Z (nI s) (nI t) (nI p) (nI q) (nI y) (nI x) 0 (hp τ, cs) := by
  have hp24 := hf.2.1
  intro m
  induction m with
  | zero =>
    intro j u σ hj hu h1 h2
    obtain ⟨u, rfl⟩ : ∃ q, u = q + 1 := ⟨u - 1, by omega⟩
    refine ⟨σ, fr.rf, h1, fun _ _ z => z, fun j' a b => ?_, ?_⟩
    · have := (hf.2.2.2.2.1 x (by omega) j' b).2.1
      omega
    · unfold g214_126
      rw [if_pos (nI_le (by omega) (by omega))]
  | succ m ih =>
    intro j u σ hj hu h1 h2
    obtain ⟨u, rfl⟩ : ∃ q, u = q + 1 := ⟨u - 1, by omega⟩
    have e1 := m_b213 (cs := cs) (N := N) (σ := σ) (s := s) (x := x) (j := j) hs (by omega) (by omega) (h2 x (by omega))
    by_cases c : (Z = 0 ∨ y = 0) ∧ bt (f x) j = true
    · obtain ⟨a1, a2, a3, a4, a5⟩ := gT_F (g := g) (q := q) (Z := Z) hf hx hy c.2 c.1
      obtain ⟨τ, t1, t2, t3⟩ := m_jnX (σ := σ) (cs := cs) (N := N) (show x + p * y < 24 by omega) (show j + p * y < 24 by omega) a5
      obtain ⟨υ, v1, v2, v3, v4, v5⟩ := ih (j + 1) u τ (by omega) (by omega) (fun k i hk z => by
        rcases (t2 k i).mp z with z | z | z
        · exact h1 k i hk z
        · rw [z.1, z.2]; exact a1
        · rw [z.1, z.2]; exact a2) (fun k hk => by rw [t1.r (by decide)]; exact h2 k hk)
      refine ⟨υ, t1.tr v1, v2, fun k i z => v3 k i ((t2 k i).mpr (Or.inl z)), fun j' a b b2 => ?_, ?_⟩
      · by_cases z : j' = j
        · rw [z]
          exact v3 _ _ ((t2 _ _).mpr (Or.inr (Or.inl ⟨rfl, rfl⟩)))
        · exact v4 j' (by omega) b b2
      · rw [← v5]
        conv => lhs; unfold g214_126
        rw [if_neg (nI_ge (by omega) (by omega))]
        have e2 : g214_142 N k106 k116 (g214_126 N k106 k116 u) 72 x1 Z (nI s) (nI t) (nI p) (nI q) (nI y) (nI x) (nI j) (hp σ, cs) = g214_126 N k106 k116 u 72 x1 Z (nI s) (nI t) (nI p) (nI q) (nI y) (nI x) (nI (j + 1)) (hp τ, cs) := by
          unfold g214_142
          rw [o72, e1, if_pos c.2, lf_ci_r, if_neg (by decide), o72, pk_mul, nI_add, nI_add, t3, lf_cv_r]
          unfold g214_174
          rw [nI_1]
        by_cases z : Z = 0
        · rw [if_pos z, e2]
        · rw [if_neg z, if_neg (show ¬ ¬ nI y = 0 by rw [show y = 0 from c.1.resolve_left z]; decide), e2]
    · obtain ⟨υ, v1, v2, v3, v4, v5⟩ := ih (j + 1) u σ (by omega) (by omega) h1 h2
      refine ⟨υ, v1, v2, v3, fun j' a b b2 => ?_, ?_⟩
      · by_cases z : j' = j
        · exact absurd ⟨b2, z ▸ b⟩ c
        · exact v4 j' (by omega) b b2
      · rw [← v5]
        conv => lhs; unfold g214_126
        rw [if_neg (nI_ge (by omega) (by omega))]
        by_cases z : Z = 0 ∨ y = 0
        · have e2 : g214_142 N k106 k116 (g214_126 N k106 k116 u) 72 x1 Z (nI s) (nI t) (nI p) (nI q) (nI y) (nI x) (nI j) (hp σ, cs) = g214_126 N k106 k116 u 72 x1 Z (nI s) (nI t) (nI p) (nI q) (nI y) (nI x) (nI (j + 1)) (hp σ, cs) := by
            unfold g214_142
            rw [o72, e1, if_neg (fun z2 => c ⟨z, z2⟩), lf_ci_r, if_pos rfl]
            unfold g214_174
            rw [nI_1]
          by_cases z3 : Z = 0
          · rw [if_pos z3, e2]
          · rw [if_neg z3, if_neg (show ¬ ¬ nI y = 0 by rw [show y = 0 from z.resolve_left z3]; decide), e2]
        · rw [if_neg (fun z3 => z (Or.inl z3)), if_pos (show ¬ nI y = 0 from nI_ne0 (by omega) (by omega))]
          unfold g214_174
          rw [nI_1]
theorem m_gG {x y : Nat} {x1 : Int32} {k106 : Nat → Int32 → Int32 → Int32 → Int32 → Int32 → Int32 → Int32 → lf_W → lf_R} {k116 : Nat → Int32 → Int32 → Int32 → Int32 → Int32 → Int32 → Int32 → Int32 → lf_W → lf_R} (ht : t < 8) (hg : GW q e g) (hpq : p * q ≤ 24) (hx : x < p) (hy : y < q) : ∀ (m j u : Nat) (σ : hp_S), j + m = q → m < u → gSn σ f g p q Z → g75 σ t g → ∃ τ, fr [76] [] σ τ ∧ gSn τ f g p q Z ∧ gLe σ τ ∧ (∀ j', j ≤ j' → bt (g y) j' = true → bt (τ.1 76 (x + p * y)) (x + p * j') = true) ∧ g214_183 N k106 k116 u 72 x1 Z (nI s) (nI t) (nI p) (nI q) (nI y) (nI x) (nI j) (hp σ, cs) = k116 72 x1 Z (nI s) (nI t) (nI p) (nI q) (nI y) (nI (x + 1)) (hp τ, cs) := by
  have hq24 := hg.2.1
  intro m
  induction m with
  | zero =>
    intro j u σ hj hu h1 h2
    obtain ⟨u, rfl⟩ : ∃ q, u = q + 1 := ⟨u - 1, by omega⟩
    refine ⟨σ, fr.rf, h1, fun _ _ z => z, fun j' a b => ?_, ?_⟩
    · have := (hg.2.2.2.2.1 y (by omega) j' b).2.1
      omega
    · unfold g214_183
      rw [if_pos (nI_le (by omega) (by omega)), nI_1]
  | succ m ih =>
    intro j u σ hj hu h1 h2
    obtain ⟨u, rfl⟩ : ∃ q, u = q + 1 := ⟨u - 1, by omega⟩
    have e1 := m_b213 (cs := cs) (N := N) (σ := σ) (s := t) (x := y) (j := j) ht (by omega) (by omega) (h2 y (by omega))
    by_cases c : bt (g y) j = true
    · obtain ⟨a1, a2, a3, a4, a5⟩ := gT_G (f := f) (p := p) (Z := Z) hg hx hy c
      obtain ⟨τ, t1, t2, t3⟩ := m_jnX (σ := σ) (cs := cs) (N := N) (show x + p * y < 24 by omega) (show x + p * j < 24 by omega) a5
      obtain ⟨υ, v1, v2, v3, v4, v5⟩ := ih (j + 1) u τ (by omega) (by omega) (fun k i hk z => by
        rcases (t2 k i).mp z with z | z | z
        · exact h1 k i hk z
        · rw [z.1, z.2]; exact a1
        · rw [z.1, z.2]; exact a2) (fun k hk => by rw [t1.r (by decide)]; exact h2 k hk)
      refine ⟨υ, t1.tr v1, v2, fun k i z => v3 k i ((t2 k i).mpr (Or.inl z)), fun j' a b => ?_, ?_⟩
      · by_cases z : j' = j
        · rw [z]
          exact v3 _ _ ((t2 _ _).mpr (Or.inr (Or.inl ⟨rfl, rfl⟩)))
        · exact v4 j' (by omega) b
      · rw [← v5]
        conv => lhs; unfold g214_183
        rw [if_neg (nI_ge (by omega) (by omega)), o72, e1, if_pos c, lf_ci_r, if_neg (by decide), o72, pk_mul, pk_mul, nI_add, nI_add, t3, lf_cv_r]
        unfold g214_223
        rw [nI_1]
    · obtain ⟨υ, v1, v2, v3, v4, v5⟩ := ih (j + 1) u σ (by omega) (by omega) h1 h2
      refine ⟨υ, v1, v2, v3, fun j' a b => ?_, ?_⟩
      · by_cases z : j' = j
        · exact absurd (z ▸ b) c
        · exact v4 j' (by omega) b
      · rw [← v5]
        conv => lhs; unfold g214_183
        rw [if_neg (nI_ge (by omega) (by omega)), o72, e1, if_neg c, lf_ci_r, if_pos rfl]
        unfold g214_223
        rw [nI_1]
def gCp (τ : hp_S) (f g : Nat → Int32) (p : Nat) (Z : Int32) (y x : Nat) : Prop := (∀ j, bt (f x) j = true → (Z = 0 ∨ y = 0) → bt (τ.1 76 (x + p * y)) (j + p * y) = true) ∧ ∀ j, bt (g y) j = true → bt (τ.1 76 (x + p * y)) (x + p * j) = true
theorem gCp.le {τ υ : hp_S} {x y : Nat} (h : gCp τ f g p Z y x) (k : gLe τ υ) : gCp υ f g p Z y x := ⟨fun j a b => k _ _ (h.1 j a b), fun j a => k _ _ (h.2 j a)⟩
theorem m_gX {y : Nat} {x1 : Int32} {k106 : Nat → Int32 → Int32 → Int32 → Int32 → Int32 → Int32 → Int32 → lf_W → lf_R} (hs : s < 8) (ht : t < 8) (hN : iv_N N) (hf : GW p d f) (hg : GW q e g) (hpq : p * q ≤ 24) (hy : y < q) : ∀ (m x u : Nat) (σ : hp_S), x + m = p → m < u → gSn σ f g p q Z → g75 σ s f → g75 σ t g → ∃ τ, fr [76] [] σ τ ∧ gSn τ f g p q Z ∧ gLe σ τ ∧ (∀ x', x ≤ x' → x' < p → gCp τ f g p Z y x') ∧ g214_116 N k106 u 72 x1 Z (nI s) (nI t) (nI p) (nI q) (nI y) (nI x) (hp σ, cs) = k106 72 x1 Z (nI s) (nI t) (nI p) (nI q) (nI (y + 1)) (hp τ, cs) := by
  have hp24 := hf.2.1
  have hq24 := hg.2.1
  intro m
  induction m with
  | zero =>
    intro x u σ hx hu h1 h2 h3
    obtain ⟨u, rfl⟩ : ∃ q, u = q + 1 := ⟨u - 1, by omega⟩
    refine ⟨σ, fr.rf, h1, fun _ _ z => z, fun x' a b => by omega, ?_⟩
    unfold g214_116
    rw [if_pos (nI_le (by omega) (by omega)), nI_1]
  | succ m ih =>
    intro x u σ hx hu h1 h2 h3
    obtain ⟨u, rfl⟩ : ∃ q, u = q + 1 := ⟨u - 1, by omega⟩
    obtain ⟨τ, t1, t2, t3, t4, t5⟩ := m_gF (cs := cs) (N := N) (t := t) (g := g) (Z := Z) (x1 := x1) (k106 := k106) (k116 := g214_116 N k106 u) hs hf hpq (show x < p by omega) hy hq24 p 0 N σ (by omega) (by unfold iv_N at hN; omega) h1 h2
    obtain ⟨υ, v1, v2, v3, v4, v5⟩ := m_gG (cs := cs) (N := N) (s := s) (f := f) (Z := Z) (x1 := x1) (k106 := k106) (k116 := g214_116 N k106 u) ht hg hpq (show x < p by omega) hy q 0 N τ (by omega) (by unfold iv_N at hN; omega) t2 (fun k hk => by rw [t1.r (by decide)]; exact h3 k hk)
    have w := t1.tr v1
    obtain ⟨ω, w1, w2, w3, w4, w5⟩ := ih (x + 1) u υ (by omega) (by omega) v2 (fun k hk => by rw [w.r (by decide)]; exact h2 k hk) (fun k hk => by rw [w.r (by decide)]; exact h3 k hk)
    refine ⟨ω, w.tr w1, w2, fun k i z => w3 k i (v3 k i (t3 k i z)), fun x' a b => ?_, ?_⟩
    · by_cases z : x' = x
      · rw [z]
        exact ⟨fun j a b => w3 _ _ (v3 _ _ (t4 j (Nat.zero_le _) a b)), fun j a => w3 _ _ (v4 j (Nat.zero_le _) a)⟩
      · exact w4 x' (by omega) b
    · rw [← w5, ← v5, show nI 0 = 0 from rfl, ← t5]
      conv => lhs; unfold g214_116
      rw [if_neg (nI_ge (by omega) (by omega))]
      rfl
theorem m_gY {x1 : Int32} (hs : s < 8) (ht : t < 8) (hN : iv_N N) (hf : GW p d f) (hg : GW q e g) (hpq : p * q ≤ 24) : ∀ (m y u : Nat) (σ : hp_S), y + m = q → m < u → gSn σ f g p q Z → g75 σ s f → g75 σ t g → ∃ τ, fr [76] [] σ τ ∧ gSn τ f g p q Z ∧ gLe σ τ ∧ (∀ y' x', y ≤ y' → y' < q → x' < p → gCp τ f g p Z y' x') ∧ g214_106 N u 72 x1 Z (nI s) (nI t) (nI p) (nI q) (nI y) (hp σ, cs) = lf_cv (f179 N 72 x1 (hp τ, cs)) fun w2 => some (.inl (some (.int 1)), w2) := by
  have hp24 := hf.2.1
  have hq24 := hg.2.1
  intro m
  induction m with
  | zero =>
    intro y u σ hy hu h1 h2 h3
    obtain ⟨u, rfl⟩ : ∃ q, u = q + 1 := ⟨u - 1, by omega⟩
    refine ⟨σ, fr.rf, h1, fun _ _ z => z, fun y' x' a b => by omega, ?_⟩
    unfold g214_106
    rw [if_pos (nI_le (by omega) (by omega)), o72]
  | succ m ih =>
    intro y u σ hy hu h1 h2 h3
    obtain ⟨u, rfl⟩ : ∃ q, u = q + 1 := ⟨u - 1, by omega⟩
    obtain ⟨τ, t1, t2, t3, t4, t5⟩ := m_gX (cs := cs) (N := N) (Z := Z) (x1 := x1) (k106 := g214_106 N u) hs ht hN hf hg hpq (show y < q by omega) p 0 N σ (by omega) (by unfold iv_N at hN; omega) h1 h2 h3
    obtain ⟨ω, w1, w2, w3, w4, w5⟩ := ih (y + 1) u τ (by omega) (by omega) t2 (fun k hk => by rw [t1.r (by decide)]; exact h2 k hk) (fun k hk => by rw [t1.r (by decide)]; exact h3 k hk)
    refine ⟨ω, t1.tr w1, w2, fun k i z => w3 k i (t3 k i z), fun y' x' a b c => ?_, ?_⟩
    · by_cases z : y' = y
      · rw [z]
        exact (t4 x' (Nat.zero_le _) c).le w3
      · exact w4 y' x' (by omega) b c
    · rw [← w5, ← t5]
      conv => lhs; unfold g214_106
      rw [if_neg (nI_ge (by omega) (by omega))]
      rfl
/-- the rows are those of the class -/
theorem m_rows {τ : hp_S} {h : Nat → Int32} (hf : GW p d f) (hg : GW q e g) (hpq : p * q ≤ 24) (h1 : gSn τ f g p q Z) (h2 : ∀ y x, y < q → x < p → gCp τ f g p Z y x) (h3 : ∀ k, k < 24 → ∀ i, i < 32 → bt (h k) i = (decide (k < p * q) && gB f g p Z k i)) : ∀ k, k < 24 → τ.1 76 k = h k := by
  intro k hk
  apply b_ext
  intro i hi
  rw [h3 k hk i hi]
  have hp1 := hf.1
  by_cases c : k < p * q
  · rw [decide_eq_true c, Bool.true_and]
    cases z : gB f g p Z k i with
    | false =>
      cases z2 : bt (τ.1 76 k) i with
      | false => rfl
      | true =>
        have := (h1 k i hk z2).2
        rw [z] at this
        exact absurd this (by decide)
    | true =>
      have hx : k % p < p := Nat.mod_lt _ (by omega)
      have hy : k / p < q := Nat.div_lt_of_lt_mul c
      have ek := of_dm (p := p) (i := k)
      have ei := of_dm (p := p) (i := i)
      obtain ⟨c1, c2⟩ := h2 (k / p) (k % p) hy hx
      rw [← ek] at c1 c2
      unfold gB at z
      simp only [Bool.or_eq_true, Bool.and_eq_true, decide_eq_true_iff] at z
      rcases z with ⟨z1, z2, z3⟩ | ⟨z1, z2⟩
      · have := c1 _ z2 z3
        rw [← z1, ← ei] at this
        exact this
      · have := c2 _ z2
        rw [← z1, ← ei] at this
        exact this
  · rw [decide_eq_false c, Bool.false_and]
    cases z2 : bt (τ.1 76 k) i with
    | false => rfl
    | true => exact absurd (h1 k i hk z2).1 c
/-- it is a net -/
theorem gB_GW {h : Nat → Int32} (hf : GW p d f) (hg : GW q e g) (hpq : p * q ≤ 24) (hde : d + e ≤ 8) (h3 : ∀ k, k < 24 → ∀ i, i < 32 → bt (h k) i = (decide (k < p * q) && gB f g p Z k i)) (h4 : ∀ k, k < 24 → i_pc (h k) ≤ d + e) : GW (p * q) (d + e) h := by
  have hp1 := hf.1
  have hp24 := hf.2.1
  have hq24 := hg.2.1
  refine ⟨Nat.mul_pos hf.1 hg.1, hpq, by have := hf.2.2.1; omega, hde, fun a ha b hb => ?_, h4⟩
  have hb32 : b < 32 := bt_lt hb
  have hb' := hb
  rw [h3 a ha b hb32] at hb'
  simp only [Bool.and_eq_true, decide_eq_true_iff] at hb'
  obtain ⟨a1, a2⟩ := hb'
  have hx : a % p < p := Nat.mod_lt _ (by omega)
  have hy : a / p < q := Nat.div_lt_of_lt_mul a1
  have ea := of_dm (p := p) (i := a)
  have eb := of_dm (p := p) (i := b)
  have fin : ∀ (h5 : gT f g p q Z b a) (h6 : b < p * q) (h7 : a ≠ b), a < p * q ∧ b < p * q ∧ a ≠ b ∧ bt (h b) a = true := fun h5 h6 h7 => ⟨a1, h6, h7, by
    rw [h3 b (by omega) a (by omega), decide_eq_true h6, h5.2]
    rfl⟩
  unfold gB at a2
  simp only [Bool.or_eq_true, Bool.and_eq_true, decide_eq_true_iff] at a2
  rcases a2 with ⟨z1, z2, z3⟩ | ⟨z1, z2⟩
  · obtain ⟨t1, t2, t3, t4, t5⟩ := gT_F (g := g) (q := q) hf hx hy z2 z3
    rw [← ea] at t1 t2 t3 t5
    rw [← z1, ← eb] at t2 t4 t5
    exact fin t2 t4 t5
  · obtain ⟨t1, t2, t3, t4, t5⟩ := gT_G (f := f) (p := p) (Z := Z) hg hx hy z2
    rw [← ea] at t1 t2 t3 t5
    rw [← z1, ← eb] at t2 t4 t5
    exact fin t2 t4 t5
end GV
