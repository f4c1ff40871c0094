/-! the determinant's numbers -/
def cfT (f : Nat → Int32) (n : Nat) : Nat → Nat → Int64
  | 0, _ => 1
  | k + 1, j => if j = k + 1 then (-(lS (fun i => cfT f n k (k - i) * tR f n (i + 1)) (k + 1))) / (nI (k + 1)).toInt64 else cfT f n k j
def cf (f : Nat → Int32) (n k : Nat) : Int64 := cfT f n k k
theorem cfT_le {f : Nat → Int32} {n j : Nat} : ∀ (k : Nat), j ≤ k → cfT f n k j = cf f n j
  | 0, h => by rw [Nat.le_zero.mp h]; rfl
  | k + 1, h => by
    by_cases c : j = k + 1
    · rw [c]; rfl
    · show (if j = k + 1 then _ else cfT f n k j) = _
      rw [if_neg c]
      exact cfT_le k (by omega)
theorem cf_0 {f : Nat → Int32} {n : Nat} : cf f n 0 = 1 := rfl
theorem cf_s {f : Nat → Int32} {n k : Nat} : cf f n (k + 1) = (-(lS (fun i => cf f n (k - i) * tR f n (i + 1)) (k + 1))) / (nI (k + 1)).toInt64 := by
  show (if k + 1 = k + 1 then (-(lS (fun i => cfT f n k (k - i) * tR f n (i + 1)) (k + 1))) / (nI (k + 1)).toInt64 else cfT f n k (k + 1)) = _
  rw [if_pos rfl, lS_congr (fun i _ => by rw [cfT_le k (by omega)])]
theorem k64 {k : Nat} (h1 : 1 ≤ k) (h2 : k ≤ 12) : ¬ (nI k).toInt64 = 0 := by
  intro q
  have : (nI k).toInt64.toInt = (0 : Int64).toInt := by rw [q]
  rw [Int32.toInt_toInt64, nI_toInt (by omega)] at this
  have e : (0 : Int64).toInt = 0 := rfl
  omega
/-- the model's tables -/
def Tm (f : Nat → Int32) (n : Nat) : Nat → Nat → Nat → Int64
  | 0, _, _ => 0
  | k + 1, a, b => lf9 (fun c => Tm f n k c b + (if c = b then cf f n k else 0)) (bl (f a)) 0
theorem Tm_s {f : Nat → Int32} {n : Nat} (hn : n ≤ 24) (hw : gw f n) {b : Nat} (hb : b < n) : ∀ (k a : Nat), a < n → Tm f n k a b = lS (fun i => cf f n (k - 1 - i) * MP f (i + 1) a b) k
  | 0, _, _ => rfl
  | k + 1, a, ha => by
    have e1 : Tm f n (k + 1) a b = lS (fun c => ad f a c * (Tm f n k c b + (if c = b then cf f n k else 0))) n := by
      show lf9 (fun c => Tm f n k c b + (if c = b then cf f n k else 0)) (bl (f a)) 0 = _
      rw [bl_n (x := f a) (n := n) (by omega) (fun i q => (hw a (by omega) i q).2.1), ← List.range_eq_range', lf9_filter]
      refine lS_congr (fun w _ => ?_)
      unfold ad
      by_cases c : bt (f a) w = true
      · rw [if_pos c, if_pos c, Int64.one_mul]
      · rw [if_neg c, if_neg c, Int64.zero_mul]
    have e2 : lS (fun c => ad f a c * (Tm f n k c b + (if c = b then cf f n k else 0))) n = lS (fun c => ad f a c * Tm f n k c b) n + lS (fun c => (if b = c then 1 else 0) * (ad f a c * cf f n k)) n := by
      rw [← lS_add]
      refine lS_congr (fun c _ => ?_)
      rw [Int64.mul_add]
      by_cases d : c = b
      · rw [if_pos d, if_pos d.symm, Int64.one_mul]
      · rw [if_neg d, if_neg (fun q => d q.symm), Int64.mul_zero, Int64.zero_mul]
    have e3 : lS (fun c => ad f a c * Tm f n k c b) n = lS (fun i => cf f n (k - 1 - i) * MP f (i + 2) a b) k := by
      rw [lS_congr (G := fun c => lS (fun i => ad f a c * (cf f n (k - 1 - i) * MP f (i + 1) c b)) k) (fun c hc => by rw [Tm_s hn hw hb k c hc, lS_mul]), lS_swap]
      refine lS_congr (fun i _ => ?_)
      rw [MP_s hn hw (h := i + 1) ha, ← lS_mul]
      refine lS_congr (fun c _ => ?_)
      rw [← Int64.mul_assoc, Int64.mul_comm (ad f a c), Int64.mul_assoc]
    rw [e1, e2, e3, lS_one hb, lS_front, MP_1 hn hw ha hb, Int64.add_comm]
    rw [show k + 1 - 1 - 0 = k by omega, Int64.mul_comm]
    congr 1
    refine lS_congr (fun i hi => ?_)
    rw [show k + 1 - 1 - (i + 1) = k - 1 - i by omega]
theorem Tm_tr {f : Nat → Int32} {n : Nat} (hn : n ≤ 24) (hw : gw f n) (k : Nat) : lS (fun a => Tm f n (k + 1) a a) n = lS (fun i => cf f n (k - i) * tR f n (i + 1)) (k + 1) := by
  rw [lS_congr (G := fun a => lS (fun i => cf f n (k - i) * MP f (i + 1) a a) (k + 1)) (fun a ha => by
    rw [Tm_s hn hw ha (k + 1) a ha]
    exact lS_congr (fun i _ => by rw [show k + 1 - 1 - i = k - i by omega])), lS_swap]
  refine lS_congr (fun i _ => ?_)
  unfold tR
  rw [lS_mul]
section PY
variable {cs : Nat × Nat} {N n : Nat} {f : Nat → Int32}
theorem ix_12 (i j : Nat) : (12 : Int32) * nI i + nI j = nI (12 * i + j) := by rw [show (12 : Int32) = nI 12 from rfl, pk_mul, nI_add]
/-- expand -/
theorem c_ex1 {σ : hp_S} {k : Nat} {k20 : Nat → Int32 → Int32 → lf_W → lf_R} (hn : n ≤ 12) (hk : k + 1 ≤ n) (ht : ∀ i, i ≤ n → σ.2.1 40 i = tR f n i) (hc : ∀ j, j ≤ k → σ.2.1 41 (n - j) = cf f n j) : ∀ (m i u : Nat) (acc : Int64), i + m = k + 1 → m < u → g68_31 N k20 u 37 (nI n) (nI (k + 1)) acc (nI (i + 1)) (hp σ, cs) = k20 37 (nI n) (nI (k + 2)) (hp (hp_wl σ 41 (n - (k + 1)) ((-(acc + lS (fun j => cf f n (k - (i + j)) * tR f n (i + j + 1)) m)) / (nI (k + 1)).toInt64)), cs) := by
  intro m
  induction m with
  | zero =>
    intro i u acc hi hu
    obtain ⟨u, rfl⟩ : ∃ q, u = q + 1 := ⟨u - 1, by omega⟩
    unfold g68_31
    rw [if_pos (nI_lt (by omega) (by omega)), r37_3, if_neg (k64 (by omega) (by omega)), pk_sub hk, b41 (by omega), nI_1]
    show k20 37 (nI n) (nI (k + 1 + 1)) (hp (hp_wl σ 41 (n - (k + 1)) ((-acc) / (nI (k + 1)).toInt64)), cs) = k20 37 (nI n) (nI (k + 2)) (hp (hp_wl σ 41 (n - (k + 1)) ((-(acc + 0)) / (nI (k + 1)).toInt64)), cs)
    rw [Int64.add_zero]
  | succ m ih =>
    intro i u acc hi hu
    obtain ⟨u, rfl⟩ : ∃ q, u = q + 1 := ⟨u - 1, by omega⟩
    unfold g68_31
    rw [if_neg (nI_nlt (by omega) (by omega)), r37_3, pk_sub hk, nI_add, a41 (by omega), r37_2, a40 (by omega), ht (i + 1) (by omega), nI_1]
    rw [show n - (k + 1) + (i + 1) = n - (k - i) by omega, hc (k - i) (by omega), ih (i + 1) u _ (by omega) (by omega), lS_front]
    rw [lS_congr (F := fun j => cf f n (k - (i + 1 + j)) * tR f n (i + 1 + j + 1)) (G := fun j => cf f n (k - (i + (j + 1))) * tR f n (i + (j + 1) + 1)) (fun j _ => by rw [show i + 1 + j = i + (j + 1) by omega]), Int64.add_assoc]
    rfl
theorem c_ex2 (hn : n ≤ 12) (hN : iv_N N) : ∀ (m k u : Nat) (σ : hp_S), k + m = n → m < u → (∀ i, i ≤ n → σ.2.1 40 i = tR f n i) → (∀ j, j ≤ k → σ.2.1 41 (n - j) = cf f n j) → ∃ τ, fr [41] [] σ τ ∧ (∀ j, j ≤ n → τ.2.1 41 (n - j) = cf f n j) ∧ g68_20 N u 37 (nI n) (nI (k + 1)) (hp σ, cs) = some (.inl none, (hp τ, cs)) := by
  intro m
  induction m with
  | zero =>
    intro k u σ hk hu ht hc
    obtain ⟨u, rfl⟩ : ∃ q, u = q + 1 := ⟨u - 1, by omega⟩
    refine ⟨σ, fr.rf, fun j hj => hc j (by omega), ?_⟩
    unfold g68_20
    rw [if_pos (nI_lt (by omega) (by omega))]
  | succ m ih =>
    intro k u σ hk hu ht hc
    obtain ⟨u, rfl⟩ : ∃ q, u = q + 1 := ⟨u - 1, by omega⟩
    have h1 := c_ex1 (σ := σ) (cs := cs) (N := N) (f := f) (k := k) (k20 := g68_20 N u) hn (by omega) ht hc (k + 1) 0 N 0 (by omega) (by unfold iv_N at hN; omega)
    rw [Int64.zero_add, lS_congr (F := fun j => cf f n (k - (0 + j)) * tR f n (0 + j + 1)) (G := fun i => cf f n (k - i) * tR f n (i + 1)) (fun j _ => by rw [Nat.zero_add]), ← cf_s] at h1
    obtain ⟨τ, q1, q2, q3⟩ := ih (k + 1) u (hp_wl σ 41 (n - (k + 1)) (cf f n (k + 1))) (by omega) (by omega) (fun i hi => by rw [hp_wl_ne (by decide)]; exact ht i hi) (fun j hj => by
      by_cases c : j = k + 1
      · rw [c, hp_wl_at]
      · rw [hp_wl_nj (by omega)]; exact hc j (by omega))
    refine ⟨τ, (fr.wl (by decide)).tr q1, q2, ?_⟩
    unfold g68_20
    rw [if_neg (nI_nlt (by omega) (by omega)), show (1 : Int32) = nI (0 + 1) from rfl, h1]
    exact q3
theorem c_expand {σ : hp_S} {s : Nat} (hs : s < 8) (h1 : 1 ≤ n) (hn : n ≤ 12) (hw : gw f n) (hN : iv_N N) (hsw : σ.2.2.2 37 0 = σ.2.2.2 37 1) (e : σ.2.2.1 (2 + 2 * s) 1 = nI n) (ef : ∀ k, k < 24 → σ.1 (3 + 2 * s) k = f k) : ∃ τ, fr [38, 39, 40, 41] [(37, 0), (37, 1)] σ τ ∧ τ.2.2.2 37 0 = τ.2.2.2 37 1 ∧ (∀ j, j ≤ n → τ.2.1 41 (n - j) = cf f n j) ∧ f68 N 37 (2 + 2 * s) (hp σ, cs) = some (.inl none, (hp τ, cs)) := by
  obtain ⟨τ, q1, q2, q3, q4⟩ := c_trace (σ := σ) (cs := cs) (N := N) (k := n) hs (by omega) hw hN (by omega) hsw e ef
  obtain ⟨υ, p1, p2, p3⟩ := c_ex2 (N := N) (cs := cs) (f := f) hn hN n 0 N (hp_wl τ 41 n 1) (by omega) (by unfold iv_N at hN; omega) (fun i hi => by rw [hp_wl_ne (by decide)]; exact q3 i hi) (fun j hj => by rw [Nat.le_zero.mp hj, Nat.sub_zero, hp_wl_at]; rfl)
  refine ⟨υ, ((q1.wk (fun _ z => by simp at z; rcases z with z | z | z <;> simp [z]) (fun _ z => z)).tr (fr.wl (by decide))).tr (p1.wk (fun _ z => by simp at z; simp [z]) (fun _ z => absurd z List.not_mem_nil)), by rw [p1.g List.not_mem_nil, p1.g List.not_mem_nil]; exact q2, p2, ?_⟩
  unfold f68
  rw [sN_1 hs, e, o37, q4, lf_cv_r, r37_3, b41 (by omega), show (1 : Int32) = nI (0 + 1) from rfl]
  exact p3
/-! the model -/
theorem m_p1 {k a b : Nat} {x2 : Int32} {x3 : Int64} {k36 : Nat → Int32 → Int32 → lf_W → lf_R} {k83 : Nat → Int32 → Int32 → Int64 → Int32 → lf_W → lf_R} {k92 : Nat → Int32 → Int32 → Int64 → Int32 → Int32 → lf_W → lf_R} (hn : n ≤ 12) (ha : a < n) (hb : b < n) {σ : hp_S} (ef : ∀ j, j < 24 → σ.1 76 j = f j) (ht : ∀ x y, x < n → y < n → σ.2.1 86 (12 * x + y) = Tm f n k x y + (if x = y then cf f n k else 0)) : ∀ (m c u : Nat) (acc : Int64), c + m = n → m < u → g233_104 N k36 k83 k92 u 72 (nI n) x2 x3 (nI a) (nI b) acc (nI c) (hp σ, cs) = k92 72 (nI n) x2 x3 (nI a) (nI (b + 1)) (hp (hp_wl σ 87 (12 * a + b) (lf9 (fun c => Tm f n k c b + (if c = b then cf f n k else 0)) ((List.range' c m).filter (fun w => bt (f a) w)) acc)), cs) := by
  intro m
  induction m with
  | zero =>
    intro c u acc hc hu
    obtain ⟨u, rfl⟩ : ∃ q, u = q + 1 := ⟨u - 1, by omega⟩
    unfold g233_104
    rw [if_pos (nI_le (by omega) (by omega)), r72_31, ix_12, b87 (by omega), nI_1]
    rfl
  | succ m ih =>
    intro c u acc hc hu
    obtain ⟨u, rfl⟩ : ∃ q, u = q + 1 := ⟨u - 1, by omega⟩
    rw [List.range'_succ, g233_104]
    unfold g233_139
    rw [if_neg (nI_ge (by omega) (by omega)), o72, m_joined (by omega) (by omega), ef a (by omega)]
    by_cases d : bt (f a) c = true
    · rw [if_pos d, lf_ci_r, if_neg (by decide), r72_30, ix_12, a86 (by omega), ht c b (by omega) hb, nI_1, ih (c + 1) u _ (by omega) (by omega), List.filter_cons_of_pos (p := fun w => bt (f a) w) d, lf9_cons]
    · rw [if_neg d, lf_ci_r, if_pos rfl, nI_1, ih (c + 1) u _ (by omega) (by omega), List.filter_cons_of_neg (p := fun w => bt (f a) w) d]
theorem m_p2 {k a : Nat} {x2 : Int32} {x3 : Int64} {k36 : Nat → Int32 → Int32 → lf_W → lf_R} {k83 : Nat → Int32 → Int32 → Int64 → Int32 → lf_W → lf_R} (hn : n ≤ 12) (hw : gw f n) (hN : iv_N N) (ha : a < n) : ∀ (m b u : Nat) (σ : hp_S), b + m = n → m < u → (∀ j, j < 24 → σ.1 76 j = f j) → (∀ x y, x < n → y < n → σ.2.1 86 (12 * x + y) = Tm f n k x y + (if x = y then cf f n k else 0)) → (∀ y, y < b → σ.2.1 87 (12 * a + y) = Tm f n (k + 1) a y) → ∃ τ, fr [87] [] σ τ ∧ (∀ y, y < n → τ.2.1 87 (12 * a + y) = Tm f n (k + 1) a y) ∧ (∀ j, (j < 12 * a + b ∨ 12 * a + n ≤ j) → τ.2.1 87 j = σ.2.1 87 j) ∧ g233_92 N k36 k83 u 72 (nI n) x2 x3 (nI a) (nI b) (hp σ, cs) = k83 72 (nI n) x2 (x3 + Tm f n (k + 1) a a) (nI (a + 1)) (hp τ, cs) := by
  intro m
  induction m with
  | zero =>
    intro b u σ hb hu ef ht ho
    obtain ⟨u, rfl⟩ : ∃ q, u = q + 1 := ⟨u - 1, by omega⟩
    refine ⟨σ, fr.rf, fun y hy => ho y (by omega), fun _ _ => rfl, ?_⟩
    unfold g233_92
    rw [if_pos (nI_le (by omega) (by omega)), r72_31, ix_12, a87 (by omega), ho a (by omega), nI_1]
  | succ m ih =>
    intro b u σ hb hu ef ht ho
    obtain ⟨u, rfl⟩ : ∃ q, u = q + 1 := ⟨u - 1, by omega⟩
    have h1 := m_p1 (N := N) (cs := cs) (f := f) (k := k) (a := a) (b := b) (x2 := x2) (x3 := x3) (k36 := k36) (k83 := k83) (k92 := g233_92 N k36 k83 u) hn ha (by omega) ef ht n 0 N 0 (by omega) (by unfold iv_N at hN; omega)
    rw [← bl_n (x := f a) (n := n) (by omega) (fun i q => (hw a (by omega) i q).2.1)] at h1
    obtain ⟨τ, q1, q2, q3, q4⟩ := ih (b + 1) u (hp_wl σ 87 (12 * a + b) (Tm f n (k + 1) a b)) (by omega) (by omega) ef (fun x y hx hy => by rw [hp_wl_ne (by decide)]; exact ht x y hx hy) (fun y hy => by
      by_cases c : y = b
      · rw [c, hp_wl_at]
      · rw [hp_wl_nj (by omega)]; exact ho y (by omega))
    refine ⟨τ, (fr.wl (by decide)).tr q1, q2, fun j hj => by rw [q3 j (by omega), hp_wl_nj (by omega)], ?_⟩
    unfold g233_92
    rw [if_neg (nI_ge (by omega) (by omega)), show (0 : Int32) = nI 0 from rfl, h1]
    exact q4
theorem m_p4 {x2 : Int32} {k36 : Nat → Int32 → Int32 → lf_W → lf_R} : ∀ (m j u : Nat) (σ : hp_S), j + m = 144 → m < u → ∃ τ, fr [86] [] σ τ ∧ (∀ i, i < 144 → τ.2.1 86 i = if j ≤ i then σ.2.1 87 i else σ.2.1 86 i) ∧ g233_204 N k36 u 72 (nI n) x2 (nI j) (hp σ, cs) = k36 72 (nI n) (x2 + 1) (hp τ, cs) := by
  intro m
  induction m with
  | zero =>
    intro j u σ hj hu
    obtain ⟨u, rfl⟩ : ∃ q, u = q + 1 := ⟨u - 1, by omega⟩
    refine ⟨σ, fr.rf, fun i hi => by rw [if_neg (by omega)], ?_⟩
    unfold g233_204
    rw [if_pos (show (144 : Int32) ≤ nI j from nI_le (a := 144) (by omega) (by omega))]
  | succ m ih =>
    intro j u σ hj hu
    obtain ⟨u, rfl⟩ : ∃ q, u = q + 1 := ⟨u - 1, by omega⟩
    obtain ⟨τ, q1, q2, q3⟩ := ih (j + 1) u (hp_wl σ 86 j (σ.2.1 87 j)) (by omega) (by omega)
    refine ⟨τ, (fr.wl (by decide)).tr q1, fun i hi => ?_, ?_⟩
    · rw [q2 i hi, hp_wl_ne (b := 87) (by decide)]
      by_cases c : i = j
      · rw [c, hp_wl_at, if_neg (by omega), if_pos (by omega)]
      · rw [hp_wl_nj c]
        by_cases d : j + 1 ≤ i
        · rw [if_pos d, if_pos (by omega)]
        · rw [if_neg d, if_neg (by omega)]
    · unfold g233_204
      rw [if_neg (show ¬ (144 : Int32) ≤ nI j from nI_ge (b := 144) (by omega) (by omega)), r72_30, r72_31, a87 (by omega), b86 (by omega), nI_1]
      exact q3
theorem m_p3 {k : Nat} {k36 : Nat → Int32 → Int32 → lf_W → lf_R} (hn : n ≤ 12) (hw : gw f n) (hN : iv_N N) (hk : k + 1 ≤ n) : ∀ (m a u : Nat) (acc : Int64) (σ : hp_S), a + m = n → m < u → (∀ j, j < 24 → σ.1 76 j = f j) → (∀ x y, x < n → y < n → σ.2.1 86 (12 * x + y) = Tm f n k x y + (if x = y then cf f n k else 0)) → (∀ x y, x < a → y < n → σ.2.1 87 (12 * x + y) = Tm f n (k + 1) x y) → ∃ τ, fr [85, 86, 87] [] σ τ ∧ (∀ x y, x < n → y < n → τ.2.1 86 (12 * x + y) = Tm f n (k + 1) x y) ∧ (∀ j, τ.2.1 85 j = if j = n - (k + 1) then (-(acc + lS (fun i => Tm f n (k + 1) (a + i) (a + i)) m)) / (nI (k + 1)).toInt64 else σ.2.1 85 j) ∧ g233_83 N k36 u 72 (nI n) (nI (k + 1)) acc (nI a) (hp σ, cs) = k36 72 (nI n) (nI (k + 2)) (hp τ, cs) := by
  intro m
  induction m with
  | zero =>
    intro a u acc σ ha hu ef ht ho
    obtain ⟨u, rfl⟩ : ∃ q, u = q + 1 := ⟨u - 1, by omega⟩
    obtain ⟨τ, q1, q2, q3⟩ := m_p4 (N := N) (cs := cs) (n := n) (x2 := nI (k + 1)) (k36 := k36) 144 0 N (hp_wl σ 85 (n - (k + 1)) ((-acc) / (nI (k + 1)).toInt64)) (by omega) (by unfold iv_N at hN; omega)
    refine ⟨τ, (fr.wl (by decide)).tr (q1.wk (fun _ z => by simp at z; simp [z]) (fun _ z => z)), fun x y hx hy => ?_, fun j => ?_, ?_⟩
    · rw [q2 _ (by omega), if_pos (by omega), hp_wl_ne (by decide)]
      exact ho x y (by omega) hy
    · rw [q1.l (by decide)]
      show _ = if j = n - (k + 1) then (-(acc + 0)) / (nI (k + 1)).toInt64 else σ.2.1 85 j
      rw [Int64.add_zero]
      by_cases c : j = n - (k + 1)
      · rw [if_pos c, c, hp_wl_at]
      · rw [if_neg c, hp_wl_nj c]
    · unfold g233_83
      rw [if_pos (nI_le (by omega) (by omega)), r72_29, if_neg (k64 (by omega) (by omega)), pk_sub hk, b85 (by omega), show (0 : Int32) = nI 0 from rfl, q3, nI_1]
  | succ m ih =>
    intro a u acc σ ha hu ef ht ho
    obtain ⟨u, rfl⟩ : ∃ q, u = q + 1 := ⟨u - 1, by omega⟩
    obtain ⟨τ, q1, q2, q3, q4⟩ := m_p2 (N := N) (cs := cs) (f := f) (k := k) (a := a) (x2 := nI (k + 1)) (x3 := acc) (k36 := k36) (k83 := g233_83 N k36 u) hn hw hN (by omega) n 0 N σ (by omega) (by unfold iv_N at hN; omega) ef ht (fun y hy => absurd hy (Nat.not_lt_zero y))
    obtain ⟨υ, p1, p2, p3, p4⟩ := ih (a + 1) u (acc + Tm f n (k + 1) a a) τ (by omega) (by omega) (fun j hj => by rw [q1.r (by decide)]; exact ef j hj) (fun x y hx hy => by rw [q1.l (by decide)]; exact ht x y hx hy) (fun x y hx hy => by
      by_cases c : x = a
      · rw [c]; exact q2 y hy
      · rw [q3 _ (by omega)]; exact ho x y (by omega) hy)
    refine ⟨υ, (q1.wk (fun _ z => by simp at z; simp [z]) (fun _ z => z)).tr p1, p2, fun j => ?_, ?_⟩
    · rw [p3 j, q1.l (by decide), lS_front, lS_congr (F := fun i => Tm f n (k + 1) (a + 1 + i) (a + 1 + i)) (G := fun i => Tm f n (k + 1) (a + (i + 1)) (a + (i + 1))) (fun i _ => by rw [show a + 1 + i = a + (i + 1) by omega]), Int64.add_assoc]
      rfl
    · unfold g233_83
      rw [if_neg (nI_ge (by omega) (by omega)), show (0 : Int32) = nI 0 from rfl, q4]
      exact p4
theorem m_p5 {k : Nat} {k36 : Nat → Int32 → Int32 → lf_W → lf_R} (hn : n ≤ 12) (hk : k + 1 ≤ n) : ∀ (m a u : Nat) (σ : hp_S), a + m = n → m < u → σ.2.1 85 (n - k) = cf f n k → (∀ x y, x < n → y < n → σ.2.1 86 (12 * x + y) = Tm f n k x y + (if x = y ∧ x < a then cf f n k else 0)) → ∃ τ, fr [86] [] σ τ ∧ (∀ x y, x < n → y < n → τ.2.1 86 (12 * x + y) = Tm f n k x y + (if x = y then cf f n k else 0)) ∧ g233_43 N k36 u 72 (nI n) (nI (k + 1)) (nI a) (hp σ, cs) = g233_83 N k36 N 72 (nI n) (nI (k + 1)) 0 (nI 0) (hp τ, cs) := by
  intro m
  induction m with
  | zero =>
    intro a u σ ha hu hc ht
    obtain ⟨u, rfl⟩ : ∃ q, u = q + 1 := ⟨u - 1, by omega⟩
    refine ⟨σ, fr.rf, fun x y hx hy => ?_, ?_⟩
    · rw [ht x y hx hy]
      by_cases c : x = y
      · rw [if_pos ⟨c, by omega⟩, if_pos c]
      · rw [if_neg (fun q => c q.1), if_neg c]
    · unfold g233_43
      rw [if_pos (nI_le (by omega) (by omega))]
      rfl
  | succ m ih =>
    intro a u σ ha hu hc ht
    obtain ⟨u, rfl⟩ : ∃ q, u = q + 1 := ⟨u - 1, by omega⟩
    obtain ⟨τ, q1, q2, q3⟩ := ih (a + 1) u (hp_wl σ 86 (12 * a + a) (σ.2.1 86 (12 * a + a) + cf f n k)) (by omega) (by omega) (by rw [hp_wl_ne (by decide)]; exact hc) (fun x y hx hy => by
      by_cases c : x = a ∧ y = a
      · rw [c.1, c.2, hp_wl_at, ht a a (by omega) (by omega), if_neg (by omega), if_pos ⟨rfl, by omega⟩, Int64.add_zero]
      · rw [hp_wl_nj (by omega), ht x y hx hy]
        by_cases d : x = y ∧ x < a
        · rw [if_pos d, if_pos (by omega)]
        · rw [if_neg d, if_neg (by omega)])
    refine ⟨τ, (fr.wl (by decide)).tr q1, q2, ?_⟩
    unfold g233_43
    rw [if_neg (nI_ge (by omega) (by omega)), r72_30, ix_12, a86 (by omega), r72_29, pk_sub hk, nI_1, a85 (by omega), show n - (k + 1) + 1 = n - k by omega, hc, b86 (by omega), nI_1]
    exact q3
theorem m_p6 (hn : n ≤ 12) (hw : gw f n) (hN : iv_N N) : ∀ (m k u : Nat) (σ : hp_S), k + m = n → m < u → (∀ j, j < 24 → σ.1 76 j = f j) → (∀ j, j ≤ k → σ.2.1 85 (n - j) = cf f n j) → (∀ x y, x < n → y < n → σ.2.1 86 (12 * x + y) = Tm f n k x y) → ∃ τ, fr [85, 86, 87] [] σ τ ∧ (∀ j, j ≤ n → τ.2.1 85 (n - j) = cf f n j) ∧ g233_36 N u 72 (nI n) (nI (k + 1)) (hp σ, cs) = some (.inl none, (hp τ, cs)) := by
  intro m
  induction m with
  | zero =>
    intro k u σ hk hu ef hc ht
    obtain ⟨u, rfl⟩ : ∃ q, u = q + 1 := ⟨u - 1, by omega⟩
    refine ⟨σ, fr.rf, fun j hj => hc j (by omega), ?_⟩
    unfold g233_36
    rw [if_pos (nI_lt (by omega) (by omega))]
  | succ m ih =>
    intro k u σ hk hu ef hc ht
    obtain ⟨u, rfl⟩ : ∃ q, u = q + 1 := ⟨u - 1, by omega⟩
    obtain ⟨τ, q1, q2, q3⟩ := m_p5 (N := N) (cs := cs) (f := f) (k := k) (k36 := g233_36 N u) hn (by omega) n 0 N σ (by omega) (by unfold iv_N at hN; omega) (hc k (Nat.le_refl _)) (fun x y hx hy => by rw [ht x y hx hy, if_neg (by omega), Int64.add_zero])
    obtain ⟨υ, p1, p2, p3, p4⟩ := m_p3 (N := N) (cs := cs) (f := f) (k := k) (k36 := g233_36 N u) hn hw hN (by omega) n 0 N 0 τ (by omega) (by unfold iv_N at hN; omega) (fun j hj => by rw [q1.r (by decide)]; exact ef j hj) q2 (fun x _ hx => absurd hx (Nat.not_lt_zero x))
    have w1 : fr [85, 86, 87] [] σ υ := (q1.wk (fun _ z => by simp at z; simp [z]) (fun _ z => z)).tr p1
    have ecf : (-((0 : Int64) + lS (fun i => Tm f n (k + 1) (0 + i) (0 + i)) n)) / (nI (k + 1)).toInt64 = cf f n (k + 1) := by
      rw [Int64.zero_add, lS_congr (F := fun i => Tm f n (k + 1) (0 + i) (0 + i)) (G := fun a => Tm f n (k + 1) a a) (fun i _ => by rw [Nat.zero_add]), Tm_tr (by omega) hw, ← cf_s]
    obtain ⟨ω, z1, z2, z3⟩ := ih (k + 1) u υ (by omega) (by omega) (fun j hj => by rw [w1.r (by decide)]; exact ef j hj) (fun j hj => by
      rw [p3]
      by_cases c : j = k + 1
      · rw [if_pos (by omega), c, ecf]
      · rw [if_neg (by omega), q1.l (by decide)]
        exact hc j (by omega)) p2
    refine ⟨ω, w1.tr z1, z2, ?_⟩
    unfold g233_36
    rw [if_neg (nI_nlt (by omega) (by omega)), show (0 : Int32) = nI 0 from rfl, q3, p4]
    exact z3
theorem m_p0 : ∀ (m j u : Nat) (σ : hp_S), j + m = 144 → m < u → n ≤ 12 → ∃ τ, fr [85, 86] [] σ τ ∧ (∀ i, i < 144 → j ≤ i → τ.2.1 86 i = 0) ∧ (∀ i, i < j → τ.2.1 86 i = σ.2.1 86 i) ∧ τ.2.1 85 n = 1 ∧ g233_7 N u 72 (nI n) (nI j) (hp σ, cs) = g233_36 N N 72 (nI n) (nI (0 + 1)) (hp τ, cs) := by
  intro m
  induction m with
  | zero =>
    intro j u σ hj hu hn
    obtain ⟨u, rfl⟩ : ∃ q, u = q + 1 := ⟨u - 1, by omega⟩
    refine ⟨hp_wl σ 85 n 1, fr.wl (by decide), fun i hi h => by omega, fun i hi => by rw [hp_wl_ne (by decide)], hp_wl_at, ?_⟩
    unfold g233_7
    rw [if_pos (show (144 : Int32) ≤ nI j from nI_le (a := 144) (by omega) (by omega)), r72_29, b85 (by omega)]
    rfl
  | succ m ih =>
    intro j u σ hj hu hn
    obtain ⟨u, rfl⟩ : ∃ q, u = q + 1 := ⟨u - 1, by omega⟩
    obtain ⟨τ, q1, q2, q3, q4, q5⟩ := ih (j + 1) u (hp_wl σ 86 j 0) (by omega) (by omega) hn
    refine ⟨τ, (fr.wl (by decide)).tr q1, fun i hi h => ?_, fun i hi => by rw [q3 i (by omega), hp_wl_nj (by omega)], q4, ?_⟩
    · by_cases c : i = j
      · rw [c, q3 j (by omega), hp_wl_at]
      · exact q2 i hi (by omega)
    · unfold g233_7
      rw [if_neg (show ¬ (144 : Int32) ≤ nI j from nI_ge (b := 144) (by omega) (by omega)), r72_30, b86 (by omega), nI_1]
      exact q5
/-- polys -/
theorem m_polys {σ : hp_S} (hn : n ≤ 12) (hw : gw f n) (hN : iv_N N) (e : σ.2.2.1 72 4 = nI n) (ef : ∀ j, j < 24 → σ.1 76 j = f j) : ∃ τ, fr [85, 86, 87] [] σ τ ∧ (∀ j, j ≤ n → τ.2.1 85 (n - j) = cf f n j) ∧ f233 N 72 (hp σ, cs) = some (.inl none, (hp τ, cs)) := by
  obtain ⟨τ, q1, q2, q3, q4, q5⟩ := m_p0 (N := N) (cs := cs) (n := n) 144 0 N σ (by omega) (by unfold iv_N at hN; omega) hn
  obtain ⟨υ, p1, p2, p3⟩ := m_p6 (N := N) (cs := cs) (f := f) hn hw hN n 0 N τ (by omega) (by unfold iv_N at hN; omega) (fun j hj => by rw [q1.r (by decide)]; exact ef j hj) (fun j hj => by rw [Nat.le_zero.mp hj, Nat.sub_zero, q4]; rfl) (fun x y hx hy => by rw [q2 _ (by omega) (by omega)]; rfl)
  refine ⟨υ, (q1.wk (fun _ z => by simp at z; rcases z with z | z <;> simp [z]) (fun _ z => z)).tr p1, p2, ?_⟩
  unfold f233
  rw [i72_4, e, show (0 : Int32) = nI 0 from rfl, q5]
  exact p3
end PY
theorem case_poly {J : iv_J} {rd : iv_rd} {N : Nat} (hN : iv_N N) : iv_caseN J rd N g327_1196 := by
  intro sc i σ cs hs hi hI
  have key : ∃ (τ : hp_S) (ds : Nat × Nat), iv J τ ∧ ds.1 ≤ cs.1 + 1 ∧ ds.2 ≤ cs.2 + 6 ∧ ∀ k : lf_W → lf_R, tl_L (tc_L [("java/util/NoSuchElementException", 1), ("java/lang/IllegalArgumentException", 2)] (f144 N 0 (sc.2 (i + 1)) (sc.2 (i + 2)) (hp σ, cs))) (fun w => f234 N 72 (sc.2 (i + 1)) (sc.2 (i + 2)) w) k = k (hp τ, ds) := by
    generalize sc.2 (i + 1) = x
    generalize sc.2 (i + 2) = y
    refine askL (x := x) hI hN rfl (fun h => ?_) (fun σ' ds w h => ?_) (fun s n d f hs8 hx hg hv => ?_)
    · unfold f144
      rw [o0, c_held_no h]
      rfl
    · unfold f234
      rw [o72, h, lf_ci_r, if_pos rfl]
    · subst hx
      have hn1 := hg.1
      have hn := hg.2.1
      have hne : ¬ σ.2.2.1 (2 + 2 * s) 1 = 0 := by rw [hv.1]; exact nI_ne0 (by omega) (by omega)
      by_cases bad : y < 0 ∨ nI n < y
      · refine Or.inr ⟨"java/util/NoSuchElementException", 1, σ, iv_kept.rf σ, by decide, rfl, ?_, fun σ' μ ds hm hl => ⟨hp_wf μ 72 0 1, 0, iv_kept.wm (by omega), hp_wf_at, ?_⟩⟩
        · unfold f144
          rw [o0, c_held hs8 hne, lf_cr_r]
          by_cases c1 : y < 0
          · rw [if_pos c1]
          rw [if_neg c1, sN_1 hs8, hv.1, if_neg (fun q => by
            have := bad.resolve_left c1
            rw [fa_le] at q
            rw [fa_lt] at this
            omega)]
        · show f234 N 72 (nI s) y (hp σ', ds) = _
          unfold f234 g234_25
          rw [o72, hl, lf_ci_r, if_neg (by decide)]
          have ef : g234_26 N 72 y 0 72 (hp μ, ds) = some (.inl (some (.long 0)), (hp (hp_wf μ 72 0 1), ds)) := by
            unfold g234_26
            rw [o72, m_rf hm.2.2.1 (by decide), lf_ci_r, if_pos rfl]
          by_cases c1 : y < 0
          · rw [if_pos c1]; exact ef
          · rw [if_neg c1, i72_4, hm.1, if_pos (bad.resolve_left c1)]; exact ef
      · have g1 : ¬ y < 0 := fun q => bad (Or.inl q)
        have g2 : ¬ nI n < y := fun q => bad (Or.inr q)
        obtain ⟨k, hk, rfl⟩ := nn_of g1
        have hkn : k ≤ n := by
          rw [q_lt (by omega) hk] at g2
          omega
        have preM : ∀ (σ' μ : hp_S) (ds : Nat × Nat) (b : Int32), (nI n ≤ 12 → b = 1) → (¬ nI n ≤ 12 → b = 0) → MV μ n d f → f178 N 72 (nI s) (hp σ', ds) = some (.inl (some (.int 1)), (hp μ, ds)) → f234 N 72 (nI s) (nI k) (hp σ', ds) = g234_48 N 72 (nI k) b 72 (hp μ, ds) := by
          intro σ' μ ds b hb1 hb0 hm hl
          unfold f234 g234_26
          rw [o72, hl, lf_ci_r, if_neg (by decide), if_neg g1, i72_4, hm.1, if_neg g2, o72, m_rt hm.2.2.1 (by decide), lf_ci_r, if_neg (by decide), i72_4, hm.1]
          by_cases c : (12 : Int32) < nI n
          · rw [if_pos c, hb0 (fun q => by rw [fa_le] at q; rw [fa_lt] at c; omega)]
          · rw [if_neg c, hb1 (fa_of_nlt c)]
        by_cases h12 : n ≤ 12
        · have l12 : nI n ≤ 12 := nI_le (b := 12) h12 (by omega)
          obtain ⟨τ, q1, q2, q3, q4⟩ := c_expand (σ := σ) (cs := cs) (N := N) hs8 hn1 h12 hg.2.2.2.2.1 hN hI.2.2.2.2.2.2.2.2.1 hv.1 hv.2.2
          refine Or.inl ⟨cf f n (n - k), τ, q1.keptS rfl rfl (fun h => h.of37 q1 q2 (by decide) (by decide) (by decide) (by decide)), ?_, fun σ' μ ds hm hl => ?_⟩
          · unfold f144 f66
            rw [o0, c_held hs8 hne, lf_cr_r, if_neg g1, sN_1 hs8, hv.1, if_pos (nI_le hkn (by omega)), sN_1 hs8, hv.1, if_pos l12, r0_6, o37, o37, q4, lf_cv_r, r37_3, a41 (by omega), lf_cl_r, ← q3 (n - k) (by omega), show n - (n - k) = k by omega]
          · obtain ⟨υ, p1, p2, p3⟩ := m_polys (σ := μ) (cs := ds) (N := N) (f := f) h12 hg.2.2.2.2.1 hN hm.1 hm.2.2.2
            refine ⟨υ, p1.kept rfl rfl, p1.l (by decide), by rw [p1.f List.not_mem_nil]; exact hm.2.2.1, ?_⟩
            show f234 N 72 (nI s) (nI k) (hp σ', ds) = _
            rw [preM σ' μ ds 1 (fun _ => rfl) (fun q => absurd l12 q) hm hl]
            unfold g234_48
            rw [o72, m_rt hm.2.2.1 (by decide), lf_ci_r, if_pos (by decide), o72, p3, lf_cv_r, r72_29, a85 (by omega), ← p2 (n - k) (by omega), show n - (n - k) = k by omega]
        · have l12 : ¬ nI n ≤ 12 := nI_ge (a := 12) (by omega) (by omega)
          refine Or.inr ⟨"java/lang/IllegalArgumentException", 2, σ, iv_kept.rf σ, by decide, rfl, ?_, fun σ' μ ds hm hl => ⟨hp_wf μ 72 0 2, 0, iv_kept.wm (by omega), hp_wf_at, ?_⟩⟩
          · unfold f144
            rw [o0, c_held hs8 hne, lf_cr_r, if_neg g1, sN_1 hs8, hv.1, if_pos (nI_le hkn (by omega)), sN_1 hs8, hv.1, if_neg l12]
          · show f234 N 72 (nI s) (nI k) (hp σ', ds) = _
            rw [preM σ' μ ds 0 (fun q => absurd q l12) (fun _ => rfl) hm hl]
            unfold g234_48
            rw [o72, m_rf hm.2.2.1 (by decide), lf_ci_r, if_neg (fun q => q rfl)]
  obtain ⟨τ, ds, q1, q2, q3, q4⟩ := key
  refine ⟨τ, ds, q1, q2, q3, fun k23 => ?_⟩
  rw [← q4 (k23 (nI i + 6))]
  unfold g327_1196 h303 f303
  simp only [iv_s1 hs hi, iv_s2 hs hi, Option.bind_some, if_pos hp_x]
  rfl
