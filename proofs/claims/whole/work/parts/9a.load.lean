/-! ways by the table -/
def hq (f : Nat → Int32) (A : Int32) (x t : Nat) : Nat := ((bl (f x)).find? (fun c => decide (gd f A x t < 24) && decide (gd f A c t + 1 = gd f A x t))).getD 0
/-- how often knot a lies on the way that begins at x, k steps from t -/
def ct (f : Nat → Int32) (A : Int32) (a t : Nat) : Nat → Nat → Nat
  | 0, _ => 0
  | k + 1, x => (if x = a then 1 else 0) + ct f A a t k (hq f A x t)
/-- how often a place of the loads is met on it -/
def pc9 (f : Nat → Int32) (A : Int32) (j t : Nat) : Nat → Nat → Nat
  | 0, _ => 0
  | k + 1, x => (if j = 24 * x + hq f A x t then 1 else 0) + pc9 f A j t k (hq f A x t)
section WY
variable {f : Nat → Int32} {n : Nat}
theorem hop_ok (hn : n ≤ 24) (hw : gw f n) (hJ : dS f (al n) 23 = 0) {x t : Nat} (hx : x < n) (ht : t < n) (hxt : x ≠ t) : hnx f (al n) x t = nI (hq f (al n) x t) ∧ hq f (al n) x t < n ∧ bt (f x) (hq f (al n) x t) = true ∧ gd f (al n) (hq f (al n) x t) t + 1 = gd f (al n) x t := by
  have h24 : gd f (al n) x t < 24 := gJ_iff.mp hJ x t (by omega) (by omega) ((al_in hn).mpr hx) ((al_in hn).mpr ht)
  have hne : gd f (al n) x t ≠ 0 := by
    intro q
    have := (gd_eq (f := f) (A := al n) (x := t) (v := x) (s := 0) (by omega) (by omega)).mp q
    exact hxt ((b_one (by omega)).mp this).symm
  cases hfind : (bl (f x)).find? (fun c => decide (gd f (al n) x t < 24) && decide (gd f (al n) c t + 1 = gd f (al n) x t)) with
  | some c =>
    have h1 := List.find?_some hfind
    have h2 := List.mem_of_find?_eq_some hfind
    rw [Bool.and_eq_true, decide_eq_true_iff, decide_eq_true_iff] at h1
    have e1 : hq f (al n) x t = c := by
      unfold hq
      rw [hfind]
      rfl
    rw [e1]
    refine ⟨?_, (hw x (by omega) c (bl_mem.mp h2)).2.1, bl_mem.mp h2, h1.2⟩
    unfold hnx
    rw [hfind]
    rfl
  | none =>
    exfalso
    rw [List.find?_eq_none] at hfind
    obtain ⟨s, hs⟩ : ∃ s, gd f (al n) x t = s + 1 := ⟨gd f (al n) x t - 1, by omega⟩
    have hin : bt (bal f (al n) x (s + 1)) t = true := by
      apply Classical.byContradiction
      intro q
      have := (gd_lt_iff (f := f) (A := al n) (x := t) (v := x) (s := s + 1) (by omega) (by omega)).mpr q
      omega
    rcases gR_left.mp ((bal_bt (by omega)).mp hin) with q | ⟨u, q1, q2, q3⟩
    · have := (gd_lt_iff (f := f) (A := al n) (x := t) (v := x) (s := s) (by omega) (by omega)).mp (by omega)
      exact this ((bal_bt (by omega)).mpr q)
    · have hu : u < n := (al_in hn).mp q2
      have h1 : ¬ s < gd f (al n) u t := fun r => (gd_lt_iff (f := f) (A := al n) (x := t) (v := u) (s := s) (by omega) (by omega)).mp r ((bal_bt (by omega)).mpr q3)
      have h2 := gd_step (f := f) (A := al n) (v := x) (c := u) (t := t) (by omega) (by omega) q1 q2
      exact hfind u (bl_mem.mpr q1) (by rw [Bool.and_eq_true, decide_eq_true_iff, decide_eq_true_iff]; exact ⟨h24, by omega⟩)
theorem gd_0 {x t : Nat} {A : Int32} (hx : x < 24) (h : gd f A x t = 0) : x = t := by
  have := (gd_eq (f := f) (A := A) (x := t) (v := x) (s := 0) (by omega) (by omega)).mp h
  exact ((b_one (by omega)).mp this).symm
theorem ct_far (hn : n ≤ 24) (hw : gw f n) (hJ : dS f (al n) 23 = 0) {a t : Nat} (ht : t < n) : ∀ (k x : Nat), x < n → gd f (al n) x t = k → k < gd f (al n) a t → ct f (al n) a t k x = 0 := by
  intro k
  induction k with
  | zero => intro x _ _ _; rfl
  | succ k ih =>
    intro x hx hk hlt
    have hxt : x ≠ t := by
      intro q
      rw [q, gd_self (by omega)] at hk
      omega
    obtain ⟨-, h2, -, h4⟩ := hop_ok hn hw hJ hx ht hxt
    show (if x = a then 1 else 0) + ct f (al n) a t k (hq f (al n) x t) = 0
    rw [if_neg (fun q => by rw [← q] at hlt; omega), ih _ h2 (by omega) (by omega)]
theorem ct_le (hn : n ≤ 24) (hw : gw f n) (hJ : dS f (al n) 23 = 0) {a t : Nat} (ht : t < n) : ∀ (k x : Nat), x < n → gd f (al n) x t = k → ct f (al n) a t k x ≤ 1 := by
  intro k
  induction k with
  | zero => intro x _ _; exact Nat.zero_le _
  | succ k ih =>
    intro x hx hk
    have hxt : x ≠ t := by
      intro q
      rw [q, gd_self (by omega)] at hk
      omega
    obtain ⟨-, h2, -, h4⟩ := hop_ok hn hw hJ hx ht hxt
    show (if x = a then 1 else 0) + ct f (al n) a t k (hq f (al n) x t) ≤ 1
    by_cases c : x = a
    · rw [if_pos c, ct_far hn hw hJ ht k _ h2 (by omega) (by rw [← c]; omega)]
      omega
    · rw [if_neg c]
      have := ih _ h2 (by omega)
      omega
theorem pc_ct (hn : n ≤ 24) (hw : gw f n) (hJ : dS f (al n) 23 = 0) {a b t : Nat} (ht : t < n) (hb : b < 24) : ∀ (k x : Nat), x < n → gd f (al n) x t = k → pc9 f (al n) (24 * a + b) t k x = if hq f (al n) a t = b then ct f (al n) a t k x else 0 := by
  intro k
  induction k with
  | zero =>
    intro x _ _
    show 0 = if hq f (al n) a t = b then 0 else 0
    split <;> rfl
  | succ k ih =>
    intro x hx hk
    have hxt : x ≠ t := by
      intro q
      rw [q, gd_self (by omega)] at hk
      omega
    obtain ⟨-, h2, -, h4⟩ := hop_ok hn hw hJ hx ht hxt
    show (if 24 * a + b = 24 * x + hq f (al n) x t then 1 else 0) + pc9 f (al n) (24 * a + b) t k (hq f (al n) x t) = if hq f (al n) a t = b then (if x = a then 1 else 0) + ct f (al n) a t k (hq f (al n) x t) else 0
    rw [ih _ h2 (by omega)]
    by_cases c : x = a
    · subst c
      by_cases d : hq f (al n) x t = b
      · rw [if_pos (by omega), if_pos d, if_pos d, if_pos rfl]
      · rw [if_neg (by omega), if_neg d, if_neg d]
    · rw [if_neg (by omega), if_neg c]
      by_cases d : hq f (al n) a t = b
      · rw [if_pos d, if_pos d]
      · rw [if_neg d, if_neg d]
end WY
section LD
variable {cs : Nat × Nat} {N n : Nat} {f : Nat → Int32}
/-- the model's loads -/
def LO (σ : hp_S) (L : Nat → Nat) : Prop := ∀ j, j < 576 → σ.1 109 j = nI (L j)
theorem m_ld1 (hn : n ≤ 24) (hw : gw f n) (hJ : dS f (al n) 23 = 0) {s9 t : Nat} (ht : t < n) {k24 : Nat → Int32 → lf_W → lf_R} {k34 : Nat → Int32 → Int32 → lf_W → lf_R} : ∀ (k x u : Nat) (L : Nat → Nat) (σ : hp_S), x < n → gd f (al n) x t = k → k < u → (∀ x t, x < n → t < n → σ.1 107 (24 * x + t) = hnx f (al n) x t) → LO σ L → ∃ τ, fr [109] [] σ τ ∧ LO τ (fun j => L j + pc9 f (al n) j t k x) ∧ g273_44 N k24 k34 u 72 (nI s9) (nI t) (nI x) (hp σ, cs) = k34 72 (nI s9) (nI (t + 1)) (hp τ, cs) := by
  intro k
  induction k with
  | zero =>
    intro x u L σ hx hk hu hh hL
    obtain ⟨u, rfl⟩ : ∃ q, u = q + 1 := ⟨u - 1, by omega⟩
    refine ⟨σ, fr.rf, fun j hj => hL j hj, ?_⟩
    unfold g273_44
    rw [if_pos (by rw [gd_0 (by omega) hk]), nI_1]
  | succ k ih =>
    intro x u L σ hx hk hu hh hL
    obtain ⟨u, rfl⟩ : ∃ q, u = q + 1 := ⟨u - 1, by omega⟩
    have hxt : x ≠ t := by
      intro q
      rw [q, gd_self (by omega)] at hk
      omega
    obtain ⟨h1, h2, -, h4⟩ := hop_ok hn hw hJ hx ht hxt
    obtain ⟨τ, q1, q2, q3⟩ := ih (hq f (al n) x t) u (fun j => L j + if j = 24 * x + hq f (al n) x t then 1 else 0) (hp_wi σ 109 (24 * x + hq f (al n) x t) (nI (L (24 * x + hq f (al n) x t) + 1))) h2 (by omega) (by omega) (fun a b ha hb => by rw [hp_wi_ne (by decide)]; exact hh a b ha hb) (fun j hj => by
      by_cases c : j = 24 * x + hq f (al n) x t
      · rw [c, hp_wi_at]
        dsimp only
        rw [if_pos rfl]
      · rw [hp_wi_nj c, hL j hj]
        dsimp only
        rw [if_neg c]
        rfl)
    refine ⟨τ, (fr.wi (by decide)).tr q1, fun j hj => ?_, ?_⟩
    · rw [q2 j hj]
      show nI (L j + (if j = 24 * x + hq f (al n) x t then 1 else 0) + pc9 f (al n) j t k (hq f (al n) x t)) = nI (L j + ((if j = 24 * x + hq f (al n) x t then 1 else 0) + pc9 f (al n) j t k (hq f (al n) x t)))
      rw [Nat.add_assoc]
    · unfold g273_44
      rw [if_neg (by rw [q_eq (by omega) (by omega)]; exact hxt), r72_67, r72_65, ix_a, a107 (by omega), hh x t hx ht, h1, ix_a, a109 (by omega), hL _ (by omega), nI_1, b109 (by omega), r72_65, a107 (by omega), hp_wi_ne (by decide), hh x t hx ht, h1]
      exact q3
theorem m_ld2 (hn : n ≤ 24) (hw : gw f n) (hJ : dS f (al n) 23 = 0) (hN : iv_N N) {s9 : Nat} (hs9 : s9 < n) {k24 : Nat → Int32 → lf_W → lf_R} : ∀ (m t u : Nat) (L : Nat → Nat) (σ : hp_S), t + m = n → m < u → σ.2.2.1 72 4 = nI n → (∀ x t, x < n → t < n → σ.1 107 (24 * x + t) = hnx f (al n) x t) → LO σ L → ∃ τ, fr [109] [] σ τ ∧ LO τ (fun j => L j + sm (fun i => pc9 f (al n) j (t + i) (gd f (al n) s9 (t + i)) s9) m) ∧ g273_34 N k24 u 72 (nI s9) (nI t) (hp σ, cs) = k24 72 (nI (s9 + 1)) (hp τ, cs) := by
  intro m
  induction m with
  | zero =>
    intro t u L σ ht hu e hh hL
    obtain ⟨u, rfl⟩ : ∃ q, u = q + 1 := ⟨u - 1, by omega⟩
    refine ⟨σ, fr.rf, fun j hj => hL j hj, ?_⟩
    unfold g273_34
    rw [i72_4, e, if_pos (nI_le (by omega) (by omega)), nI_1]
  | succ m ih =>
    intro t u L σ ht hu e hh hL
    obtain ⟨u, rfl⟩ : ∃ q, u = q + 1 := ⟨u - 1, by omega⟩
    have hg24 := gd_le (f := f) (A := al n) (v := s9) (x := t)
    obtain ⟨τ, q1, q2, q3⟩ := m_ld1 (N := N) (cs := cs) (f := f) (s9 := s9) (t := t) (k24 := k24) (k34 := g273_34 N k24 u) hn hw hJ (by omega) (gd f (al n) s9 t) s9 N L σ hs9 rfl (by unfold iv_N at hN; omega) hh hL
    obtain ⟨υ, p1, p2, p3⟩ := ih (t + 1) u _ τ (by omega) (by omega) (by rw [q1.f List.not_mem_nil]; exact e) (fun a b ha hb => by rw [q1.r (by decide)]; exact hh a b ha hb) q2
    refine ⟨υ, q1.tr p1, fun j hj => ?_, ?_⟩
    · rw [p2 j hj]
      dsimp only
      rw [sm_front, sm_congr (F := fun i => pc9 f (al n) j (t + 1 + i) (gd f (al n) s9 (t + 1 + i)) s9) (G := fun i => pc9 f (al n) j (t + (i + 1)) (gd f (al n) s9 (t + (i + 1))) s9) (fun i _ => by rw [show t + 1 + i = t + (i + 1) by omega]), Nat.add_assoc]
      rfl
    · unfold g273_34
      rw [i72_4, e, if_neg (nI_ge (by omega) (by omega)), q3]
      exact p3
theorem m_ld3 (hn : n ≤ 24) (hw : gw f n) (hJ : dS f (al n) 23 = 0) (hN : iv_N N) : ∀ (m a u : Nat) (L : Nat → Nat) (σ : hp_S), a + m = n → m < u → σ.2.2.1 72 4 = nI n → (∀ x t, x < n → t < n → σ.1 107 (24 * x + t) = hnx f (al n) x t) → LO σ L → ∃ τ, fr [109] [] σ τ ∧ LO τ (fun j => L j + sm (fun i => sm (fun t => pc9 f (al n) j t (gd f (al n) (a + i) t) (a + i)) n) m) ∧ g273_24 N u 72 (nI a) (hp σ, cs) = some (.inl none, (hp τ, cs)) := by
  intro m
  induction m with
  | zero =>
    intro a u L σ ha hu e hh hL
    obtain ⟨u, rfl⟩ : ∃ q, u = q + 1 := ⟨u - 1, by omega⟩
    refine ⟨σ, fr.rf, fun j hj => hL j hj, ?_⟩
    unfold g273_24
    rw [i72_4, e, if_pos (nI_le (by omega) (by omega))]
  | succ m ih =>
    intro a u L σ ha hu e hh hL
    obtain ⟨u, rfl⟩ : ∃ q, u = q + 1 := ⟨u - 1, by omega⟩
    obtain ⟨τ, q1, q2, q3⟩ := m_ld2 (N := N) (cs := cs) (f := f) (s9 := a) (k24 := g273_24 N u) hn hw hJ hN (by omega) n 0 N L σ (by omega) (by unfold iv_N at hN; omega) e hh hL
    obtain ⟨υ, p1, p2, p3⟩ := ih (a + 1) u _ τ (by omega) (by omega) (by rw [q1.f List.not_mem_nil]; exact e) (fun a b ha hb => by rw [q1.r (by decide)]; exact hh a b ha hb) q2
    refine ⟨υ, q1.tr p1, fun j hj => ?_, ?_⟩
    · have e0 : sm (fun i => pc9 f (al n) j (0 + i) (gd f (al n) a (0 + i)) a) n = sm (fun t => pc9 f (al n) j t (gd f (al n) (a + 0) t) (a + 0)) n := sm_congr (fun i _ => by rw [Nat.zero_add, Nat.add_zero])
      rw [p2 j hj]
      dsimp only
      rw [e0, sm_front, sm_congr (F := fun i => sm (fun t => pc9 f (al n) j t (gd f (al n) (a + 1 + i) t) (a + 1 + i)) n) (G := fun i => sm (fun t => pc9 f (al n) j t (gd f (al n) (a + (i + 1)) t) (a + (i + 1))) n) (fun i _ => by rw [show a + 1 + i = a + (i + 1) by omega]), Nat.add_assoc]
    · unfold g273_24
      rw [i72_4, e, if_neg (nI_ge (by omega) (by omega)), show (0 : Int32) = nI 0 from rfl, q3]
      exact p3
theorem m_ld0 : ∀ (m j u : Nat) (σ : hp_S), j + m = 576 → m < u → ∃ τ, fr [109] [] σ τ ∧ (∀ i, i < 576 → τ.1 109 i = if j ≤ i then 0 else σ.1 109 i) ∧ g273_2 N u 72 (nI j) (hp σ, cs) = g273_24 N N 72 0 (hp τ, cs) := by
  intro m
  induction m with
  | zero =>
    intro j u σ hj hu
    obtain ⟨u, rfl⟩ : ∃ q, u = q + 1 := ⟨u - 1, by omega⟩
    refine ⟨σ, fr.rf, fun i hi => by rw [if_neg (by omega)], ?_⟩
    unfold g273_2
    rw [if_pos (show (576 : Int32) ≤ nI j from nI_le (a := 576) (by omega) (by omega))]
  | succ m ih =>
    intro j u σ hj hu
    obtain ⟨u, rfl⟩ : ∃ q, u = q + 1 := ⟨u - 1, by omega⟩
    obtain ⟨τ, q1, q2, q3⟩ := ih (j + 1) u (hp_wi σ 109 j 0) (by omega) (by omega)
    refine ⟨τ, (fr.wi (by decide)).tr q1, fun i hi => ?_, ?_⟩
    · rw [q2 i hi]
      by_cases c : i = j
      · rw [c, hp_wi_at, if_neg (by omega), if_pos (by omega)]
      · rw [hp_wi_nj c]
        by_cases d : j + 1 ≤ i
        · rw [if_pos d, if_pos (by omega)]
        · rw [if_neg d, if_neg (by omega)]
    · unfold g273_2
      rw [if_neg (show ¬ (576 : Int32) ≤ nI j from nI_ge (b := 576) (by omega) (by omega)), r72_67, b109 (by omega), nI_1]
      exact q3
/-- LOAD of a line in a direction -/
def gL (f : Nat → Int32) (n a b : Nat) : Nat := sm (fun t => if hq f (al n) a t = b then sm (fun s => ct f (al n) a t (gd f (al n) s t) s) n else 0) n
/-- counts -/
theorem m_counts {σ : hp_S} (hn : n ≤ 24) (hw : gw f n) (hJ : dS f (al n) 23 = 0) (hN : iv_N N) (e : σ.2.2.1 72 4 = nI n) (hh : ∀ x t, x < n → t < n → σ.1 107 (24 * x + t) = hnx f (al n) x t) : ∃ τ, fr [109] [] σ τ ∧ (∀ a b, a < 24 → b < 24 → τ.1 109 (24 * a + b) = nI (gL f n a b)) ∧ f273 N 72 (hp σ, cs) = some (.inl none, (hp τ, cs)) := by
  obtain ⟨τ, q1, q2, q3⟩ := m_ld0 (N := N) (cs := cs) 576 0 N σ (by omega) (by unfold iv_N at hN; omega)
  obtain ⟨υ, p1, p2, p3⟩ := m_ld3 (N := N) (cs := cs) (f := f) hn hw hJ hN n 0 N (fun _ => 0) τ (by omega) (by unfold iv_N at hN; omega) (by rw [q1.f List.not_mem_nil]; exact e) (fun a b ha hb => by rw [q1.r (by decide)]; exact hh a b ha hb) (fun j hj => by rw [q2 j hj, if_pos (by omega)]; rfl)
  refine ⟨υ, q1.tr p1, fun a b ha hb => ?_, ?_⟩
  · rw [p2 _ (by omega)]
    dsimp only
    congr 1
    rw [Nat.zero_add]
    unfold gL
    rw [sm_swap (F := fun i t => pc9 f (al n) (24 * a + b) t (gd f (al n) (0 + i) t) (0 + i))]
    refine sm_congr (fun t ht => ?_)
    by_cases c : hq f (al n) a t = b
    · rw [if_pos c]
      exact sm_congr (fun s hs => by rw [Nat.zero_add, pc_ct hn hw hJ ht hb _ _ hs rfl, if_pos c])
    · rw [if_neg c]
      exact (sm_congr (G := fun _ => 0) (fun s hs => by rw [Nat.zero_add, pc_ct hn hw hJ ht hb _ _ hs rfl, if_neg c])).trans sm_0
  · unfold f273
    rw [show (0 : Int32) = nI 0 from rfl, q3]
    exact p3
/-! the class -/
/-- column t of the ways: with k starts done -/
def thr (f : Nat → Int32) (n x t : Nat) : Nat → Int32
  | 0 => 0
  | s + 1 => thr f n x t s ||| (if 0 < ct f (al n) x t (gd f (al n) s t) s then lf_shl 1 (nI s) else 0)
theorem c_tw1 (hn : n ≤ 24) (hw : gw f n) (hJ : dS f (al n) 23 = 0) {s9 t : Nat} (ht : t < n) {k2 : Nat → Int32 → Int32 → lf_W → lf_R} {k34 : Nat → Int32 → Int32 → Int32 → lf_W → lf_R} : ∀ (k x i u : Nat) (σ : hp_S), x < n → gd f (al n) x t = k → i + k ≤ n - 1 → k < u → (∀ x t, x < n → t < n → σ.1 62 (24 * x + t) = hnx f (al n) x t) → ∃ τ, fr [63] [] σ τ ∧ (∀ y, y < n → τ.1 63 (24 * y + t) = σ.1 63 (24 * y + t) ||| (if 0 < ct f (al n) y t k x then lf_shl 1 (nI s9) else 0)) ∧ (∀ y r, r < 24 → r ≠ t → τ.1 63 (24 * y + r) = σ.1 63 (24 * y + r)) ∧ g116_45 N k2 k34 u 61 (nI n) (nI t) (nI s9) (nI x) (nI i) (hp σ, cs) = k34 61 (nI n) (nI t) (nI (s9 + 1)) (hp τ, cs) := by
  intro k
  induction k with
  | zero =>
    intro x i u σ hx hk hi hu hh
    obtain ⟨u, rfl⟩ : ∃ q, u = q + 1 := ⟨u - 1, by omega⟩
    refine ⟨σ, fr.rf, fun y _ => ?_, fun _ _ _ _ => rfl, ?_⟩
    · rw [if_neg (show ¬ 0 < ct f (al n) y t 0 x from Nat.lt_irrefl 0), Int32.or_zero]
    · unfold g116_45 g116_96
      rw [if_neg (nI_ge (by omega) (by omega)), if_pos (by rw [gd_0 (by omega) hk]), nI_1]
  | succ k ih =>
    intro x i u σ hx hk hi hu hh
    obtain ⟨u, rfl⟩ : ∃ q, u = q + 1 := ⟨u - 1, by omega⟩
    have hxt : x ≠ t := by
      intro q
      rw [q, gd_self (by omega)] at hk
      omega
    obtain ⟨h1, h2, -, h4⟩ := hop_ok hn hw hJ hx ht hxt
    obtain ⟨τ, q1, q2, q3, q4⟩ := ih (hq f (al n) x t) (i + 1) u (hp_wi σ 63 (24 * x + t) (σ.1 63 (24 * x + t) ||| lf_shl 1 (nI s9))) h2 (by omega) (by omega) (by omega) (fun a b ha hb => by rw [hp_wi_ne (by decide)]; exact hh a b ha hb)
    refine ⟨τ, (fr.wi (by decide)).tr q1, fun y hy => ?_, fun y r hr hrt => by rw [q3 y r hr hrt, hp_wi_nj (by omega)], ?_⟩
    · rw [q2 y hy]
      have ec : ct f (al n) y t (k + 1) x = (if x = y then 1 else 0) + ct f (al n) y t k (hq f (al n) x t) := rfl
      by_cases c : y = x
      · subst c
        have hz := ct_far hn hw hJ (a := y) ht k _ h2 (by omega) (by omega)
        rw [hp_wi_at, ec, if_pos rfl, hz, if_neg (by omega), if_pos (by omega), Int32.or_zero]
      · have e9 : ct f (al n) y t (k + 1) x = ct f (al n) y t k (hq f (al n) x t) := by rw [ec, if_neg (fun q => c q.symm), Nat.zero_add]
        rw [hp_wi_nj (by omega), e9]
    · unfold g116_45 f113
      rw [if_neg (nI_ge (by omega) (by omega)), if_neg (by rw [q_eq (by omega) (by omega)]; exact hxt), if_neg (by rw [q_ne1 (by omega)]; exact id), r61_1, ix_b, a63 (by omega), b63 (by omega), o61, r61_0, a62 (by omega), hp_wi_ne (by decide), hh x t hx ht, h1, lf_ci_r, nI_1]
      exact q4
theorem c_tw2 (h1 : 1 ≤ n) (hn : n ≤ 24) (hw : gw f n) (hJ : dS f (al n) 23 = 0) (hN : iv_N N) {t : Nat} (ht : t < n) {k2 : Nat → Int32 → Int32 → lf_W → lf_R} : ∀ (m s9 u : Nat) (σ : hp_S), s9 + m = n → m < u → (∀ x t, x < n → t < n → σ.1 62 (24 * x + t) = hnx f (al n) x t) → (∀ y, y < n → σ.1 63 (24 * y + t) = thr f n y t s9) → ∃ τ, fr [63] [] σ τ ∧ (∀ y, y < n → τ.1 63 (24 * y + t) = thr f n y t n) ∧ (∀ y r, r < 24 → r ≠ t → τ.1 63 (24 * y + r) = σ.1 63 (24 * y + r)) ∧ g116_34 N k2 u 61 (nI n) (nI t) (nI s9) (hp σ, cs) = k2 61 (nI n) (nI (t + 1)) (hp τ, cs) := by
  intro m
  induction m with
  | zero =>
    intro s9 u σ hs hu hh ht'
    obtain ⟨u, rfl⟩ : ∃ q, u = q + 1 := ⟨u - 1, by omega⟩
    rw [show s9 = n by omega] at ht' ⊢
    refine ⟨σ, fr.rf, ht', fun _ _ _ _ => rfl, ?_⟩
    unfold g116_34
    rw [if_pos (nI_le (by omega) (by omega)), nI_1]
  | succ m ih =>
    intro s9 u σ hs hu hh ht'
    obtain ⟨u, rfl⟩ : ∃ q, u = q + 1 := ⟨u - 1, by omega⟩
    have hg : gd f (al n) s9 t ≤ n - 1 := gd_n h1 hn (by omega) (gJ_iff.mp hJ s9 t (by omega) (by omega) ((al_in hn).mpr (by omega)) ((al_in hn).mpr ht))
    obtain ⟨τ, q1, q2, q3, q4⟩ := c_tw1 (N := N) (cs := cs) (f := f) (s9 := s9) (t := t) (k2 := k2) (k34 := g116_34 N k2 u) hn hw hJ ht (gd f (al n) s9 t) s9 0 N σ (by omega) rfl (by omega) (by unfold iv_N at hN; omega) hh
    obtain ⟨υ, p1, p2, p3, p4⟩ := ih (s9 + 1) u τ (by omega) (by omega) (fun a b ha hb => by rw [q1.r (by decide)]; exact hh a b ha hb) (fun y hy => by rw [q2 y hy, ht' y hy]; rfl)
    refine ⟨υ, q1.tr p1, p2, fun y r hr hrt => by rw [p3 y r hr hrt, q3 y r hr hrt], ?_⟩
    unfold g116_34
    rw [if_neg (nI_ge (by omega) (by omega)), show (0 : Int32) = nI 0 from rfl, q4]
    exact p4
theorem c_tw0 (hn : n ≤ 24) {t : Nat} (ht : t < n) {k2 : Nat → Int32 → Int32 → lf_W → lf_R} : ∀ (m x u : Nat) (σ : hp_S), x + m = n → m < u → ∃ τ, fr [63] [] σ τ ∧ (∀ y, x ≤ y → y < n → τ.1 63 (24 * y + t) = 0) ∧ (∀ y, y < x → τ.1 63 (24 * y + t) = σ.1 63 (24 * y + t)) ∧ (∀ y r, r < 24 → r ≠ t → τ.1 63 (24 * y + r) = σ.1 63 (24 * y + r)) ∧ g116_9 N k2 u 61 (nI n) (nI t) (nI x) (hp σ, cs) = g116_34 N k2 N 61 (nI n) (nI t) 0 (hp τ, cs) := by
  intro m
  induction m with
  | zero =>
    intro x u σ hx hu
    obtain ⟨u, rfl⟩ : ∃ q, u = q + 1 := ⟨u - 1, by omega⟩
    refine ⟨σ, fr.rf, fun y q1 q2 => by omega, fun _ _ => rfl, fun _ _ _ _ => rfl, ?_⟩
    unfold g116_9
    rw [if_pos (nI_le (by omega) (by omega))]
  | succ m ih =>
    intro x u σ hx hu
    obtain ⟨u, rfl⟩ : ∃ q, u = q + 1 := ⟨u - 1, by omega⟩
    obtain ⟨τ, q1, q2, q3, q4, q5⟩ := ih (x + 1) u (hp_wi σ 63 (24 * x + t) 0) (by omega) (by omega)
    refine ⟨τ, (fr.wi (by decide)).tr q1, fun y y1 y2 => ?_, fun y hy => ?_, fun y r hr hrt => by rw [q4 y r hr hrt, hp_wi_nj (by omega)], ?_⟩
    · by_cases c : y = x
      · rw [c, q3 x (by omega), hp_wi_at]
      · exact q2 y (by omega) y2
    · rw [q3 y (by omega), hp_wi_nj (by omega)]
    · unfold g116_9
      rw [if_neg (nI_ge (by omega) (by omega)), r61_1, ix_b, b63 (by omega), nI_1]
      exact q5
theorem c_tw3 (h1 : 1 ≤ n) (hn : n ≤ 24) (hw : gw f n) (hJ : dS f (al n) 23 = 0) (hN : iv_N N) : ∀ (m t u : Nat) (σ : hp_S), t + m = n → m < u → (∀ x t, x < n → t < n → σ.1 62 (24 * x + t) = hnx f (al n) x t) → (∀ y r, y < n → r < t → σ.1 63 (24 * y + r) = thr f n y r n) → ∃ τ, fr [63] [] σ τ ∧ (∀ y r, y < n → r < n → τ.1 63 (24 * y + r) = thr f n y r n) ∧ g116_2 N u 61 (nI n) (nI t) (hp σ, cs) = some (.inl none, (hp τ, cs)) := by
  intro m
  induction m with
  | zero =>
    intro t u σ ht hu hh hr
    obtain ⟨u, rfl⟩ : ∃ q, u = q + 1 := ⟨u - 1, by omega⟩
    refine ⟨σ, fr.rf, fun y r hy hr' => hr y r hy (by omega), ?_⟩
    unfold g116_2
    rw [if_pos (nI_le (by omega) (by omega))]
  | succ m ih =>
    intro t u σ ht hu hh hr
    obtain ⟨u, rfl⟩ : ∃ q, u = q + 1 := ⟨u - 1, by omega⟩
    obtain ⟨τ, q1, q2, q3, q4, q5⟩ := c_tw0 (N := N) (cs := cs) (t := t) (k2 := g116_2 N u) hn (by omega) n 0 N σ (by omega) (by unfold iv_N at hN; omega)
    obtain ⟨υ, p1, p2, p3, p4⟩ := c_tw2 (N := N) (cs := cs) (f := f) (t := t) (k2 := g116_2 N u) h1 hn hw hJ hN (by omega) n 0 N τ (by omega) (by unfold iv_N at hN; omega) (fun a b ha hb => by rw [q1.r (by decide)]; exact hh a b ha hb) (fun y hy => by rw [q2 y (by omega) hy]; rfl)
    obtain ⟨ω, z1, z2, z3⟩ := ih (t + 1) u υ (by omega) (by omega) (fun a b ha hb => by rw [p1.r (by decide), q1.r (by decide)]; exact hh a b ha hb) (fun y r hy hr' => by
      by_cases c : r = t
      · rw [c]; exact p2 y hy
      · rw [p3 y r (by omega) c, q4 y r (by omega) c]; exact hr y r hy (by omega))
    refine ⟨ω, (q1.tr p1).tr z1, z2, ?_⟩
    unfold g116_2
    rw [if_neg (nI_ge (by omega) (by omega)), show (0 : Int32) = nI 0 from rfl, q5]
    rw [show (0 : Int32) = nI 0 from rfl, p4]
    exact z3
theorem thr_bt {x t : Nat} : ∀ (s : Nat), s ≤ 24 → ∀ i, bt (thr f n x t s) i = true ↔ i < s ∧ 0 < ct f (al n) x t (gd f (al n) i t) i
  | 0, _, i => by
    show bt 0 i = true ↔ _
    rw [b_0]
    exact ⟨fun q => absurd q (by decide), fun q => absurd q.1 (Nat.not_lt_zero i)⟩
  | s + 1, hs, i => by
    show bt (thr f n x t s ||| (if 0 < ct f (al n) x t (gd f (al n) s t) s then lf_shl 1 (nI s) else 0)) i = true ↔ _
    rw [b_or_iff, thr_bt s (by omega) i]
    by_cases c : 0 < ct f (al n) x t (gd f (al n) s t) s
    · rw [if_pos c, b_one (by omega)]
      constructor
      · rintro (h | h)
        · exact ⟨by omega, h.2⟩
        · rw [h]; exact ⟨by omega, c⟩
      · rintro ⟨h1, h2⟩
        by_cases e : i = s
        · exact Or.inr e
        · exact Or.inl ⟨by omega, h2⟩
    · rw [if_neg c, b_0]
      constructor
      · rintro (h | h)
        · exact ⟨by omega, h.2⟩
        · cases h
      · rintro ⟨h1, h2⟩
        by_cases e : i = s
        · rw [e] at h2; exact absurd h2 c
        · exact Or.inl ⟨by omega, h2⟩
theorem thr_pc (hn : n ≤ 24) (hw : gw f n) (hJ : dS f (al n) 23 = 0) {x t : Nat} (ht : t < n) : i_pc (thr f n x t n) = sm (fun s => ct f (al n) x t (gd f (al n) s t) s) n := by
  rw [i_pc_sm, sm_more (n := n) (by omega) (fun k q1 _ => by rw [if_neg (fun q => by have := (thr_bt n hn k).mp q; omega)])]
  refine sm_congr (fun s hs => ?_)
  have h1 := ct_le hn hw hJ (a := x) ht _ s hs rfl
  by_cases c : 0 < ct f (al n) x t (gd f (al n) s t) s
  · rw [if_pos ((thr_bt n hn s).mpr ⟨hs, c⟩)]
    omega
  · rw [if_neg (fun q => c ((thr_bt n hn s).mp q).2)]
    omega
theorem c_ca {a b : Nat} (h1 : 1 ≤ n) (hn : n ≤ 24) (hw : gw f n) (hJ : dS f (al n) 23 = 0) (ha : a < n) (hb : b < n) : ∀ (m t u acc : Nat) (σ : hp_S), t + m = n → m < u → (∀ x t, x < n → t < n → σ.1 62 (24 * x + t) = hnx f (al n) x t) → (∀ y r, y < n → r < n → σ.1 63 (24 * y + r) = thr f n y r n) → g118_6 N u 61 (nI n) (nI a) (nI b) (nI acc) (nI t) (hp σ, cs) = some (.inl (some (.int (nI (acc + sm (fun i => if (if t + i = a then -1 else nI (hq f (al n) a (t + i))) = nI b then sm (fun s => ct f (al n) a (t + i) (gd f (al n) s (t + i)) s) n else 0) m)))), (hp σ, cs)) := by
  intro m
  induction m with
  | zero =>
    intro t u acc σ ht hu hh hr
    obtain ⟨u, rfl⟩ : ∃ q, u = q + 1 := ⟨u - 1, by omega⟩
    unfold g118_6
    rw [if_pos (nI_le (by omega) (by omega))]
    rfl
  | succ m ih =>
    intro t u acc σ ht hu hh hr
    obtain ⟨u, rfl⟩ : ∃ q, u = q + 1 := ⟨u - 1, by omega⟩
    have ehop : hnx f (al n) a t = if t = a then -1 else nI (hq f (al n) a t) := by
      by_cases c : t = a
      · rw [if_pos c, c, hn_self (by omega)]
      · rw [if_neg c, (hop_ok hn hw hJ ha (by omega) (fun q => c q.symm)).1]
    rw [sm_front, sm_congr (F := fun k => if (if t + (k + 1) = a then -1 else nI (hq f (al n) a (t + (k + 1)))) = nI b then sm (fun s => ct f (al n) a (t + (k + 1)) (gd f (al n) s (t + (k + 1))) s) n else 0) (G := fun i => if (if t + 1 + i = a then -1 else nI (hq f (al n) a (t + 1 + i))) = nI b then sm (fun s => ct f (al n) a (t + 1 + i) (gd f (al n) s (t + 1 + i)) s) n else 0) (fun i _ => by rw [show t + 1 + i = t + (i + 1) by omega])]
    rw [g118_6]
    unfold g118_43 f113
    rw [if_neg (nI_ge (by omega) (by omega)), o61, r61_0, ix_b, a62 (by omega), hh a t ha (by omega), lf_ci_r, ehop]
    by_cases c : (if t = a then -1 else nI (hq f (al n) a t)) = nI b
    · rw [if_neg (fun q => q c), r61_1, a63 (by omega), hr a t ha (by omega), c_pc, lf_ci_r, thr_pc hn hw hJ (by omega), nI_add, nI_1, ih (t + 1) u _ σ (by omega) (by omega) hh hr]
      rw [if_pos (show (if t + 0 = a then -1 else nI (hq f (al n) a (t + 0))) = nI b from c), Nat.add_assoc]
      rfl
    · rw [if_pos c, nI_1, ih (t + 1) u _ σ (by omega) (by omega) hh hr]
      rw [if_neg (show ¬ (if t + 0 = a then -1 else nI (hq f (al n) a (t + 0))) = nI b from c), Nat.zero_add]
theorem gL_eq {a b : Nat} (hn : n ≤ 24) (hw : gw f n) (hJ : dS f (al n) 23 = 0) (ha : a < n) (hb : b < n) : sm (fun i => if (if 0 + i = a then -1 else nI (hq f (al n) a (0 + i))) = nI b then sm (fun s => ct f (al n) a (0 + i) (gd f (al n) s (0 + i)) s) n else 0) n = gL f n a b := by
  unfold gL
  refine sm_congr (fun t ht => ?_)
  rw [Nat.zero_add]
  by_cases c : t = a
  · subst c
    have hz : sm (fun s => ct f (al n) t t (gd f (al n) s t) s) n = 0 := by
      refine (sm_congr (G := fun _ => 0) (fun s hs => ?_)).trans sm_0
      have : ∀ k x, x < n → gd f (al n) x t = k → ct f (al n) t t k x = 0 := by
        intro k
        induction k with
        | zero => intro x _ _; rfl
        | succ k ih =>
          intro x hx hk
          have hxt : x ≠ t := by
            intro q
            rw [q, gd_self (by omega)] at hk
            omega
          obtain ⟨-, h2, -, h4⟩ := hop_ok hn hw hJ hx ht hxt
          show (if x = t then 1 else 0) + ct f (al n) t t k (hq f (al n) x t) = 0
          rw [if_neg hxt, ih _ h2 (by omega)]
      exact this _ s hs rfl
    rw [if_pos rfl, hz, if_neg (fun q => by rw [Eq.comm, q_ne1 (by omega)] at q; exact q)]
    split <;> rfl
  · have h2 := (hop_ok hn hw hJ ha ht (fun q => c q.symm)).2.1
    rw [if_neg c]
    by_cases d : hq f (al n) a t = b
    · rw [if_pos d, if_pos (by rw [d])]
    · rw [if_neg d, if_neg (by rw [q_eq (by omega) (by omega)]; exact d)]
/-- countAlong -/
theorem c_along {σ : hp_S} {a b : Nat} (h1 : 1 ≤ n) (hn : n ≤ 24) (hw : gw f n) (hJ : dS f (al n) 23 = 0) (hN : iv_N N) (ha : a < n) (hb : b < n) (hh : ∀ x t, x < n → t < n → σ.1 62 (24 * x + t) = hnx f (al n) x t) (hr : ∀ y r, y < n → r < n → σ.1 63 (24 * y + r) = thr f n y r n) : f118 N 61 (nI n) (nI a) (nI b) (hp σ, cs) = some (.inl (some (.int (nI (gL f n a b)))), (hp σ, cs)) := by
  have := c_ca (N := N) (cs := cs) (f := f) (a := a) (b := b) h1 hn hw hJ ha hb n 0 N 0 σ (by omega) (by unfold iv_N at hN; omega) hh hr
  rw [Nat.zero_add, gL_eq hn hw hJ ha hb] at this
  unfold f118
  exact this
/-- trackWays -/
theorem c_track {σ : hp_S} (h1 : 1 ≤ n) (hn : n ≤ 24) (hw : gw f n) (hJ : dS f (al n) 23 = 0) (hN : iv_N N) (hh : ∀ x t, x < n → t < n → σ.1 62 (24 * x + t) = hnx f (al n) x t) : ∃ τ, fr [63] [] σ τ ∧ (∀ y r, y < n → r < n → τ.1 63 (24 * y + r) = thr f n y r n) ∧ f116 N 61 (nI n) (hp σ, cs) = some (.inl none, (hp τ, cs)) := by
  obtain ⟨τ, q1, q2, q3⟩ := c_tw3 (N := N) (cs := cs) (f := f) h1 hn hw hJ hN n 0 N σ (by omega) (by unfold iv_N at hN; omega) hh (fun _ r _ hr => absurd hr (Nat.not_lt_zero r))
  exact ⟨τ, q1, q2, q3⟩
end LD
theorem case_load {J : iv_J} {rd : iv_rd} {N : Nat} (hN : iv_N N) : iv_caseN J rd N g327_2416 := by
  intro sc i σ cs hs hi hI
  have key : ∃ (τ : hp_S) (ds : Nat × Nat), iv J τ ∧ ds.1 ≤ cs.1 + 1 ∧ ds.2 ≤ cs.2 + 6 ∧ ∀ k : lf_W → lf_R, tl_I (tc_I [("java/util/NoSuchElementException", 1)] (f161 N 0 (sc.2 (i + 1)) (sc.2 (i + 2)) (sc.2 (i + 3)) (hp σ, cs))) (fun w => f274 N 72 (sc.2 (i + 1)) (sc.2 (i + 2)) (sc.2 (i + 3)) w) k = k (hp τ, ds) := by
    generalize sc.2 (i + 1) = x
    generalize sc.2 (i + 2) = y
    generalize sc.2 (i + 3) = z
    refine askI (x := x) hI hN rfl (fun h => ?_) (fun σ' ds w h => ?_) (fun s n d f hs8 hx hg hv => ?_)
    · unfold f161
      rw [o0, c_hw_no h]
      rfl
    · unfold f274
      rw [o72, h, lf_ci_r, if_pos rfl]
    · subst hx
      have hn1 := hg.1
      have hn := hg.2.1
      rcases two_or n hn y z with h | ⟨p, q, hp', hq', rfl, rfl⟩
      · refine Or.inr ⟨"java/util/NoSuchElementException", 1, σ, iv_kept.rf σ, by decide, rfl, ?_, fun σ' μ ds hm hl => ⟨hp_wf μ 72 0 1, 0, iv_kept.wm (by omega), hp_wf_at, ?_⟩⟩
        · unfold f161
          rw [o0, c_hw_out hs8 hn1 hn hv.1 h]
          rfl
        · show f274 N 72 (nI s) y z (hp σ', ds) = _
          unfold f274
          rw [o72, hl, lf_ci_r, if_neg (by decide), o72, m_has_out hn hm.1 hm.2.2.1 h, lf_ci_r, if_neg (fun q => q rfl)]
      · obtain ⟨τ, q1, q2, q3, q4⟩ := c_fill (σ := σ) (cs := cs) (N := N) hs8 hn1 hn hg.2.2.2.2.1 hN hv.1 hv.2.2 hI.2.2.2.2.2.2.2.2.2
        have kt : ∀ τ', fr [62, 63, 66, 67] [(61, 4), (61, 5)] σ τ' → τ'.2.2.2 61 4 = τ'.2.2.2 61 5 → iv_kept σ τ' := fun τ' w1 w2 => w1.keptS rfl rfl (fun h => h.of61 w1 w2 (by decide) (by decide) (by decide) (by decide))
        have w1 : fr [62, 63, 66, 67] [(61, 4), (61, 5)] σ τ := q1.wk (fun _ h => by simp at h; rcases h with h | h | h <;> simp [h]) (fun _ h => h)
        by_cases c : dS f (al n) 23 = 0
        · rw [if_pos c] at q4
          obtain ⟨υ, p1, p2, p3⟩ := c_track (σ := τ) (cs := cs) (N := N) hn1 hn hg.2.2.2.2.1 c hN q3
          have w2 : fr [62, 63, 66, 67] [(61, 4), (61, 5)] σ υ := w1.tr (p1.wk (fun _ h => by simp at h; simp [h]) (fun _ h => absurd h List.not_mem_nil))
          have hv2 := hv.fr w2 (by simp; omega) (by simp <;> omega) (by simp <;> omega)
          refine Or.inl ⟨nI (gL f n p q), υ, kt υ w2 (by rw [p1.g List.not_mem_nil, p1.g List.not_mem_nil]; exact q2), ?_, fun σ' μ ds hm hl => ?_⟩
          · unfold f161 f117
            rw [o0, c_hw_in hs8 hn hv.1 hp' hq', lf_cr_r, r0_11, o61, q4, lf_ci_r, if_neg (by decide), r0_11, o61, sN_1 hs8, (hv.fr w1 (by simp; omega) (by simp <;> omega) (by simp <;> omega)).1, o61, p3, lf_cv_r, sN_1 hs8, hv2.1, o61, c_along hn1 hn hg.2.2.2.2.1 c hN hp' hq' (fun a b ha hb => by rw [p1.r (by decide)]; exact q3 a b ha hb) p2, lf_ci_r, lf_ci_r]
          · obtain ⟨ψ, r1, r2, r3, r4⟩ := m_routes (σ := μ) (cs := ds) (N := N) hn hg.2.2.2.2.1 hN hm.1 hm.2.2.2
            rw [if_pos c] at r4
            obtain ⟨ω, z1, z2, z3⟩ := m_counts (σ := ψ) (cs := ds) (N := N) hn hg.2.2.2.2.1 c hN (by rw [r1.f List.not_mem_nil]; exact hm.1) r2
            refine ⟨ω, (r1.kept rfl rfl).tr (z1.kept rfl rfl), by rw [z1.l (by decide), r1.l (by decide)], by rw [z1.f List.not_mem_nil, r1.f List.not_mem_nil]; exact hm.2.2.1, ?_⟩
            show f274 N 72 (nI s) (nI p) (nI q) (hp σ', ds) = _
            unfold f274
            rw [o72, hl, lf_ci_r, if_neg (by decide), o72, m_has_in hn hm.1 hm.2.2.1 hp' hq', lf_ci_r, if_pos (by decide), o72, r4, lf_ci_r, if_pos (by decide), o72, z3, lf_cv_r, r72_67, ix_a, a109 (by omega), z2 p q (by omega) (by omega)]
        · rw [if_neg c] at q4
          refine Or.inl ⟨0, τ, kt τ w1 q2, ?_, fun σ' μ ds hm hl => ?_⟩
          · unfold f161
            rw [o0, c_hw_in hs8 hn hv.1 hp' hq', lf_cr_r, r0_11, o61, q4, lf_ci_r, if_pos rfl]
          · obtain ⟨ψ, r1, r2, r3, r4⟩ := m_routes (σ := μ) (cs := ds) (N := N) hn hg.2.2.2.2.1 hN hm.1 hm.2.2.2
            rw [if_neg c] at r4
            refine ⟨ψ, r1.kept rfl rfl, r1.l (by decide), by rw [r1.f List.not_mem_nil]; exact hm.2.2.1, ?_⟩
            show f274 N 72 (nI s) (nI p) (nI q) (hp σ', ds) = _
            unfold f274
            rw [o72, hl, lf_ci_r, if_neg (by decide), o72, m_has_in hn hm.1 hm.2.2.1 hp' hq', lf_ci_r, if_pos (by decide), o72, r4, lf_ci_r, if_neg (fun q => q rfl)]
  obtain ⟨τ, ds, q1, q2, q3, q4⟩ := key
  refine ⟨τ, ds, q1, q2, q3, fun k23 => ?_⟩
  rw [← q4 (k23 (nI i + 6))]
  unfold g327_2416 h320 f320
  simp only [iv_s1 hs hi, iv_s2 hs hi, iv_s3 hs hi, Option.bind_some, if_pos hp_x]
  rfl
