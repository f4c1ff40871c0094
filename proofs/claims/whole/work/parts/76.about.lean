/-! the class's counts of a net: lines, fewest, most at a knot -/
def ab_sum (f : Nat → Int32) : Nat → Nat → Int32 → Int32
  | _, 0, acc => acc
  | k, m + 1, acc => ab_sum f (k + 1) m (acc + nI (i_pc (f k)))
def ab_min (f : Nat → Int32) : Nat → Nat → Int32 → Int32
  | _, 0, acc => acc
  | k, m + 1, acc => ab_min f (k + 1) m (lf_min acc (nI (i_pc (f k))))
def ab_max (f : Nat → Int32) : Nat → Nat → Int32 → Int32
  | _, 0, acc => acc
  | k, m + 1, acc => ab_max f (k + 1) m (lf_max acc (nI (i_pc (f k))))
section AB
variable {σ : hp_S} {cs : Nat × Nat} {N s n : Nat}
theorem c_lines_loop (hs : s < 8) (hn : n ≤ 24) (e : σ.2.2.1 (2 + 2 * s) 1 = nI n) : ∀ (m k u : Nat) (acc : Int32), k + m = n → m < u → g59_4 N u (2 + 2 * s) acc (nI k) (hp σ, cs) = some (.inl (some (.int (ab_sum (σ.1 (3 + 2 * s)) k m acc / 2))), (hp σ, cs)) := by
  intro m
  induction m with
  | zero =>
    intro k u acc hk hu
    obtain ⟨u, rfl⟩ : ∃ q, u = q + 1 := ⟨u - 1, by omega⟩
    unfold g59_4
    rw [c_kn hs, Option.bind_some, e, if_pos (nI_le (by omega) (by omega))]
    rfl
  | succ m ih =>
    intro k u acc hk hu
    obtain ⟨u, rfl⟩ : ∃ q, u = q + 1 := ⟨u - 1, by omega⟩
    unfold g59_4 ab_sum
    rw [c_kn hs, Option.bind_some, e, if_neg (nI_ge (by omega) (by omega)), c_rw hs, Option.bind_some, c_row hs (by omega), Option.bind_some, c_pc, lf_ci_r, nI_1]
    exact ih (k + 1) u _ (by omega) (by omega)
theorem c_few_loop (hs : s < 8) (hn : n ≤ 24) (e : σ.2.2.1 (2 + 2 * s) 1 = nI n) : ∀ (m k u : Nat) (acc : Int32), k + m = n → m < u → g60_5 N u (2 + 2 * s) acc (nI k) (hp σ, cs) = some (.inl (some (.int (ab_min (σ.1 (3 + 2 * s)) k m acc))), (hp σ, cs)) := by
  intro m
  induction m with
  | zero =>
    intro k u acc hk hu
    obtain ⟨u, rfl⟩ : ∃ q, u = q + 1 := ⟨u - 1, by omega⟩
    unfold g60_5
    rw [c_kn hs, Option.bind_some, e, if_pos (nI_le (by omega) (by omega))]
    rfl
  | succ m ih =>
    intro k u acc hk hu
    obtain ⟨u, rfl⟩ : ∃ q, u = q + 1 := ⟨u - 1, by omega⟩
    unfold g60_5 ab_min
    rw [c_kn hs, Option.bind_some, e, if_neg (nI_ge (by omega) (by omega)), c_rw hs, Option.bind_some, c_row hs (by omega), Option.bind_some, c_pc, lf_ci_r, nI_1]
    exact ih (k + 1) u _ (by omega) (by omega)
theorem c_most_loop (hs : s < 8) (hn : n ≤ 24) (e : σ.2.2.1 (2 + 2 * s) 1 = nI n) : ∀ (m k u : Nat) (acc : Int32), k + m = n → m < u → g61_4 N u (2 + 2 * s) acc (nI k) (hp σ, cs) = some (.inl (some (.int (ab_max (σ.1 (3 + 2 * s)) k m acc))), (hp σ, cs)) := by
  intro m
  induction m with
  | zero =>
    intro k u acc hk hu
    obtain ⟨u, rfl⟩ : ∃ q, u = q + 1 := ⟨u - 1, by omega⟩
    unfold g61_4
    rw [c_kn hs, Option.bind_some, e, if_pos (nI_le (by omega) (by omega))]
    rfl
  | succ m ih =>
    intro k u acc hk hu
    obtain ⟨u, rfl⟩ : ∃ q, u = q + 1 := ⟨u - 1, by omega⟩
    unfold g61_4 ab_max
    rw [c_kn hs, Option.bind_some, e, if_neg (nI_ge (by omega) (by omega)), c_rw hs, Option.bind_some, c_row hs (by omega), Option.bind_some, c_pc, lf_ci_r, nI_1]
    exact ih (k + 1) u _ (by omega) (by omega)
/-- the model's fewest and most in one loop; the answer by what is asked -/
theorem m_about_loop {x : Int32} (hn : n ≤ 24) (e : σ.2.2.1 72 4 = nI n) (hN : iv_N N) : ∀ (m k u : Nat) (x3 x4 : Int32), k + m = n → m < u → g217_45 N u 72 x x3 x4 (nI k) (hp σ, cs) = some (.inl (some (.int (if ¬ x = 0 then (if ¬ x = 1 then (if ¬ x = 2 then (if ¬ x = 3 then ab_max (σ.1 76) k m x4 else ab_min (σ.1 76) k m x3) else σ.2.2.1 72 20) else σ.2.2.1 72 5) else nI n))), (hp σ, cs)) := by
  intro m
  induction m with
  | zero =>
    intro k u x3 x4 hk hu
    obtain ⟨u, rfl⟩ : ∃ q, u = q + 1 := ⟨u - 1, by omega⟩
    unfold g217_45
    rw [hp_fi (a := 72) (k := 4) rfl rfl, Option.bind_some, e, if_pos (nI_le (by omega) (by omega)), hp_fi (a := 72) (k := 20) rfl rfl, Option.bind_some, hp_fi (a := 72) (k := 5) rfl rfl, Option.bind_some, Option.bind_some]
    by_cases c0 : x = 0
    · rw [if_neg (fun q => q c0), if_neg (fun q => q c0)]
    rw [if_pos c0, if_pos c0]
    by_cases c1 : x = 1
    · rw [if_neg (fun q => q c1), if_neg (fun q => q c1)]
    rw [if_pos c1, if_pos c1]
    by_cases c2 : x = 2
    · rw [if_neg (fun q => q c2), if_neg (fun q => q c2)]
    rw [if_pos c2, if_pos c2]
    by_cases c3 : x = 3
    · rw [if_neg (fun q => q c3), if_neg (fun q => q c3)]
      rfl
    · rw [if_pos c3, if_pos c3]
      rfl
  | succ m ih =>
    intro k u x3 x4 hk hu
    obtain ⟨u, rfl⟩ : ∃ q, u = q + 1 := ⟨u - 1, by omega⟩
    have hk24 : k < 24 := by omega
    have h82 : ∀ y3 : Int32, g217_82 N (g217_45 N u) 72 x x4 (nI k) y3 (hp σ, cs) = g217_45 N u 72 x y3 (lf_max x4 (nI (i_pc (σ.1 76 k)))) (nI (k + 1)) (hp σ, cs) := by
      intro y3
      unfold g217_82 g217_113
      rw [hp_fr (a := 72) (k := 6) (b := 76) rfl rfl, Option.bind_some, hp_ri (a := 76) (n := 24) rfl (in_nI hk24 (by omega)), Option.bind_some, nI_clamp (by omega), m_pc hN, lf_ci_r, nI_1]
      unfold lf_max
      by_cases c : nI (i_pc (σ.1 76 k)) ≤ x4
      · rw [if_pos c, if_neg (by rw [fa_le] at c; rw [fa_lt]; omega)]
      · rw [if_neg c, hp_fr (a := 72) (k := 6) (b := 76) rfl rfl, Option.bind_some, hp_ri (a := 76) (n := 24) rfl (in_nI hk24 (by omega)), Option.bind_some, nI_clamp (by omega), m_pc hN, lf_ci_r, if_pos (by rw [fa_le] at c; rw [fa_lt]; omega)]
    unfold g217_45 ab_max ab_min
    rw [hp_fi (a := 72) (k := 4) rfl rfl, Option.bind_some, e, if_neg (nI_ge (by omega) (by omega)), hp_fr (a := 72) (k := 6) (b := 76) rfl rfl, Option.bind_some, hp_ri (a := 76) (n := 24) rfl (in_nI hk24 (by omega)), Option.bind_some, nI_clamp (by omega), m_pc hN, lf_ci_r]
    have hmin : (if x3 ≤ nI (i_pc (σ.1 76 k)) then x3 else nI (i_pc (σ.1 76 k))) = lf_min x3 (nI (i_pc (σ.1 76 k))) := by
      unfold lf_min
      by_cases c : x3 ≤ nI (i_pc (σ.1 76 k))
      · rw [if_pos c, if_neg (by rw [fa_le] at c; rw [fa_lt]; omega)]
      · rw [if_neg c, if_pos (by rw [fa_le] at c; rw [fa_lt]; omega)]
    by_cases c : x3 ≤ nI (i_pc (σ.1 76 k))
    · rw [if_pos c] at hmin ⊢
      rw [h82, ← hmin]
      exact ih (k + 1) u _ _ (by omega) (by omega)
    · rw [if_neg c] at hmin ⊢
      rw [hp_fr (a := 72) (k := 6) (b := 76) rfl rfl, Option.bind_some, hp_ri (a := 76) (n := 24) rfl (in_nI hk24 (by omega)), Option.bind_some, nI_clamp (by omega), m_pc hN, lf_ci_r, h82, ← hmin]
      exact ih (k + 1) u _ _ (by omega) (by omega)
end AB
theorem ab_min_congr {f g : Nat → Int32} : ∀ (m k : Nat) (acc : Int32), k + m ≤ 24 → (∀ j, j < 24 → f j = g j) → ab_min f k m acc = ab_min g k m acc
  | 0, _, _, _, _ => rfl
  | m + 1, k, acc, h, e => by
    unfold ab_min
    rw [e k (by omega)]
    exact ab_min_congr m (k + 1) _ (by omega) e
theorem ab_max_congr {f g : Nat → Int32} : ∀ (m k : Nat) (acc : Int32), k + m ≤ 24 → (∀ j, j < 24 → f j = g j) → ab_max f k m acc = ab_max g k m acc
  | 0, _, _, _, _ => rfl
  | m + 1, k, acc, h, e => by
    unfold ab_max
    rw [e k (by omega)]
    exact ab_max_congr m (k + 1) _ (by omega) e
