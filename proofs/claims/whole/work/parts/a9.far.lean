/-! thin by lines, by knots; rings -/
section TH
variable {cs : Nat × Nat} {N n d s : Nat} {f : Nat → Int32}
def mnL (f : Nat → Int32) (n : Nat) : Nat → Nat → Nat → Nat
  | 0, _, L => L
  | m + 1, b, L => mnL f n m (b + 1) (min L (fl n 0 b 9 (rL f n)))
theorem c_tL (hs : s < 8) (hg : GW n d f) (hN : iv_N N) : ∀ (m b u L : Nat) (σ : hp_S), b + m = n → 1 ≤ b → m < u → L ≤ 100 → NV σ s n d f → ∃ τ, fr [34, 35, 36] [] σ τ ∧ g35_15 N u 33 (2 + 2 * s) (nI L) (nI b) (hp σ, cs) = some (.inl (some (.int (nI (mnL f n m b L)))), (hp τ, cs)) := by
  have hn := hg.2.1
  intro m
  induction m with
  | zero =>
    intro b u L σ hb h1 hu hL hv
    obtain ⟨u, rfl⟩ : ∃ q, u = q + 1 := ⟨u - 1, by omega⟩
    refine ⟨σ, fr.rf, ?_⟩
    unfold g35_15
    rw [sN_1 hs, hv.1, if_pos (nI_le (by omega) (by omega))]
    rfl
  | succ m ih =>
    intro b u L σ hb h1 hu hL hv
    obtain ⟨u, rfl⟩ : ∃ q, u = q + 1 := ⟨u - 1, by omega⟩
    obtain ⟨τ, q1, q2⟩ := c_ways (σ := σ) (cs := cs) (N := N) (a := 0) (b := b) (L := L) hs hg hN hv (by omega) (by omega) (by omega) hL
    obtain ⟨υ, p1, p2⟩ := ih (b + 1) u (min L (fl n 0 b 9 (rL f n))) τ (by omega) (by omega) (by omega) (by omega) (hv.fr q1 (by simp; omega) (by simp <;> omega) (by simp <;> omega))
    refine ⟨υ, q1.tr p1, ?_⟩
    unfold g35_15
    rw [sN_1 hs, hv.1, if_neg (nI_ge (by omega) (by omega)), o33, show (0 : Int32) = nI 0 from rfl, q2, lf_ci_r, nI_1]
    exact p2
theorem m_tL (hg : GW n d f) (hN : iv_N N) : ∀ (m b u L : Nat) (σ : hp_S), b + m = n → 1 ≤ b → m < u → L ≤ 100 → σ.2.2.1 72 4 = nI n → (∀ j, j < 24 → σ.1 76 j = f j) → ∃ τ, fr [82, 83, 84] [] σ τ ∧ g229_15 N u 72 (nI L) (nI b) (hp σ, cs) = some (.inl (some (.int (nI (mnL f n m b L)))), (hp τ, cs)) := by
  have hn := hg.2.1
  intro m
  induction m with
  | zero =>
    intro b u L σ hb h1 hu hL e ef
    obtain ⟨u, rfl⟩ : ∃ q, u = q + 1 := ⟨u - 1, by omega⟩
    refine ⟨σ, fr.rf, ?_⟩
    unfold g229_15
    rw [i72_4, e, if_pos (nI_le (by omega) (by omega))]
    rfl
  | succ m ih =>
    intro b u L σ hb h1 hu hL e ef
    obtain ⟨u, rfl⟩ : ∃ q, u = q + 1 := ⟨u - 1, by omega⟩
    have h8 := fl_8 hg (show 0 < n by omega) (show b < n by omega) (by omega)
    obtain ⟨τ, q1, q2⟩ := m_ways (σ := σ) (cs := cs) (N := N) (a := 0) (b := b) hg hN e ef (by omega) (by omega) (by omega)
    obtain ⟨υ, p1, p2⟩ := ih (b + 1) u (min L (fl n 0 b 9 (rL f n))) τ (by omega) (by omega) (by omega) (by omega) (by rw [q1.f List.not_mem_nil]; exact e) (fun j hj => by rw [q1.r (by decide)]; exact ef j hj)
    refine ⟨υ, q1.tr p1, ?_⟩
    have emn : mnL f n (m + 1) b L = mnL f n m (b + 1) (min L (fl n 0 b 9 (rL f n))) := rfl
    rw [emn]
    unfold g229_15 g229_40
    rw [i72_4, e, if_neg (nI_ge (by omega) (by omega)), o72, show (0 : Int32) = nI 0 from rfl, q2, lf_ci_r, nI_1]
    by_cases c : L ≤ fl n 0 b 9 (rL f n)
    · rw [if_pos (nI_le c (by omega))]
      rw [Nat.min_eq_left c] at p2 ⊢
      exact p2
    · rw [if_neg (nI_ge (by omega) (by omega))]
      rw [Nat.min_eq_right (by omega)] at p2 ⊢
      exact p2
/-- fewestLines -/
theorem c_thin {σ : hp_S} (hs : s < 8) (hg : GW n d f) (hN : iv_N N) (hv : NV σ s n d f) : ∃ τ, fr [34, 35, 36] [] σ τ ∧ f35 N 33 (2 + 2 * s) (hp σ, cs) = some (.inl (some (.int (if n = 1 then -1 else nI (mnL f n (n - 1) 1 99)))), (hp τ, cs)) := by
  have h1 := hg.1
  have hn := hg.2.1
  by_cases c : n = 1
  · refine ⟨σ, fr.rf, ?_⟩
    unfold f35
    rw [sN_1 hs, hv.1, if_pos c, if_neg (fun q => q (by rw [c]; rfl))]
  · obtain ⟨τ, q1, q2⟩ := c_tL (N := N) (cs := cs) hs hg hN (n - 1) 1 N 24 σ (by omega) (by omega) (by unfold iv_N at hN; omega) (by omega) hv
    refine ⟨τ, q1, ?_⟩
    have h8 := fl_8 hg (show 0 < n by omega) (show 1 < n by omega) (by omega)
    have e : mnL f n (n - 1) 1 24 = mnL f n (n - 1) 1 99 := by
      obtain ⟨m, hm⟩ : ∃ m, n - 1 = m + 1 := ⟨n - 2, by omega⟩
      rw [hm]
      show mnL f n m 2 (min 24 (fl n 0 1 9 (rL f n))) = mnL f n m 2 (min 99 (fl n 0 1 9 (rL f n)))
      rw [show min 24 (fl n 0 1 9 (rL f n)) = min 99 (fl n 0 1 9 (rL f n)) by omega]
    unfold f35
    rw [sN_1 hs, hv.1, if_pos (show ¬ nI n = 1 from by rw [show (1 : Int32) = nI 1 from rfl, q_eq (by omega) (by omega)]; exact c), if_neg c, ← e]
    exact q2
theorem m_thin {σ : hp_S} (hg : GW n d f) (hN : iv_N N) (e : σ.2.2.1 72 4 = nI n) (ef : ∀ j, j < 24 → σ.1 76 j = f j) : ∃ τ, fr [82, 83, 84] [] σ τ ∧ f229 N 72 (hp σ, cs) = some (.inl (some (.int (if n = 1 then -1 else nI (mnL f n (n - 1) 1 99)))), (hp τ, cs)) := by
  have h1 := hg.1
  have hn := hg.2.1
  by_cases c : n = 1
  · refine ⟨σ, fr.rf, ?_⟩
    unfold f229
    rw [i72_4, e, if_pos c, if_neg (fun q => q (by rw [c]; rfl))]
  · obtain ⟨τ, q1, q2⟩ := m_tL (N := N) (cs := cs) hg hN (n - 1) 1 N 99 σ (by omega) (by omega) (by unfold iv_N at hN; omega) (by omega) e ef
    refine ⟨τ, q1, ?_⟩
    unfold f229
    rw [i72_4, e, if_pos (show ¬ nI n = 1 from by rw [show (1 : Int32) = nI 1 from rfl, q_eq (by omega) (by omega)]; exact c), if_neg c]
    exact q2
theorem mk2_8 {a b : Nat} (hg : GW n d f) (ha : a < n) (hb : b < n) : mk2 f n a b ≤ 8 := by
  have hn := hg.2.1
  have hPh := rK_Ph (f := f) (a := a) (d := 8) hn ha (by have := hg.2.2.2.2.2 a (by omega); have := hg.2.2.2.1; omega)
  have := fl_le (S := S1 (24 + a)) (show 48 ≤ 48 by omega) (show 24 + a < 48 by omega) (show b < 48 by omega) (decide_eq_true rfl) (fun q => by have := of_decide_eq_true q; omega) 9 (rK f n)
  unfold mk2
  omega
theorem c_kb {a : Nat} (hs : s < 8) (hg : GW n d f) (hN : iv_N N) (ha : a < n) {k9 : Nat → Nat → Int32 → Int32 → lf_W → lf_R} : ∀ (m b u F : Nat) (σ : hp_S), b + m = n → a < b → m < u → F ≤ 100 → NV σ s n d f → ∃ τ F', fr [34, 35, 36] [] σ τ ∧ F' ≤ F ∧ (F' = F ∨ ∃ b', b ≤ b' ∧ b' < n ∧ ¬ bt (f a) b' = true ∧ F' = mk2 f n a b') ∧ (∀ b', b ≤ b' → b' < n → ¬ bt (f a) b' = true → F' ≤ mk2 f n a b') ∧ g36_19 N k9 u 33 (2 + 2 * s) (nI F) (nI a) (nI b) (hp σ, cs) = k9 33 (2 + 2 * s) (nI F') (nI (a + 1)) (hp τ, cs) := by
  have hn := hg.2.1
  intro m
  induction m with
  | zero =>
    intro b u F σ hb hab hu hF hv
    obtain ⟨u, rfl⟩ : ∃ q, u = q + 1 := ⟨u - 1, by omega⟩
    refine ⟨σ, F, fr.rf, Nat.le_refl _, Or.inl rfl, fun b' h1 h2 => by omega, ?_⟩
    unfold g36_19
    rw [sN_1 hs, hv.1, if_pos (nI_le (by omega) (by omega)), nI_1]
  | succ m ih =>
    intro b u F σ hb hab hu hF hv
    obtain ⟨u, rfl⟩ : ∃ q, u = q + 1 := ⟨u - 1, by omega⟩
    unfold g36_19 g36_48
    rw [sN_1 hs, hv.1, if_neg (nI_ge (by omega) (by omega)), sN_o hs, c_joins hs (by omega) (by omega), lf_ci_r, hv.2.2 a (by omega)]
    by_cases c : bt (f a) b = true
    · obtain ⟨τ, F', q1, q2, q3, q4, q5⟩ := ih (b + 1) u F σ (by omega) (by omega) (by omega) hF hv
      refine ⟨τ, F', q1, q2, ?_, fun b' h1 h2 h3 => ?_, ?_⟩
      · rcases q3 with h | ⟨b', h1, h2⟩
        · exact Or.inl h
        · exact Or.inr ⟨b', by omega, h2⟩
      · by_cases g : b' = b
        · rw [g] at h3; exact absurd c h3
        · exact q4 b' (by omega) h2 h3
      · rw [if_pos c, if_pos (by decide), nI_1]
        exact q5
    · obtain ⟨τ, q1, q2⟩ := c_waysK (σ := σ) (cs := cs) (N := N) (a := a) (b := b) (L := F) hs hg hN hv ha (by omega) hF
      obtain ⟨υ, F', p1, p2, p3, p4, p5⟩ := ih (b + 1) u (min F (mk2 f n a b)) τ (by omega) (by omega) (by omega) (by omega) (hv.fr q1 (by simp; omega) (by simp <;> omega) (by simp <;> omega))
      refine ⟨υ, F', q1.tr p1, by omega, ?_, fun b' h1 h2 h3 => ?_, ?_⟩
      · rcases p3 with h | ⟨b', h1, h2⟩
        · by_cases g : F ≤ mk2 f n a b
          · exact Or.inl (by omega)
          · exact Or.inr ⟨b, by omega, by omega, c, by omega⟩
        · exact Or.inr ⟨b', by omega, h2⟩
      · by_cases g : b' = b
        · rw [g]; omega
        · exact p4 b' (by omega) h2 h3
      · rw [if_neg c, if_neg (fun q => q rfl), o33, q2, lf_ci_r, nI_1]
        exact p5
theorem c_ka (hs : s < 8) (hg : GW n d f) (hN : iv_N N) : ∀ (m a u F : Nat) (σ : hp_S), a + m = n → m < u → F ≤ n - 1 → NV σ s n d f → ∃ τ F', fr [34, 35, 36] [] σ τ ∧ F' ≤ F ∧ (F' = F ∨ ∃ a' b', a' < b' ∧ b' < n ∧ ¬ bt (f a') b' = true ∧ F' = mk2 f n a' b') ∧ (∀ a' b', a ≤ a' → a' < F' → a' < b' → b' < n → ¬ bt (f a') b' = true → F' ≤ mk2 f n a' b') ∧ g36_9 N u 33 (2 + 2 * s) (nI F) (nI a) (hp σ, cs) = some (.inl (some (.int (nI F'))), (hp τ, cs)) := by
  have h1 := hg.1
  have hn := hg.2.1
  have fin : ∀ (a u F : Nat) (σ : hp_S), F ≤ a → a ≤ n → ∃ τ F', fr [34, 35, 36] [] σ τ ∧ F' ≤ F ∧ (F' = F ∨ ∃ a' b', a' < b' ∧ b' < n ∧ ¬ bt (f a') b' = true ∧ F' = mk2 f n a' b') ∧ (∀ a' b', a ≤ a' → a' < F' → a' < b' → b' < n → ¬ bt (f a') b' = true → F' ≤ mk2 f n a' b') ∧ g36_9 N (u + 1) 33 (2 + 2 * s) (nI F) (nI a) (hp σ, cs) = some (.inl (some (.int (nI F'))), (hp τ, cs)) := by
    intro a u F σ hF ha
    refine ⟨σ, F, fr.rf, Nat.le_refl _, Or.inl rfl, fun a' b' g1 g2 => by omega, ?_⟩
    unfold g36_9
    rw [if_pos (nI_le (by omega) (by omega))]
  intro m
  induction m with
  | zero =>
    intro a u F σ ha hu hF hv
    obtain ⟨u, rfl⟩ : ∃ q, u = q + 1 := ⟨u - 1, by omega⟩
    exact fin a u F σ (by omega) (by omega)
  | succ m ih =>
    intro a u F σ ha hu hF hv
    obtain ⟨u, rfl⟩ : ∃ q, u = q + 1 := ⟨u - 1, by omega⟩
    by_cases c : F ≤ a
    · exact fin a u F σ c (by omega)
    · have hlt : a < F := by omega
      have hF31 : F < 2 ^ 31 := by omega
      obtain ⟨τ, F1, q1, q2, q3, q4, q5⟩ := c_kb (N := N) (cs := cs) (k9 := g36_9 N u) hs hg hN (show a < n by omega) (n - (a + 1)) (a + 1) N F σ (by omega) (by omega) (by unfold iv_N at hN; omega) (by omega) hv
      obtain ⟨υ, F', p1, p2, p3, p4, p5⟩ := ih (a + 1) u F1 τ (by omega) (by omega) (by omega) (hv.fr q1 (by simp; omega) (by simp <;> omega) (by simp <;> omega))
      refine ⟨υ, F', q1.tr p1, by omega, ?_, fun a' b' g1 g2 g3 g4 g5 => ?_, ?_⟩
      · rcases p3 with h | h
        · rcases q3 with h' | ⟨b', k1, k2, k3, k4⟩
          · exact Or.inl (by omega)
          · exact Or.inr ⟨a, b', by omega, k2, k3, by omega⟩
        · exact Or.inr h
      · by_cases g : a' = a
        · rw [g] at g5 ⊢
          have := q4 b' (by omega) g4 g5
          omega
        · exact p4 a' b' (by omega) g2 g3 g4 g5
      · unfold g36_9
        rw [if_neg (nI_ge hlt hF31), nI_1, q5]
        exact p5
theorem m_kb {a : Nat} (hg : GW n d f) (hN : iv_N N) (ha : a < n) {k9 : Nat → Int32 → Int32 → lf_W → lf_R} : ∀ (m b u F : Nat) (σ : hp_S), b + m = n → a < b → m < u → F ≤ 100 → σ.2.2.1 72 4 = nI n → (∀ j, j < 24 → σ.1 76 j = f j) → ∃ τ F', fr [82, 83, 84] [] σ τ ∧ F' ≤ F ∧ (F' = F ∨ ∃ b', b ≤ b' ∧ b' < n ∧ ¬ bt (f a) b' = true ∧ F' = mk2 f n a b') ∧ (∀ b', b ≤ b' → b' < n → ¬ bt (f a) b' = true → F' ≤ mk2 f n a b') ∧ g230_21 N k9 u 72 (nI F) (nI a) (nI b) (hp σ, cs) = k9 72 (nI F') (nI (a + 1)) (hp τ, cs) := by
  have hn := hg.2.1
  intro m
  induction m with
  | zero =>
    intro b u F σ hb hab hu hF e ef
    obtain ⟨u, rfl⟩ : ∃ q, u = q + 1 := ⟨u - 1, by omega⟩
    refine ⟨σ, F, fr.rf, Nat.le_refl _, Or.inl rfl, fun b' h1 h2 => by omega, ?_⟩
    unfold g230_21
    rw [i72_4, e, if_pos (nI_le (by omega) (by omega)), nI_1]
  | succ m ih =>
    intro b u F σ hb hab hu hF e ef
    obtain ⟨u, rfl⟩ : ∃ q, u = q + 1 := ⟨u - 1, by omega⟩
    unfold g230_21 g230_61 g230_62
    rw [i72_4, e, if_neg (nI_ge (by omega) (by omega)), o72, m_joined (by omega) (by omega), lf_ci_r, ef a (by omega)]
    by_cases c : bt (f a) b = true
    · obtain ⟨τ, F', q1, q2, q3, q4, q5⟩ := ih (b + 1) u F σ (by omega) (by omega) (by omega) hF e ef
      refine ⟨τ, F', q1, q2, ?_, fun b' h1 h2 h3 => ?_, ?_⟩
      · rcases q3 with h | ⟨b', h1, h2⟩
        · exact Or.inl h
        · exact Or.inr ⟨b', by omega, h2⟩
      · by_cases g : b' = b
        · rw [g] at h3; exact absurd c h3
        · exact q4 b' (by omega) h2 h3
      · rw [if_pos c, if_neg (by decide), nI_1]
        exact q5
    · have h8 := mk2_8 hg ha (show b < n by omega)
      have hm31 : mk2 f n a b < 2 ^ 31 := by omega
      have hF31 : F < 2 ^ 31 := by omega
      obtain ⟨τ, q1, q2⟩ := m_waysK (σ := σ) (cs := cs) (N := N) (a := a) (b := b) hg hN e ef ha (by omega)
      have q2' : f228 N 72 (nI a) (nI b) (hp σ, cs) = some (.inl (some (.int (nI (mk2 f n a b)))), (hp τ, cs)) := q2
      obtain ⟨υ, F', p1, p2, p3, p4, p5⟩ := ih (b + 1) u (min F (mk2 f n a b)) τ (by omega) (by omega) (by omega) (by omega) (by rw [q1.f List.not_mem_nil]; exact e) (fun j hj => by rw [q1.r (by decide)]; exact ef j hj)
      refine ⟨υ, F', q1.tr p1, by omega, ?_, fun b' h1 h2 h3 => ?_, ?_⟩
      · rcases p3 with h | ⟨b', h1, h2⟩
        · by_cases g : F ≤ mk2 f n a b
          · exact Or.inl (by omega)
          · exact Or.inr ⟨b, by omega, by omega, c, by omega⟩
        · exact Or.inr ⟨b', by omega, h2⟩
      · by_cases g : b' = b
        · rw [g]; omega
        · exact p4 b' (by omega) h2 h3
      · rw [if_neg c, if_pos rfl, o72, q2', lf_ci_r, nI_1]
        by_cases g : F ≤ mk2 f n a b
        · rw [if_pos (nI_le g hm31)]
          rw [Nat.min_eq_left g] at p5
          exact p5
        · rw [if_neg (nI_ge (Nat.lt_of_not_le g) hF31)]
          rw [Nat.min_eq_right (Nat.le_of_lt (Nat.lt_of_not_le g))] at p5
          exact p5
theorem m_ka (hg : GW n d f) (hN : iv_N N) : ∀ (m a u F : Nat) (σ : hp_S), a + m = n → m < u → F ≤ n - 1 → σ.2.2.1 72 4 = nI n → (∀ j, j < 24 → σ.1 76 j = f j) → ∃ τ F', fr [82, 83, 84] [] σ τ ∧ F' ≤ F ∧ (F' = F ∨ ∃ a' b', a' < b' ∧ b' < n ∧ ¬ bt (f a') b' = true ∧ F' = mk2 f n a' b') ∧ (∀ a' b', a ≤ a' → a' < b' → b' < n → ¬ bt (f a') b' = true → F' ≤ mk2 f n a' b') ∧ g230_9 N u 72 (nI F) (nI a) (hp σ, cs) = some (.inl (some (.int (nI F'))), (hp τ, cs)) := by
  have h1 := hg.1
  have hn := hg.2.1
  intro m
  induction m with
  | zero =>
    intro a u F σ ha hu hF e ef
    obtain ⟨u, rfl⟩ : ∃ q, u = q + 1 := ⟨u - 1, by omega⟩
    refine ⟨σ, F, fr.rf, Nat.le_refl _, Or.inl rfl, fun a' b' g1 g2 => by omega, ?_⟩
    unfold g230_9
    rw [i72_4, e, if_pos (nI_le (by omega) (by omega))]
  | succ m ih =>
    intro a u F σ ha hu hF e ef
    obtain ⟨u, rfl⟩ : ∃ q, u = q + 1 := ⟨u - 1, by omega⟩
    obtain ⟨τ, F1, q1, q2, q3, q4, q5⟩ := m_kb (N := N) (cs := cs) (k9 := g230_9 N u) hg hN (show a < n by omega) (n - (a + 1)) (a + 1) N F σ (by omega) (by omega) (by unfold iv_N at hN; omega) (by omega) e ef
    obtain ⟨υ, F', p1, p2, p3, p4, p5⟩ := ih (a + 1) u F1 τ (by omega) (by omega) (by omega) (by rw [q1.f List.not_mem_nil]; exact e) (fun j hj => by rw [q1.r (by decide)]; exact ef j hj)
    refine ⟨υ, F', q1.tr p1, by omega, ?_, fun a' b' g1 g3 g4 g5 => ?_, ?_⟩
    · rcases p3 with h | h
      · rcases q3 with h' | ⟨b', k1, k2, k3, k4⟩
        · exact Or.inl (by omega)
        · exact Or.inr ⟨a, b', by omega, k2, k3, by omega⟩
      · exact Or.inr h
    · by_cases g : a' = a
      · rw [g] at g5 ⊢
        have := q4 b' (by omega) g4 g5
        omega
      · exact p4 a' b' (by omega) g3 g4 g5
    · unfold g230_9
      rw [i72_4, e, if_neg (nI_ge (by omega) (by omega)), nI_1, q5]
      exact p5
/-- fewestKnots, both ways -/
theorem thinK (hs : s < 8) (hg : GW n d f) (hN : iv_N N) : ∃ K, (∀ (σ : hp_S) (cs : Nat × Nat), NV σ s n d f → ∃ τ, fr [34, 35, 36] [] σ τ ∧ f36 N 33 (2 + 2 * s) (hp σ, cs) = some (.inl (some (.int (nI K))), (hp τ, cs))) ∧ ∀ (σ : hp_S) (cs : Nat × Nat), σ.2.2.1 72 4 = nI n → (∀ j, j < 24 → σ.1 76 j = f j) → ∃ τ, fr [82, 83, 84] [] σ τ ∧ f230 N 72 (hp σ, cs) = some (.inl (some (.int (nI K))), (hp τ, cs)) := by
  have h1 := hg.1
  have hn := hg.2.1
  have e1 : nI n - 1 = nI (n - 1) := pk_sub (b := 1) h1
  have hc : ∀ (σ : hp_S) (cs : Nat × Nat), NV σ s n d f → ∃ τ F, fr [34, 35, 36] [] σ τ ∧ F ≤ n - 1 ∧ (F = n - 1 ∨ ∃ a b, a < b ∧ b < n ∧ ¬ bt (f a) b = true ∧ F = mk2 f n a b) ∧ (∀ a b, a < F → a < b → b < n → ¬ bt (f a) b = true → F ≤ mk2 f n a b) ∧ f36 N 33 (2 + 2 * s) (hp σ, cs) = some (.inl (some (.int (nI F))), (hp τ, cs)) := by
    intro σ cs hv
    obtain ⟨τ, F, q1, q2, q3, q4, q5⟩ := c_ka (N := N) (cs := cs) hs hg hN n 0 N (n - 1) σ (by omega) (by unfold iv_N at hN; omega) (Nat.le_refl _) hv
    refine ⟨τ, F, q1, q2, q3, fun a b g1 g2 g3 g4 => q4 a b (by omega) g1 g2 g3 g4, ?_⟩
    unfold f36
    rw [sN_1 hs, hv.1, e1]
    exact q5
  have hm : ∀ (σ : hp_S) (cs : Nat × Nat), σ.2.2.1 72 4 = nI n → (∀ j, j < 24 → σ.1 76 j = f j) → ∃ τ F, fr [82, 83, 84] [] σ τ ∧ F ≤ n - 1 ∧ (F = n - 1 ∨ ∃ a b, a < b ∧ b < n ∧ ¬ bt (f a) b = true ∧ F = mk2 f n a b) ∧ (∀ a b, a < b → b < n → ¬ bt (f a) b = true → F ≤ mk2 f n a b) ∧ f230 N 72 (hp σ, cs) = some (.inl (some (.int (nI F))), (hp τ, cs)) := by
    intro σ cs e ef
    obtain ⟨τ, F, q1, q2, q3, q4, q5⟩ := m_ka (N := N) (cs := cs) hg hN n 0 N (n - 1) σ (by omega) (by unfold iv_N at hN; omega) (Nat.le_refl _) e ef
    refine ⟨τ, F, q1, q2, q3, fun a b g2 g3 g4 => q4 a b (by omega) g2 g3 g4, ?_⟩
    unfold f230
    rw [i72_4, e, e1]
    exact q5
  -- one net at hand on the model's side fixes the number
  obtain ⟨τ0, K, -, k1, k2, k3, -⟩ := hm (hp_wf (((fun a => if a = 76 then f else fun _ => 0), fun _ _ => 0, fun _ _ => 0, fun _ _ => 0) : hp_S) 72 4 (nI n)) (0, 0) hp_wf_at (fun j _ => rfl)
  have hd8 : ∀ a, a < n → i_pc (f a) ≤ 8 := fun a ha => by have := hg.2.2.2.2.2 a (by omega); have := hg.2.2.2.1; omega
  refine ⟨K, fun σ cs hv => ?_, fun σ cs e ef => ?_⟩
  · obtain ⟨τ, F, q1, q2, q3, q4, q5⟩ := hc σ cs hv
    refine ⟨τ, q1, ?_⟩
    rw [q5, thin_eq hn hg.2.2.2.2.1 hd8 q2 q3 q4 k1 k2 k3]
  · obtain ⟨τ, F, q1, q2, q3, q4, q5⟩ := hm σ cs e ef
    refine ⟨τ, q1, ?_⟩
    have : F = K := thin_eq hn hg.2.2.2.2.1 hd8 q2 q3 (fun a b _ g2 g3 g4 => q4 a b g2 g3 g4) k1 k2 k3
    rw [q5, this]
/-! rings -/
def gi (q e : Nat) : Nat := if e < 24 ∧ e + 1 < q then e + 1 else q
def gir (f : Nat → Int32) (n : Nat) : List (Nat × Nat) → Nat → Nat
  | [], q => q
  | p :: l, q => gir f n l (gi q (gd (fl_r f p.1 p.2) (al n) p.1 p.2))
theorem gir_app (l l' : List (Nat × Nat)) : ∀ q, gir f n (l ++ l') q = gir f n l' (gir f n l q) := by
  induction l with
  | nil => intro q; rfl
  | cons p l ih => intro q; exact ih _
def iG (q : Nat) : Int32 := if q = 99 then -1 else nI q
def gok9 (q : Nat) : Prop := q = 99 ∨ q ≤ 24
theorem gi_ok {q e : Nat} (h : gok9 q) : gok9 (gi q e) := by
  unfold gi
  by_cases c : e < 24 ∧ e + 1 < q
  · rw [if_pos c]; exact Or.inr (by omega)
  · rw [if_neg c]; exact h
theorem c_g1 {a : Nat} (hs : s < 8) (hg : GW n d f) (hN : iv_N N) (ha : a < n) {k4 : Nat → Int32 → Int32 → lf_W → lf_R} : ∀ (l : List Nat) (u q : Nat) (x : Int32) (σ : hp_S), bl x = l → l.length < u → gok9 q → (∀ b, b ∈ l → a < b ∧ b < n ∧ bt (f a) b = true) → NV σ s n d f → ∃ τ, fr [] [] σ τ ∧ gok9 (gir f n (l.map (fun b => (a, b))) q) ∧ g105_18 N k4 u (2 + 2 * s) (iG q) (nI a) x (hp σ, cs) = k4 (2 + 2 * s) (iG (gir f n (l.map (fun b => (a, b))) q)) (nI (a + 1)) (hp τ, cs) := by
  have hn := hg.2.1
  have hw := hg.2.2.2.2.1
  intro l
  induction l with
  | nil =>
    intro u q x σ hl hu hq hx hv
    obtain ⟨u, rfl⟩ : ∃ q, u = q + 1 := ⟨u - 1, by omega⟩
    have hx0 : x = 0 := by
      apply Classical.byContradiction
      intro z
      obtain ⟨l, -, -, -, e, -⟩ := bl_low z
      rw [e] at hl
      cases hl
    refine ⟨σ, fr.rf, hq, ?_⟩
    unfold g105_18
    rw [if_pos hx0, nI_1]
    rfl
  | cons b l ih =>
    intro u q x σ hl hu hq hx hv
    obtain ⟨u, rfl⟩ : ∃ q, u = q + 1 := ⟨u - 1, by rw [List.length_cons] at hu; omega⟩
    rw [List.length_cons] at hu
    have hx0 : ¬ x = 0 := by
      intro z
      rw [z, bl_0] at hl
      cases hl
    obtain ⟨l', l1, l2, l3, e, el⟩ := bl_low hx0
    rw [e] at hl
    obtain ⟨e1, e2⟩ := List.cons.inj hl
    subst e1
    obtain ⟨b1, b2, b3⟩ := hx l' List.mem_cons_self
    have w1 : fr [] [] σ (fl2 (fl2 σ (3 + 2 * s) a l') (3 + 2 * s) a l') := fl2_back (A := []) (F := []) (by omega) List.not_mem_nil fr.rf
    have hv2 := hv.fr w1 List.not_mem_nil List.not_mem_nil List.not_mem_nil
    obtain ⟨τ, q1, q2, q3⟩ := ih u (gi q (gd (fl_r f a l') (al n) a l')) (x &&& (x - 1)) (fl2 (fl2 σ (3 + 2 * s) a l') (3 + 2 * s) a l') e2 (by omega) (gi_ok hq) (fun c hc => hx c (List.mem_cons_of_mem _ hc)) hv2
    refine ⟨τ, w1.tr q1, q2, ?_⟩
    have hbet : f104 N (3 + 2 * s) (nI a) (nI l') (hp (fl2 σ (3 + 2 * s) a l'), cs) = some (.inl (some (.int (gdI (fl_r f a l') (al n) a l'))), (hp (fl2 σ (3 + 2 * s) a l'), cs)) := by
      refine c_between (lay_row hs) (fun k hk => by rw [fl2_at]; exact fl_congr (by omega) (by omega) hv.2.2 k hk) hN (by omega) (by omega) (fun i hi => by have := (al_in hn).mp hi; omega) (fun j i hj hi => (al_in hn).mpr ((gw_fl hn hw ha b2 (by omega)) j hj i hi).2.1)
    unfold g105_18 g105_72 g105_75
    rw [if_neg hx0, (el N _).1, lf_nest_r, lf_ci_r, sN_o hs, c_flip2 hs (by omega) (by omega) (by omega), lf_cv_r, sN_r hs, hbet, lf_ci_r, sN_o hs, c_flip2 hs (by omega) (by omega) (by omega), lf_cv_r]
    have hgir : gir f n ((l' :: l).map (fun b => (a, b))) q = gir f n (l.map (fun b => (a, b))) (gi q (gd (fl_r f a l') (al n) a l')) := rfl
    rw [hgir]
    unfold gdI
    by_cases c : gd (fl_r f a l') (al n) a l' < 24
    · rw [if_pos c, nI_1, if_neg (show ¬ nI (gd (fl_r f a l') (al n) a l' + 1) ≤ 0 from nI_nle (by omega) (by omega))]
      by_cases c2 : gd (fl_r f a l') (al n) a l' + 1 < q
      · have eg1 : gi q (gd (fl_r f a l') (al n) a l') = gd (fl_r f a l') (al n) a l' + 1 := by unfold gi; rw [if_pos ⟨c, c2⟩]
        have e3 : iG (gd (fl_r f a l') (al n) a l' + 1) = nI (gd (fl_r f a l') (al n) a l' + 1) := by
          unfold iG
          rw [if_neg (by omega)]
        rw [eg1, e3] at q3
        rw [eg1]
        by_cases c3 : q = 99
        · have e4 : iG q = -1 := by unfold iG; rw [if_pos c3]
          rw [e4, if_pos rfl]
          exact q3
        · have hq24 : q ≤ 24 := hq.resolve_left c3
          have e4 : iG q = nI q := by unfold iG; rw [if_neg c3]
          rw [e4, if_neg (by rw [q_ne1 (by omega)]; exact id), if_neg (nI_ge c2 (by omega))]
          exact q3
      · have eg2 : gi q (gd (fl_r f a l') (al n) a l') = q := by unfold gi; rw [if_neg (fun z => c2 z.2)]
        have c3 : q ≠ 99 := by omega
        have hq24 : q ≤ 24 := hq.resolve_left c3
        have e4 : iG q = nI q := by unfold iG; rw [if_neg c3]
        rw [eg2, e4] at q3
        rw [eg2, e4, if_neg (by rw [q_ne1 (by omega)]; exact id), if_pos (nI_le (by omega) (by omega))]
        exact q3
    · have eg2 : gi q (gd (fl_r f a l') (al n) a l') = q := by unfold gi; rw [if_neg (fun z => c z.1)]
      rw [eg2] at q3
      rw [eg2, if_neg c, if_pos (by decide)]
      exact q3
theorem c_g2 (hs : s < 8) (hg : GW n d f) (hN : iv_N N) : ∀ (m a u q : Nat) (σ : hp_S), a + m = n → m < u → gok9 q → NV σ s n d f → ∃ τ, fr [] [] σ τ ∧ g105_4 N u (2 + 2 * s) (iG q) (nI a) (hp σ, cs) = some (.inl (some (.int (iG (gir f n (lq f n a m) q)))), (hp τ, cs)) := by
  have hn := hg.2.1
  have hw := hg.2.2.2.2.1
  intro m
  induction m with
  | zero =>
    intro a u q σ ha hu hq hv
    obtain ⟨u, rfl⟩ : ∃ q, u = q + 1 := ⟨u - 1, by omega⟩
    refine ⟨σ, fr.rf, ?_⟩
    unfold g105_4
    rw [sN_1 hs, hv.1, if_pos (nI_le (by omega) (by omega))]
    rfl
  | succ m ih =>
    intro a u q σ ha hu hq hv
    obtain ⟨u, rfl⟩ : ∃ q, u = q + 1 := ⟨u - 1, by omega⟩
    have hbl : bl (f a &&& lf_shl (-2) (nI a)) = hl f n a := bl_up (by omega) (by omega) (fun i hi => (hw a (by omega) i hi).2.1)
    obtain ⟨τ, q1, q2, q3⟩ := c_g1 (N := N) (cs := cs) (k4 := g105_4 N u) hs hg hN (show a < n by omega) (hl f n a) N q (f a &&& lf_shl (-2) (nI a)) σ hbl (by
      have := bl_le (f a &&& lf_shl (-2) (nI a))
      rw [hbl] at this
      unfold iv_N at hN
      omega) hq (fun b hb => by
      unfold hl at hb
      rw [List.mem_filter] at hb
      have := List.mem_range'_1.mp hb.1
      exact ⟨by omega, by omega, hb.2⟩) hv
    obtain ⟨υ, p1, p2⟩ := ih (a + 1) u _ τ (by omega) (by omega) q2 (hv.fr q1 List.not_mem_nil List.not_mem_nil List.not_mem_nil)
    refine ⟨υ, q1.tr p1, ?_⟩
    have el : lq f n a (m + 1) = (hl f n a).map (fun b => (a, b)) ++ lq f n (a + 1) m := rfl
    rw [el, gir_app]
    unfold g105_4
    rw [sN_1 hs, hv.1, if_neg (nI_ge (by omega) (by omega)), sN_o hs, c_higher hs (by omega) (hv.2.2 a (by omega)), lf_ci_r, q3]
    exact p2
theorem m_g (hg : GW n d f) (hN : iv_N N) : ∀ (m i u q : Nat) (σ : hp_S), i + m = (lq f n 0 n).length → m < u → gok9 q → σ.2.2.1 72 4 = nI n → (∀ j, j < 24 → σ.1 76 j = f j) → lnM σ (lq f n 0 n) → ∃ τ, fr [76, 81] [] σ τ ∧ g225_8 N u 72 (iG q) (nI i) (hp σ, cs) = some (.inl (some (.int (iG (gir f n ((lq f n 0 n).drop i) q)))), (hp τ, cs)) := by
  have hn := hg.2.1
  have hw := hg.2.2.2.2.1
  have h96 := hg.l96
  intro m
  induction m with
  | zero =>
    intro i u q σ hi hu hq e ef hL
    obtain ⟨u, rfl⟩ : ∃ q, u = q + 1 := ⟨u - 1, by omega⟩
    refine ⟨σ, fr.rf, ?_⟩
    unfold g225_8
    rw [i72_20, hL.1, if_pos (nI_le (by omega) (by omega)), List.drop_eq_nil_of_le (by omega)]
    rfl
  | succ m ih =>
    intro i u q σ hi hu hq e ef hL
    obtain ⟨u, rfl⟩ : ∃ q, u = q + 1 := ⟨u - 1, by omega⟩
    have hi' : i < (lq f n 0 n).length := by omega
    obtain ⟨y1, y2⟩ := lnM_at hL hi'
    have hget := lp_get hi'
    have hmem : lp (lq f n 0 n) i ∈ lq f n 0 n := List.mem_of_getElem? hget
    obtain ⟨-, m1, m2, m3⟩ := lq_mem n 0 (by omega) hmem
    have hdrop : (lq f n 0 n).drop i = lp (lq f n 0 n) i :: (lq f n 0 n).drop (i + 1) := by
      rw [List.drop_eq_getElem_cons hi']
      congr 1
      have := List.getElem?_eq_getElem hi'
      rw [hget] at this
      exact (Option.some.inj this).symm
    generalize hab : lp (lq f n 0 n) i = p at *
    obtain ⟨a, b⟩ := p
    have hba := (hw a (by omega) b m3).2.2.2
    obtain ⟨σ1, a1, a2, a3⟩ := m_parts2 (σ := σ) (cs := cs) (N := N) (p := a) (q := b) (f := f) (by omega) (by omega) (by omega) ef m3 hba
    have e1 : σ1.2.2.1 72 4 = nI n := by rw [a1.f List.not_mem_nil]; exact e
    have hL1 := hL.fr a1 (by decide) (by decide) List.not_mem_nil
    obtain ⟨σ2, b1, b2, -, b3⟩ := m_spreads (σ := σ1) (cs := cs) (N := N) (v := a) (f := fl_r f a b) (A := al n) (by omega) hn hN (fun i hi => (al_in hn).mp hi) e1 a2
    have ef2 : ∀ k, k < 24 → σ2.1 76 k = fl_r f a b k := fun k hk => by rw [b1.r (by decide)]; exact a2 k hk
    have hL2 := hL1.fr b1 (by decide) (by decide) List.not_mem_nil
    have hon := fl_on (f := f) (p := a) (q := b) (by omega) (by omega) (by omega)
    obtain ⟨σ3, c1, c2, c3⟩ := m_joins2 (σ := σ2) (cs := cs) (N := N) (p := a) (q := b) (f := fl_r f a b) (by omega) (by omega) (by omega) ef2 (by rw [hon.1, m3]; rfl) (by rw [hon.2, hba]; rfl)
    have w1 : fr [76, 81] [] σ σ3 := ((a1.wk (fun _ z => by simp at z; simp [z]) (fun _ z => z)).tr (b1.wk (fun _ z => by simp at z; simp [z]) (fun _ z => z))).tr (c1.wk (fun _ z => by simp at z; simp [z]) (fun _ z => z))
    have ef3 : ∀ k, k < 24 → σ3.1 76 k = f k := fun k hk => by rw [c2 k hk, fl_fl (by omega)]
    have hL3 := hL2.fr c1 (by decide) (by decide) List.not_mem_nil
    obtain ⟨τ, q1, q2⟩ := ih (i + 1) u (gi q (gd (fl_r f a b) (al n) a b)) σ3 (by omega) (by omega) (gi_ok hq) (by rw [w1.f List.not_mem_nil]; exact e) ef3 hL3
    refine ⟨τ, w1.tr q1, ?_⟩
    rw [hdrop]
    have hgir : gir f n ((a, b) :: (lq f n 0 n).drop (i + 1)) q = gir f n ((lq f n 0 n).drop (i + 1)) (gi q (gd (fl_r f a b) (al n) a b)) := rfl
    rw [hgir]
    have z1 : ∀ σ', lnM σ' (lq f n 0 n) → σ'.1 79 i = nI a ∧ σ'.1 80 i = nI b := fun σ' h => by
      have := lnM_at h hi'
      rw [hab] at this
      exact this
    unfold g225_8 g225_101 g225_105
    rw [i72_20, hL.1, if_neg (nI_ge (by omega) (by omega)), r72_21, a79 (by omega), (z1 σ hL).1, r72_22, a80 (by omega), (z1 σ hL).2, o72, a3, lf_cv_r, r72_21, a79 (by omega), (z1 σ1 hL1).1, o72, m_all e1, lf_ci_r, o72]
    rw [show f219 N 72 (nI a) (lf_shl 1 (nI n) - 1) (hp σ1, cs) = _ from b3, lf_cv_r, r72_23, r72_21, a79 (by omega), (z1 σ2 hL2).1, r72_22, a80 (by omega), (z1 σ2 hL2).2, ix_a, a81 (by omega), b2 b (by omega), r72_21, a79 (by omega), (z1 σ2 hL2).1, r72_22, a80 (by omega), (z1 σ2 hL2).2, o72, c3, lf_cv_r]
    unfold gdI
    by_cases c : gd (fl_r f a b) (al n) a b < 24
    · rw [if_pos c, if_neg (by rw [q_ne1 (by omega)]; exact id), nI_1, nI_1]
      by_cases c2 : gd (fl_r f a b) (al n) a b + 1 < q
      · have eg1 : gi q (gd (fl_r f a b) (al n) a b) = gd (fl_r f a b) (al n) a b + 1 := by unfold gi; rw [if_pos ⟨c, c2⟩]
        have e3 : iG (gd (fl_r f a b) (al n) a b + 1) = nI (gd (fl_r f a b) (al n) a b + 1) := by
          unfold iG
          rw [if_neg (by omega)]
        rw [eg1, e3] at q2
        rw [eg1]
        by_cases c4 : q = 99
        · have e4 : iG q = -1 := by unfold iG; rw [if_pos c4]
          rw [e4, if_pos rfl]
          exact q2
        · have hq24 : q ≤ 24 := hq.resolve_left c4
          have e4 : iG q = nI q := by unfold iG; rw [if_neg c4]
          rw [e4, if_neg (by rw [q_ne1 (by omega)]; exact id), if_neg (nI_ge c2 (by omega))]
          exact q2
      · have eg2 : gi q (gd (fl_r f a b) (al n) a b) = q := by unfold gi; rw [if_neg (fun z => c2 z.2)]
        have c4 : q ≠ 99 := by omega
        have hq24 : q ≤ 24 := hq.resolve_left c4
        have e4 : iG q = nI q := by unfold iG; rw [if_neg c4]
        rw [eg2, e4] at q2
        rw [eg2, e4, if_neg (by rw [q_ne1 (by omega)]; exact id), if_pos (nI_le (by omega) (by omega))]
        exact q2
    · have eg2 : gi q (gd (fl_r f a b) (al n) a b) = q := by unfold gi; rw [if_neg (fun z => c z.1)]
      rw [eg2] at q2
      rw [eg2, if_neg c, if_pos rfl, nI_1]
      exact q2
end TH
