/-! small nets, the model: all numberings -/
section SMT
variable {cs : Nat × Nat} {N n : Nat} {P : Nat → Nat} {σ τ : hp_S}
def PTy (σ : hp_S) (n : Nat) (P : Nat → Nat) : Prop := ∀ k, k < n → σ.1 98 k = nI (P k)
/-- two change places -/
theorem m_move8 {i j : Nat} (hn : n ≤ 6) (hi : i < n) (hj : j < n) (h5 : PTy σ n P) : f250 N 72 (nI i) (nI j) (hp σ, cs) = some (.inl none, (hp (hp_wi (hp_wi σ 98 i (nI (P j))) 98 j (nI (P i))), cs)) ∧ PTy (hp_wi (hp_wi σ 98 i (nI (P j))) 98 j (nI (P i))) n (swp P i j) := by
  constructor
  · unfold f250
    rw [r72_53, a98 (by omega), h5 i hi, r72_53, r72_53, a98 (by omega), h5 j hj, b98 (by omega), r72_53, b98 (by omega)]
  · intro k hk
    by_cases c : k = j
    · rw [c, hp_wi_at, swp_j]
    · rw [hp_wi_nj c]
      by_cases d : k = i
      · rw [d, hp_wi_at, swp_i]
      · rw [hp_wi_nj d, swp_n d c]
        exact h5 k hk
/-- the end of an order is turned round -/
theorem m_turn8 {i : Nat} (hn : n ≤ 6) : ∀ (m x y u : Nat) (P : Nat → Nat) (σ : hp_S), (x ≤ y ∧ y - x ≤ m ∨ y + 1 = x) → m < u → x + y = i + n → i < x → y < n → prm n P → PTy σ n P → ∃ τ P', fr [98] [] σ τ ∧ PTy τ n P' ∧ prm n P' ∧ (∀ k, k < n → P' k = if x ≤ k ∧ k ≤ y then P (x + y - k) else P k) ∧ g249_78 N u 72 (nI x) (nI y) (hp σ, cs) = some (.inl (some (.int 1)), (hp τ, cs)) := by
  intro m
  induction m using Nat.strongRecOn with
  | ind m ih =>
    intro x y u P σ hxy hu hs hx hy hP h5
    obtain ⟨u, rfl⟩ : ∃ q, u = q + 1 := ⟨u - 1, by omega⟩
    by_cases c : y ≤ x
    · refine ⟨σ, P, fr.rf, h5, hP, fun k hk => ?_, ?_⟩
      · by_cases d : x ≤ k ∧ k ≤ y
        · rw [if_pos d, show x + y - k = k by omega]
        · rw [if_neg d]
      · unfold g249_78
        rw [if_pos (nI_le c (by omega))]
    · obtain ⟨a1, a2⟩ := m_move8 (N := N) (cs := cs) (σ := σ) (P := P) (i := x) (j := y) hn (by omega) hy h5
      obtain ⟨τ, P', q1, q2, q3, q4, q5⟩ := ih (m - 1) (by omega) (x + 1) (y - 1) u (swp P x y) _ (by omega) (by omega) (by omega) (by omega) (by omega) (swp_prm hP (by omega) hy) a2
      refine ⟨τ, P', ((fr.wi (by decide)).tr (fr.wi (by decide))).tr q1, q2, q3, fun k hk => ?_, ?_⟩
      · rw [q4 k hk]
        by_cases d : x + 1 ≤ k ∧ k ≤ y - 1
        · rw [if_pos d, if_pos (by omega), swp_n (by omega) (by omega), show x + 1 + (y - 1) - k = x + y - k by omega]
        · rw [if_neg d]
          by_cases e1 : k = x
          · subst e1
            rw [swp_i, if_pos (by omega), show k + y - k = y by omega]
          · by_cases e2 : k = y
            · subst e2
              rw [swp_j, if_pos (by omega), show x + k - k = x by omega]
            · rw [swp_n e1 e2, if_neg (by omega)]
      · have hm1 : nI y + (-1) = nI (y - 1) := by
          rw [show nI y + (-1) = nI y - 1 from (Int32.sub_eq_add_neg _ _).symm]
          exact pk_sub (b := 1) (by omega)
        unfold g249_78
        rw [if_neg (nI_ge (by omega) (by omega)), o72, a1, lf_cv_r, nI_1, hm1]
        exact q5
/-- the one to change with -/
theorem m_s41 {i : Nat} (hn : n ≤ 6) (hin : i + 1 < n) (hP : prm n P) (h1 : P i < P (i + 1)) (h5 : PTy σ n P) : ∀ (m j u : Nat), i + 1 + m = j → m < u → j < n → (∀ k, j < k → k < n → P k < P i) → ∃ j', i < j' ∧ j' < n ∧ P i < P j' ∧ (∀ k, j' < k → k < n → P k < P i) ∧ g249_41 N u 72 (nI n) (nI i) (nI j) (hp σ, cs) = (lf_cv (f250 N 72 (nI i) (nI j') (hp σ, cs)) fun w10 => g249_78 N N 72 (nI i + 1) (nI n - 1) w10) := by
  have hsm : ∀ k, k < n → P k < 2 ^ 31 := fun k hk => by have := hP.1 k hk; omega
  have stop : ∀ (j u : Nat), j < n → P i < P j → g249_41 N (u + 1) 72 (nI n) (nI i) (nI j) (hp σ, cs) = (lf_cv (f250 N 72 (nI i) (nI j) (hp σ, cs)) fun w10 => g249_78 N N 72 (nI i + 1) (nI n - 1) w10) := by
    intro j u hj hlt
    rw [g249_41]
    rw [r72_53, a98 (by omega), h5 j hj, r72_53, a98 (by omega), h5 i (by omega), if_pos (nI_le (by omega) (by have := hsm j hj; omega)), o72]
  intro m
  induction m with
  | zero =>
    intro j u hj hu hjn hk
    obtain ⟨u, rfl⟩ : ∃ q, u = q + 1 := ⟨u - 1, by omega⟩
    have ej : j = i + 1 := by omega
    subst ej
    exact ⟨i + 1, by omega, hjn, h1, hk, stop _ _ hjn h1⟩
  | succ m ih =>
    intro j u hj hu hjn hk
    obtain ⟨u, rfl⟩ : ∃ q, u = q + 1 := ⟨u - 1, by omega⟩
    by_cases c : P i < P j
    · exact ⟨j, by omega, hjn, c, hk, stop _ _ hjn c⟩
    · have hne : P j ≠ P i := fun z => by
        have := hP.2 j i hjn (by omega) z
        omega
      obtain ⟨j', q1, q2, q3, q4, q5⟩ := ih (j - 1) u (by omega) (by omega) (by omega) (fun k k1 k2 => by
        by_cases d : k = j
        · subst d; omega
        · exact hk k (by omega) k2)
      refine ⟨j', q1, q2, q3, q4, ?_⟩
      have hm1 : nI j + (-1) = nI (j - 1) := by
        rw [show nI j + (-1) = nI j - 1 from (Int32.sub_eq_add_neg _ _).symm]
        exact pk_sub (b := 1) (by omega)
      rw [← q5, g249_41]
      rw [r72_53, a98 (by omega), h5 j hjn, r72_53, a98 (by omega), h5 i (by omega), if_neg (nI_ge (by omega) (by have := hsm i (by omega); omega)), hm1]
/-- the next order -/
theorem m_next8 (hn1 : 1 ≤ n) (hn : n ≤ 6) (hN : iv_N N) (hP : prm n P) (h5 : PTy σ n P) : (f249 N 72 (nI n) (hp σ, cs) = some (.inl (some (.int 0)), (hp σ, cs)) ∧ ∀ Q, prm n Q → ¬ lxl n P Q) ∨ ∃ τ P', fr [98] [] σ τ ∧ PTy τ n P' ∧ prm n P' ∧ lxl n P P' ∧ (∀ Q, prm n Q → lxl n P Q → ¬ lxl n Q P') ∧ f249 N 72 (nI n) (hp σ, cs) = some (.inl (some (.int 1)), (hp τ, cs)) := by
  have hsm : ∀ k, k < n → P k < 2 ^ 31 := fun k hk => by have := hP.1 k hk; omega
  -- i goes down from n - 2
  have down : ∀ (m u : Nat), m < n → m < u → (∀ k, m < k → k < n → P k < P (k - 1)) → (g249_4 N u 72 (nI n) (nI m - 1) (hp σ, cs) = some (.inl (some (.int 0)), (hp σ, cs)) ∧ ∀ k, 0 < k → k < n → P k < P (k - 1)) ∨ ∃ i, i + 1 < n ∧ P i < P (i + 1) ∧ (∀ k, i + 1 < k → k < n → P k < P (k - 1)) ∧ g249_4 N u 72 (nI n) (nI m - 1) (hp σ, cs) = g249_41 N N 72 (nI n) (nI i) (nI (n - 1)) (hp σ, cs) := by
    intro m
    induction m with
    | zero =>
      intro u hm hu hd
      obtain ⟨u, rfl⟩ : ∃ q, u = q + 1 := ⟨u - 1, by omega⟩
      refine Or.inl ⟨?_, fun k k1 k2 => hd k k1 k2⟩
      unfold g249_4 g249_31
      rw [if_pos (show nI 0 - 1 < 0 by decide), if_neg (show ¬ 0 ≤ nI 0 - 1 by decide)]
    | succ m ih =>
      intro u hm hu hd
      obtain ⟨u, rfl⟩ : ∃ q, u = q + 1 := ⟨u - 1, by omega⟩
      have e1 : nI (m + 1) - 1 = nI m := pk_sub (b := 1) (by omega)
      rw [e1]
      by_cases c : P m < P (m + 1)
      · refine Or.inr ⟨m, hm, c, fun k k1 k2 => hd k k1 k2, ?_⟩
        have e2 : nI n - 1 = nI (n - 1) := pk_sub (b := 1) hn1
        unfold g249_4 g249_31
        rw [if_neg (nI_pos (by omega)), r72_53, a98 (by omega), h5 m (by omega), r72_53, nI_1, a98 (by omega), h5 (m + 1) hm, if_pos (nI_le (by omega) (by have := hsm (m + 1) hm; omega)), if_pos (show (0 : Int32) ≤ nI m from nI_le (a := 0) (by omega) (by omega)), e2]
      · have hne : P m ≠ P (m + 1) := fun z => by
          have := hP.2 m (m + 1) (by omega) hm z
          omega
        have hm1 : nI m + (-1) = nI m - 1 := (Int32.sub_eq_add_neg _ _).symm
        have step : g249_4 N (u + 1) 72 (nI n) (nI m) (hp σ, cs) = g249_4 N u 72 (nI n) (nI m - 1) (hp σ, cs) := by
          rw [g249_4]
          rw [if_neg (nI_pos (by omega)), r72_53, a98 (by omega), h5 m (by omega), r72_53, nI_1, a98 (by omega), h5 (m + 1) hm, if_neg (nI_ge (by omega) (by have := hsm m (by omega); omega)), hm1]
        rw [step]
        exact ih u (by omega) (by omega) (fun k k1 k2 => by
          by_cases d : k = m + 1
          · subst d
            rw [show m + 1 - 1 = m by omega]
            omega
          · exact hd k (by omega) k2)
  have chain : ∀ (i : Nat), (∀ k, i < k → k < n → P k < P (k - 1)) → ∀ d a, i ≤ a → a + 1 + d < n → P (a + 1 + d) < P a := by
    intro i h d
    induction d with
    | zero =>
      intro a h1 h2
      have := h (a + 1) (by omega) (by omega)
      rw [show a + 1 - 1 = a by omega] at this
      exact this
    | succ d ih =>
      intro a h1 h2
      have := ih a h1 (by omega)
      have h3 := h (a + 1 + (d + 1)) (by omega) h2
      rw [show a + 1 + (d + 1) - 1 = a + 1 + d by omega] at h3
      omega
  have e0 : nI n - 2 = nI (n - 1) - 1 := by
    have : nI n = nI (n - 1) + nI 1 := by rw [nI_add, show n - 1 + 1 = n by omega]
    rw [this, show (2 : Int32) = nI 1 + 1 from rfl]
    grind
  have unf : f249 N 72 (nI n) (hp σ, cs) = g249_4 N N 72 (nI n) (nI (n - 1) - 1) (hp σ, cs) := by
    unfold f249
    rw [e0]
  rcases down (n - 1) N (by omega) (by unfold iv_N at hN; omega) (fun k k1 k2 => by omega) with ⟨a1, a2⟩ | ⟨i, a1, a2, a3, a4⟩
  · refine Or.inl ⟨by rw [unf]; exact a1, fun Q hQ => last_ok hP (fun x y h1 h2 => ?_) hQ⟩
    have := chain 0 a2 (y - x - 1) x (Nat.zero_le _) (by omega)
    rw [show x + 1 + (y - x - 1) = y by omega] at this
    exact this
  · obtain ⟨j, b1, b2, b3, b4, b5⟩ := m_s41 (N := N) (cs := cs) (σ := σ) hn a1 hP a2 h5 (n - 1 - (i + 1)) (n - 1) N (by omega) (by unfold iv_N at hN; omega) (by omega) (fun k k1 k2 => by omega)
    obtain ⟨c1, c2⟩ := m_move8 (N := N) (cs := cs) (σ := σ) (P := P) (i := i) (j := j) hn (by omega) b2 h5
    have hPs := swp_prm hP (show i < n by omega) b2
    obtain ⟨τ, P', d1, d2, d3, d4, d5⟩ := m_turn8 (N := N) (cs := cs) (n := n) (i := i) hn n (i + 1) (n - 1) N (swp P i j) _ (by omega) (by unfold iv_N at hN; omega) (by omega) (by omega) (by omega) hPs c2
    have hdec : ∀ x y, i < x → x < y → y < n → P y < P x := fun x y h0 h1 h2 => by
      have := chain (i + 1) a3 (y - x - 1) x (by omega) (by omega)
      rw [show x + 1 + (y - x - 1) = y by omega] at this
      exact this
    have sdec : ∀ x y, i < x → x < y → y < n → swp P i j y < swp P i j x := fun x y h0 h1 h2 => by
      by_cases z1 : x = j
      · subst z1
        rw [swp_j, swp_n (by omega) (by omega)]
        exact b4 y h1 h2
      · by_cases z2 : y = j
        · subst z2
          rw [swp_j, swp_n (by omega) (by omega)]
          have := hdec x y h0 h1 h2
          omega
        · rw [swp_n (by omega) z2, swp_n (by omega) z1]
          exact hdec x y h0 h1 h2
    obtain ⟨n1, n2⟩ := next_ok (P := P) (P' := P') (i := i) (j := j) hP d3 b1 b2 hdec b3 b4 (fun k hk => by rw [d4 k (by omega), if_neg (by omega), swp_n (by omega) (by omega)]) (by rw [d4 i (by omega), if_neg (by omega), swp_i]) (fun x y h0 h1 h2 => by
      rw [d4 x (by omega), d4 y h2, if_pos (by omega), if_pos (by omega)]
      exact sdec _ _ (by omega) (by omega) (by omega))
    refine Or.inr ⟨τ, P', ((fr.wi (by decide)).tr (fr.wi (by decide))).tr d1, d2, d3, n1, n2, ?_⟩
    rw [unf, a4, b5, c1, lf_cv_r, nI_1, show nI n - 1 = nI (n - 1) from pk_sub (b := 1) hn1]
    exact d5
end SMT
