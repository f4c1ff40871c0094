/-! the lowest bit -/
theorem an_comp (k m : Nat) (h : m < 2 ^ k) : m &&& (2 ^ k - (m + 1)) = 0 := by
  apply Nat.eq_of_testBit_eq
  intro i
  rw [Nat.testBit_and, Nat.testBit_two_pow_sub_succ h, Nat.zero_testBit]
  cases m.testBit i <;> simp
theorem lo_and : ∀ (k n : Nat), 0 < n → n < 2 ^ k → ∃ l, l < k ∧ n &&& (2 ^ k - n) = 2 ^ l ∧ n.testBit l = true ∧ ∀ i, i < l → n.testBit i = false
  | 0, n, h, h2 => by
    rw [Nat.pow_zero] at h2
    omega
  | k + 1, n, h, h2 => by
    rw [Nat.pow_succ] at h2
    rcases Nat.mod_two_eq_zero_or_one n with e | e
    · obtain ⟨m, rfl⟩ : ∃ m, n = 2 * m := ⟨n / 2, by omega⟩
      obtain ⟨l, l1, l2, l3, l4⟩ := lo_and k m (by omega) (by omega)
      refine ⟨l + 1, by omega, ?_, ?_, fun i hi => ?_⟩
      · have e1 : ((2 * m) &&& (2 ^ (k + 1) - 2 * m)) % 2 ^ 1 = 0 := by
          rw [Nat.and_mod_two_pow, show (2 * m) % 2 ^ 1 = 0 by omega, Nat.zero_and]
        have e2 : ((2 * m) &&& (2 ^ (k + 1) - 2 * m)) / 2 ^ 1 = m &&& (2 ^ k - m) := by
          rw [Nat.and_div_two_pow, show (2 * m) / 2 ^ 1 = m by omega, show (2 ^ (k + 1) - 2 * m) / 2 ^ 1 = 2 ^ k - m by rw [Nat.pow_succ]; omega]
        rw [l2] at e2
        have e3 : 2 ^ (l + 1) = 2 ^ l * 2 := Nat.pow_succ 2 l
        rw [e3]
        omega
      · rw [Nat.testBit_succ, show 2 * m / 2 = m by omega]
        exact l3
      · cases i with
        | zero =>
          rw [Nat.testBit_zero, show 2 * m % 2 = 0 by omega]
          rfl
        | succ i =>
          rw [Nat.testBit_succ, show 2 * m / 2 = m by omega]
          exact l4 i (by omega)
    · obtain ⟨m, rfl⟩ : ∃ m, n = 2 * m + 1 := ⟨n / 2, by omega⟩
      refine ⟨0, by omega, ?_, ?_, fun i hi => absurd hi (Nat.not_lt_zero i)⟩
      · have e1 : ((2 * m + 1) &&& (2 ^ (k + 1) - (2 * m + 1))) % 2 ^ 1 = 1 := by
          rw [Nat.and_mod_two_pow, show (2 * m + 1) % 2 ^ 1 = 1 by omega, show (2 ^ (k + 1) - (2 * m + 1)) % 2 ^ 1 = 1 by rw [Nat.pow_succ]; omega]
          rfl
        have e2 : ((2 * m + 1) &&& (2 ^ (k + 1) - (2 * m + 1))) / 2 ^ 1 = 0 := by
          rw [Nat.and_div_two_pow, show (2 * m + 1) / 2 ^ 1 = m by omega, show (2 ^ (k + 1) - (2 * m + 1)) / 2 ^ 1 = 2 ^ k - (m + 1) by rw [Nat.pow_succ]; omega]
          exact an_comp k m (by omega)
        rw [Nat.pow_zero]
        omega
      · rw [Nat.testBit_zero, show (2 * m + 1) % 2 = 1 by omega]
        rfl
theorem pcF_pow : ∀ l, l < 32 → pcF 32 (2 ^ l - 1) = l := by decide +kernel
theorem nI_neg {n : Nat} (h : n ≤ 2 ^ 32) : -nI n = nI (2 ^ 32 - n) := by
  rw [← pk_sub h, show nI (2 ^ 32) = 0 from (by decide +kernel), Int32.zero_sub]
/-- the class's lowest -/
theorem c_low {N : Nat} {x : Int32} (h : ¬ x = 0) : ∃ l, l < 32 ∧ bt x l = true ∧ (∀ i, i < l → bt x i = false) ∧ ∀ w : lf_W, f171 N x w = some (.inl (some (.int (nI l))), w) := by
  obtain ⟨n, hn, rfl⟩ := wb_of32 x
  have h0 : 0 < n := by
    rcases Nat.eq_zero_or_pos n with e | e
    · subst e
      exact absurd rfl h
    · exact e
  obtain ⟨l, l1, l2, l3, l4⟩ := lo_and 32 n h0 hn
  refine ⟨l, l1, by rw [bt_nI hn]; exact l3, fun i hi => by rw [bt_nI hn]; exact l4 i hi, fun w => ?_⟩
  have hp : 1 ≤ 2 ^ l := Nat.one_le_two_pow
  have hp2 : 2 ^ l < 2 ^ 32 := Nat.pow_lt_pow_right (by omega) l1
  unfold f171
  rw [nI_neg (Nat.le_of_lt hn), nx_and, l2, show nI (2 ^ l) - 1 = nI (2 ^ l - 1) from pk_sub (b := 1) hp, c_bits (by omega), lf_ci_r, pcF_pow l l1]
