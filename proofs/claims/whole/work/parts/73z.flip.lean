/-! a bit turned: one more, or one less -/
theorem pcF_turn : ∀ (k q n : Nat), q < k → n.testBit q = false → pcF k (n ^^^ 2 ^ q) = pcF k n + 1
  | 0, q, _, h, _ => absurd h (Nat.not_lt_zero q)
  | k + 1, 0, n, _, h => by
    have h0 : n % 2 = 0 := by
      rw [Nat.testBit_zero] at h
      have := of_decide_eq_false h
      omega
    have e1 : (n ^^^ 2 ^ 0) % 2 = 1 := by
      have e := Nat.xor_mod_two_pow (a := n) (b := 2 ^ 0) (n := 1)
      rw [Nat.pow_one] at e
      rw [e, h0]
      rfl
    have e2 : (n ^^^ 2 ^ 0) / 2 = n / 2 := by
      have e := Nat.xor_div_two_pow (a := n) (b := 2 ^ 0) (n := 1)
      rw [Nat.pow_one] at e
      rw [e]
      show n / 2 ^^^ 0 = n / 2
      exact Nat.xor_zero _
    show (n ^^^ 2 ^ 0) % 2 + pcF k ((n ^^^ 2 ^ 0) / 2) = n % 2 + pcF k (n / 2) + 1
    rw [e1, e2, h0]
    omega
  | k + 1, q + 1, n, hq, h => by
    have e1 : (n ^^^ 2 ^ (q + 1)) % 2 = n % 2 := by
      have e := Nat.xor_mod_two_pow (a := n) (b := 2 ^ (q + 1)) (n := 1)
      rw [Nat.pow_one] at e
      rw [e, Nat.pow_succ, Nat.mul_mod_left, Nat.xor_zero]
    have e2 : (n ^^^ 2 ^ (q + 1)) / 2 = n / 2 ^^^ 2 ^ q := by
      have e := Nat.xor_div_two_pow (a := n) (b := 2 ^ (q + 1)) (n := 1)
      rw [Nat.pow_one] at e
      rw [e, Nat.pow_succ, Nat.mul_div_cancel _ (by omega)]
    show (n ^^^ 2 ^ (q + 1)) % 2 + pcF k ((n ^^^ 2 ^ (q + 1)) / 2) = n % 2 + pcF k (n / 2) + 1
    rw [e1, e2, pcF_turn k q (n / 2) (by omega) (by rw [Nat.testBit_succ] at h; exact h)]
    omega
theorem i_pc_nI {n : Nat} (hn : n < 2 ^ 32) : i_pc (nI n) = pcF 32 n := by
  unfold i_pc
  rw [pk_tn hn]
theorem bt_nI {n q : Nat} (hn : n < 2 ^ 32) : bt (nI n) q = n.testBit q := by
  have e : (nI n).toBitVec.getLsbD q = (nI n).toBitVec.toNat.testBit q := rfl
  unfold bt
  rw [e, pk_tn hn]
theorem shl_nI {q : Nat} (hq : q < 32) : lf_shl 1 (nI q) = nI (2 ^ q) := by
  have e := pk_shlN (n := 1) (nI q &&& 31) q (s_l q hq) (by rw [Nat.one_mul]; exact Nat.pow_lt_pow_right (by omega) hq)
  rw [Nat.one_mul] at e
  exact e
/-- one more -/
theorem i_pc_on {x : Int32} {q : Nat} (hq : q < 32) (h : bt x q = false) : i_pc (x ^^^ lf_shl 1 (nI q)) = i_pc x + 1 := by
  obtain ⟨n, hn, rfl⟩ := wb_of32 x
  rw [bt_nI hn] at h
  rw [shl_nI hq, nx_xor, i_pc_nI hn, i_pc_nI (Nat.xor_lt_two_pow hn (Nat.pow_lt_pow_right (by omega) hq))]
  exact pcF_turn 32 q n hq h
/-- one less -/
theorem i_pc_off {x : Int32} {q : Nat} (hq : q < 32) (h : bt x q = true) : i_pc (x ^^^ lf_shl 1 (nI q)) + 1 = i_pc x := by
  have h2 : bt (x ^^^ lf_shl 1 (nI q)) q = false := by
    rw [x_bit hq hq, h, decide_eq_true rfl]
    rfl
  have e := i_pc_on hq h2
  have e3 : x ^^^ lf_shl 1 (nI q) ^^^ lf_shl 1 (nI q) = x := by
    apply b_ext
    intro i hi
    rw [x_bit hq hi, x_bit hq hi]
    cases bt x i <;> cases decide (i = q) <;> rfl
  rw [e3] at e
  exact e.symm
