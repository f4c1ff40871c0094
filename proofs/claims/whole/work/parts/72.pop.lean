/-! how many bits a number has -/
theorem pcF_split : ∀ (k j n : Nat), pcF (k + j) n = pcF k (n % 2 ^ k) + pcF j (n / 2 ^ k)
  | 0, j, n => by
    rw [Nat.zero_add, Nat.pow_zero, Nat.div_one]
    show pcF j n = 0 + pcF j n
    omega
  | k + 1, j, n => by
    rw [show k + 1 + j = (k + j) + 1 by omega]
    show n % 2 + pcF (k + j) (n / 2) = (n % 2 ^ (k + 1) % 2 + pcF k (n % 2 ^ (k + 1) / 2)) + pcF j (n / 2 ^ (k + 1))
    rw [pcF_split k j (n / 2), Nat.pow_succ', Nat.mod_mul_right_mod, Nat.mod_mul_right_div_self, Nat.div_div_eq_div_mul]
    omega
theorem pcF_le : ∀ (k n : Nat), pcF k n ≤ k
  | 0, _ => Nat.le_refl _
  | k + 1, n => by
    have h := pcF_le k (n / 2)
    show n % 2 + pcF k (n / 2) ≤ k + 1
    omega
theorem an_split (b y m M : Nat) (hb : b < 256) (hm : m < 256) : (b + 256 * y) &&& (m + 256 * M) = (b &&& m) + 256 * (y &&& M) := by
  have e1 : ((b + 256 * y) &&& (m + 256 * M)) % 2 ^ 8 = b &&& m := by
    rw [Nat.and_mod_two_pow, show (b + 256 * y) % 2 ^ 8 = b by omega, show (m + 256 * M) % 2 ^ 8 = m by omega]
  have e2 : ((b + 256 * y) &&& (m + 256 * M)) / 2 ^ 8 = y &&& M := by
    rw [Nat.and_div_two_pow, show (b + 256 * y) / 2 ^ 8 = y by omega, show (m + 256 * M) / 2 ^ 8 = M by omega]
  omega
theorem an_1 : ∀ b, b < 256 → ∀ c, c < 2 → (b / 2 + 128 * c) &&& 85 = (b / 2) &&& 85 := by decide +kernel
theorem an_2 : ∀ b, b < 256 → ∀ c, c < 4 → (b / 4 + 64 * c) &&& 51 = (b / 4) &&& 51 := by decide +kernel
theorem an_3 : ∀ b, b < 69 → ∀ c, c < 5 → (b + b / 16 + 16 * c) &&& 15 = (b + b / 16) &&& 15 := by decide +kernel
def w1 (m n : Nat) : Nat := n - ((n / 2) &&& m)
def w2 (m n : Nat) : Nat := (n &&& m) + ((n / 4) &&& m)
def w3 (m n : Nat) : Nat := (n + n / 16) &&& m
theorem w1_s (b y M : Nat) (hb : b < 256) : w1 (85 + 256 * M) (b + 256 * y) = w1 85 b + 256 * w1 M y := by
  unfold w1
  have e : (b + 256 * y) / 2 = (b / 2 + 128 * (y % 2)) + 256 * (y / 2) := by omega
  rw [e, an_split _ _ _ _ (by omega) (by omega), an_1 b hb _ (by omega)]
  have h1 : (b / 2) &&& 85 ≤ b / 2 := Nat.and_le_left
  have h2 : (y / 2) &&& M ≤ y / 2 := Nat.and_le_left
  omega
theorem w2_s (b y M : Nat) (hb : b < 256) : w2 (51 + 256 * M) (b + 256 * y) = w2 51 b + 256 * w2 M y := by
  unfold w2
  have e : (b + 256 * y) / 4 = (b / 4 + 64 * (y % 4)) + 256 * (y / 4) := by omega
  rw [e, an_split b y _ _ hb (by omega), an_split (b / 4 + 64 * (y % 4)) (y / 4) _ _ (by omega) (by omega), an_2 b hb _ (by omega)]
  omega
theorem w3_s (b y M : Nat) (hb : b < 69) (hy : y % 16 < 5) : w3 (15 + 256 * M) (b + 256 * y) = w3 15 b + 256 * w3 M y := by
  unfold w3
  have e : (b + 256 * y) + (b + 256 * y) / 16 = (b + b / 16 + 16 * (y % 16)) + 256 * (y + y / 16) := by omega
  rw [e, an_split _ _ _ _ (by omega) (by omega), an_3 b hb _ hy]
theorem w_b : ∀ b, b < 256 → w1 85 b < 256 ∧ w2 51 (w1 85 b) < 69 ∧ w2 51 (w1 85 b) % 16 < 5 ∧ w3 15 (w2 51 (w1 85 b)) = pcF 8 b := by decide +kernel
/-- four bytes -/
theorem w_all {n : Nat} (hn : n < 2 ^ 32) : ∃ p0 p1 p2 p3, p0 ≤ 8 ∧ p1 ≤ 8 ∧ p2 ≤ 8 ∧ p3 ≤ 8 ∧ w3 252645135 (w2 858993459 (w1 1431655765 n)) = p0 + 256 * (p1 + 256 * (p2 + 256 * p3)) ∧ pcF 32 n = p0 + p1 + p2 + p3 ∧ w1 1431655765 n < 2 ^ 32 ∧ w2 858993459 (w1 1431655765 n) < 2 ^ 31 := by
  obtain ⟨b0, b1, b2, b3, h0, h1, h2, h3, rfl⟩ : ∃ b0 b1 b2 b3, b0 < 256 ∧ b1 < 256 ∧ b2 < 256 ∧ b3 < 256 ∧ n = b0 + 256 * (b1 + 256 * (b2 + 256 * b3)) := ⟨n % 256, n / 256 % 256, n / 65536 % 256, n / 16777216, by omega, by omega, by omega, by omega, by omega⟩
  obtain ⟨a1, a2, a3, a4⟩ := w_b b0 h0
  obtain ⟨c1, c2, c3, c4⟩ := w_b b1 h1
  obtain ⟨d1, d2, d3, d4⟩ := w_b b2 h2
  obtain ⟨e1, e2, e3, e4⟩ := w_b b3 h3
  have q1 : w1 1431655765 (b0 + 256 * (b1 + 256 * (b2 + 256 * b3))) = w1 85 b0 + 256 * (w1 85 b1 + 256 * (w1 85 b2 + 256 * w1 85 b3)) := by
    rw [show (1431655765 : Nat) = 85 + 256 * (85 + 256 * (85 + 256 * 85)) from rfl, w1_s _ _ _ h0, w1_s _ _ _ h1, w1_s _ _ _ h2]
  have q2 : w2 858993459 (w1 85 b0 + 256 * (w1 85 b1 + 256 * (w1 85 b2 + 256 * w1 85 b3))) = w2 51 (w1 85 b0) + 256 * (w2 51 (w1 85 b1) + 256 * (w2 51 (w1 85 b2) + 256 * w2 51 (w1 85 b3))) := by
    rw [show (858993459 : Nat) = 51 + 256 * (51 + 256 * (51 + 256 * 51)) from rfl, w2_s _ _ _ a1, w2_s _ _ _ c1, w2_s _ _ _ d1]
  have q3 : w3 252645135 (w2 51 (w1 85 b0) + 256 * (w2 51 (w1 85 b1) + 256 * (w2 51 (w1 85 b2) + 256 * w2 51 (w1 85 b3)))) = pcF 8 b0 + 256 * (pcF 8 b1 + 256 * (pcF 8 b2 + 256 * pcF 8 b3)) := by
    rw [show (252645135 : Nat) = 15 + 256 * (15 + 256 * (15 + 256 * 15)) from rfl, w3_s _ _ _ a2 (by omega), w3_s _ _ _ c2 (by omega), w3_s _ _ _ d2 (by omega), a4, c4, d4, e4]
  refine ⟨pcF 8 b0, pcF 8 b1, pcF 8 b2, pcF 8 b3, pcF_le _ _, pcF_le _ _, pcF_le _ _, pcF_le _ _, ?_, ?_, ?_, ?_⟩
  · rw [q1, q2, q3]
  · rw [show (32 : Nat) = 8 + 24 from rfl, pcF_split 8 24, show (24 : Nat) = 8 + 16 from rfl, pcF_split 8 16, show (16 : Nat) = 8 + 8 from rfl, pcF_split 8 8]
    rw [show (b0 + 256 * (b1 + 256 * (b2 + 256 * b3))) % 2 ^ 8 = b0 by omega, show (b0 + 256 * (b1 + 256 * (b2 + 256 * b3))) / 2 ^ 8 = b1 + 256 * (b2 + 256 * b3) by omega, show (b1 + 256 * (b2 + 256 * b3)) % 2 ^ 8 = b1 by omega, show (b1 + 256 * (b2 + 256 * b3)) / 2 ^ 8 = b2 + 256 * b3 by omega, show (b2 + 256 * b3) % 2 ^ 8 = b2 by omega, show (b2 + 256 * b3) / 2 ^ 8 = b3 by omega]
    omega
  · rw [q1]
    omega
  · rw [q1, q2]
    omega
theorem sh_u {n k : Nat} (hn : n < 2 ^ 32) (hk : k < 32) : lf_ushr (nI n) (nI k) = nI (n / 2 ^ k) := pk_ushrN hn (nI k) k (s_u k hk)
/-- Integer.bitCount -/
theorem c_bits {N n : Nat} {w : lf_W} (hn : n < 2 ^ 32) : f291 N (nI n) w = some (.inl (some (.int (nI (pcF 32 n)))), w) := by
  obtain ⟨p0, p1, p2, p3, h0, h1, h2, h3, e1, e2, e3, e4⟩ := w_all hn
  have u1 : ∀ m, m < 2 ^ 32 → lf_ushr (nI m) 1 = nI (m / 2) := fun m hm => by
    have h := sh_u (k := 1) hm (by omega)
    rwa [Nat.pow_one] at h
  have u2 : ∀ m, m < 2 ^ 32 → lf_ushr (nI m) 2 = nI (m / 4) := fun m hm => sh_u (k := 2) hm (by omega)
  have u4 : ∀ m, m < 2 ^ 32 → lf_ushr (nI m) 4 = nI (m / 16) := fun m hm => sh_u (k := 4) hm (by omega)
  have u8 : ∀ m, m < 2 ^ 32 → lf_ushr (nI m) 8 = nI (m / 256) := fun m hm => sh_u (k := 8) hm (by omega)
  have u16 : ∀ m, m < 2 ^ 32 → lf_ushr (nI m) 16 = nI (m / 65536) := fun m hm => sh_u (k := 16) hm (by omega)
  have s1 : nI n - (lf_ushr (nI n) 1 &&& 1431655765) = nI (w1 1431655765 n) := by
    unfold w1
    rw [u1 n hn, fa_lit 1431655765, nx_and, pk_sub (Nat.le_trans Nat.and_le_left (Nat.div_le_self _ _))]
  have s2 : (nI (w1 1431655765 n) &&& 858993459) + (lf_ushr (nI (w1 1431655765 n)) 2 &&& 858993459) = nI (w2 858993459 (w1 1431655765 n)) := by
    rw [u2 _ e3, fa_lit 858993459, nx_and, nx_and, nI_add, w2]
  have s3 : (nI (w2 858993459 (w1 1431655765 n)) + lf_ushr (nI (w2 858993459 (w1 1431655765 n))) 4) &&& 252645135 = nI (w3 252645135 (w2 858993459 (w1 1431655765 n))) := by
    rw [u4 _ (by omega), fa_lit 252645135, nI_add, nx_and, w3]
  have e5 : (p0 + 256 * (p1 + 256 * (p2 + 256 * p3)) + (p0 + 256 * (p1 + 256 * (p2 + 256 * p3))) / 256 + (p0 + 256 * (p1 + 256 * (p2 + 256 * p3)) + (p0 + 256 * (p1 + 256 * (p2 + 256 * p3))) / 256) / 65536) % 2 ^ 6 = p0 + p1 + p2 + p3 := by
    have g1 : (p0 + 256 * (p1 + 256 * (p2 + 256 * p3))) / 256 = p1 + 256 * (p2 + 256 * p3) := by omega
    rw [g1]
    have g2 : (p0 + 256 * (p1 + 256 * (p2 + 256 * p3)) + (p1 + 256 * (p2 + 256 * p3))) / 65536 = p2 + p3 + 256 * p3 := by omega
    rw [g2]
    omega
  unfold f291
  rw [s1, s2, s3, e1, u8 _ (by omega), nI_add, u16 _ (by omega), nI_add, fa_lit 63, show (63 : Nat) = 2 ^ 6 - 1 from rfl, fa_mask, e2, e5]
/-- the lowest bit taken away -/
theorem an_even (m : Nat) (h : 0 < m) : (2 * m) &&& (2 * m - 1) = 2 * (m &&& (m - 1)) := by
  have e1 : ((2 * m) &&& (2 * m - 1)) % 2 ^ 1 = 0 := by
    rw [Nat.and_mod_two_pow, show (2 * m) % 2 ^ 1 = 0 by omega, Nat.zero_and]
  have e2 : ((2 * m) &&& (2 * m - 1)) / 2 ^ 1 = m &&& (m - 1) := by
    rw [Nat.and_div_two_pow, show (2 * m) / 2 ^ 1 = m by omega, show (2 * m - 1) / 2 ^ 1 = m - 1 by omega]
  omega
theorem an_odd (m : Nat) : (2 * m + 1) &&& (2 * m) = 2 * m := by
  have e1 : ((2 * m + 1) &&& (2 * m)) % 2 ^ 1 = 0 := by
    rw [Nat.and_mod_two_pow, show (2 * m) % 2 ^ 1 = 0 by omega, Nat.and_zero]
  have e2 : ((2 * m + 1) &&& (2 * m)) / 2 ^ 1 = m := by
    rw [Nat.and_div_two_pow, show (2 * m + 1) / 2 ^ 1 = m by omega, show (2 * m) / 2 ^ 1 = m by omega, Nat.and_self]
  omega
theorem pcF_low : ∀ (k n : Nat), 0 < n → n < 2 ^ k → pcF k (n &&& (n - 1)) + 1 = pcF k n
  | 0, n, h, h2 => by
    rw [Nat.pow_zero] at h2
    omega
  | k + 1, n, h, h2 => by
    rcases Nat.mod_two_eq_zero_or_one n with e | e
    · obtain ⟨m, rfl⟩ : ∃ m, n = 2 * m := ⟨n / 2, by omega⟩
      rw [an_even m (by omega)]
      have ih := pcF_low k m (by omega) (by rw [Nat.pow_succ] at h2; omega)
      show (2 * (m &&& (m - 1))) % 2 + pcF k (2 * (m &&& (m - 1)) / 2) + 1 = (2 * m) % 2 + pcF k (2 * m / 2)
      rw [show 2 * (m &&& (m - 1)) / 2 = m &&& (m - 1) by omega, show 2 * m / 2 = m by omega]
      omega
    · obtain ⟨m, rfl⟩ : ∃ m, n = 2 * m + 1 := ⟨n / 2, by omega⟩
      rw [show 2 * m + 1 - 1 = 2 * m by omega, an_odd m]
      show (2 * m) % 2 + pcF k (2 * m / 2) + 1 = (2 * m + 1) % 2 + pcF k ((2 * m + 1) / 2)
      rw [show 2 * m / 2 = m by omega, show (2 * m + 1) / 2 = m by omega]
      omega
/-- the model's bits -/
theorem m_bits_loop {N : Nat} {w : lf_W} : ∀ (q acc n f : Nat), n < 2 ^ 32 → pcF 32 n = q → q < f → g185_4 N f (nI acc) (nI n) w = some (.inl (some (.int (nI (acc + q)))), w) := by
  intro q
  induction q with
  | zero =>
    intro acc n f hn hq hf
    obtain ⟨f, rfl⟩ : ∃ u, f = u + 1 := ⟨f - 1, by omega⟩
    have h0 : n = 0 := by
      rcases Nat.eq_zero_or_pos n with h | h
      · exact h
      · have := pcF_low 32 n h hn
        omega
    subst h0
    unfold g185_4
    rw [if_pos (show nI 0 = 0 from rfl)]
    rfl
  | succ q ih =>
    intro acc n f hn hq hf
    obtain ⟨f, rfl⟩ : ∃ u, f = u + 1 := ⟨f - 1, by omega⟩
    have h0 : 0 < n := by
      rcases Nat.eq_zero_or_pos n with h | h
      · subst h
        exact absurd (show pcF 32 0 = q + 1 from hq) (by
          rw [show pcF 32 0 = 0 from rfl]
          omega)
      · exact h
    have h1 := pcF_low 32 n h0 hn
    unfold g185_4
    rw [if_neg (fun e => ?_), show nI n - 1 = nI (n - 1) from pk_sub (b := 1) h0, nx_and, nI_1]
    · have e := ih (acc + 1) (n &&& (n - 1)) f (Nat.lt_of_le_of_lt Nat.and_le_left hn) (by omega) (by omega)
      rw [show acc + 1 + q = acc + (q + 1) by omega] at e
      exact e
    · have e2 : (nI n).toBitVec.toNat = 0 := by rw [e]; rfl
      rw [pk_tn hn] at e2
      omega
theorem m_bits {N n : Nat} {w : lf_W} (hn : n < 2 ^ 32) (hN : iv_N N) : f185 N (nI n) w = some (.inl (some (.int (nI (pcF 32 n)))), w) := by
  unfold f185
  have e := m_bits_loop (N := N) (w := w) (pcF 32 n) 0 n N hn rfl (by have := pcF_le 32 n; unfold iv_N at hN; omega)
  rw [Nat.zero_add] at e
  exact e
/-- both count alike -/
theorem bits_both {N : Nat} (hN : iv_N N) (x : Int32) : ∃ p : Nat, p ≤ 32 ∧ ∀ w : lf_W, f291 N x w = some (.inl (some (.int (nI p))), w) ∧ f185 N x w = some (.inl (some (.int (nI p))), w) := by
  obtain ⟨n, hn, rfl⟩ := wb_of32 x
  exact ⟨pcF 32 n, pcF_le _ _, fun w => ⟨c_bits hn, m_bits hn hN⟩⟩
theorem c_pc {N : Nat} {x : Int32} {w : lf_W} : f291 N x w = some (.inl (some (.int (nI (i_pc x)))), w) := by
  obtain ⟨n, hn, rfl⟩ := wb_of32 x
  unfold i_pc
  rw [pk_tn hn]
  exact c_bits hn
theorem m_pc {N : Nat} {x : Int32} {w : lf_W} (hN : iv_N N) : f185 N x w = some (.inl (some (.int (nI (i_pc x)))), w) := by
  obtain ⟨n, hn, rfl⟩ := wb_of32 x
  unfold i_pc
  rw [pk_tn hn]
  exact m_bits hn hN
