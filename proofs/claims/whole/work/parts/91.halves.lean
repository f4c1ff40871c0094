/-! halves -/
def hvG (f : Nat → Int32) (X : Int32) (a : Nat) : Nat := i_pc (f a &&& (X ^^^ (-1)))
def hB (f : Nat → Int32) (n : Nat) : Nat → Nat → Nat → Nat
  | 0, _, b => b
  | m + 1, x, b => hB f n m (x + 1) (if i_pc (nI x) = n / 2 then (if b ≤ lsum (hvG f (nI x)) (bl (nI x)) then b else lsum (hvG f (nI x)) (bl (nI x))) else b)
theorem lsum_le {F : Nat → Nat} {c : Nat} : ∀ (l : List Nat), (∀ a, a ∈ l → F a ≤ c) → lsum F l ≤ c * l.length
  | [], _ => Nat.zero_le _
  | a :: l, h => by
    have h1 := h a List.mem_cons_self
    have h2 := lsum_le l (fun b hb => h b (List.mem_cons_of_mem _ hb))
    show F a + lsum F l ≤ c * (l.length + 1)
    rw [Nat.mul_add, Nat.mul_one]
    omega
theorem nI_bits {x n : Nat} (hn : n ≤ 24) (hx : x < 2 ^ n) {i : Nat} (h : bt (nI x) i = true) : i < n := by
  have h32 : x < 2 ^ 32 := Nat.lt_of_lt_of_le hx (Nat.pow_le_pow_right (by omega) (by omega))
  rw [bt_nI h32] at h
  apply Nat.lt_of_not_le
  intro q
  rw [Nat.testBit_lt_two_pow (Nat.lt_of_lt_of_le hx (Nat.pow_le_pow_right (by omega) q))] at h
  cases h
theorem hv_max {f : Nat → Int32} {n d x : Nat} (hg : GW n d f) (h14 : n ≤ 14) (hx : x < 2 ^ n) (hh : i_pc (nI x) = n / 2) : lsum (hvG f (nI x)) (bl (nI x)) ≤ 56 := by
  have h1 := lsum_le (F := hvG f (nI x)) (c := 8) (bl (nI x)) (fun a ha => by
    have ha2 := nI_bits (by omega) hx (bl_mem.mp ha)
    have h2 := hg.2.2.2.2.2 a (by omega)
    have h3 : hvG f (nI x) a ≤ i_pc (f a) := i_pc_le (fun i q => (b_and_iff.mp q).1)
    have := hg.2.2.2.1
    omega)
  rw [bl_len, hh] at h1
  omega
theorem hB_start {f : Nat → Int32} {n d : Nat} (hg : GW n d f) (h14 : n ≤ 14) : ∀ (m x : Nat), x + m = 2 ^ n → (∃ y, x ≤ y ∧ y < 2 ^ n ∧ i_pc (nI y) = n / 2) → hB f n m x 96 = hB f n m x 99
  | 0, x, hx, h => by
    obtain ⟨y, h1, h2, -⟩ := h
    omega
  | m + 1, x, hx, h => by
    show hB f n m (x + 1) _ = hB f n m (x + 1) _
    by_cases c : i_pc (nI x) = n / 2
    · have := hv_max hg h14 (x := x) (by omega) c
      rw [if_pos c, if_pos c, if_neg (by omega), if_neg (by omega)]
    · rw [if_neg c, if_neg c]
      obtain ⟨y, h1, h2, h3⟩ := h
      refine hB_start hg h14 m (x + 1) (by omega) ⟨y, ?_, h2, h3⟩
      by_cases e : y = x
      · exact absurd (by rw [← e]; exact h3) c
      · omega
section HV
variable {σ : hp_S} {cs : Nat × Nat} {N s n : Nat} {f : Nat → Int32}
theorem c_hv (hs : s < 8) (ef : ∀ k, k < 24 → σ.1 (3 + 2 * s) k = f k) {k12 : Nat → Int32 → Int32 → Int32 → lf_W → lf_R} {x1 x2 X : Int32} : ∀ (m u acc : Nat) (x : Int32), (bl x).length = m → m < u → (∀ i, bt x i = true → i < 24) → g37_34 N k12 u (2 + 2 * s) x1 x2 X (nI acc) x (hp σ, cs) = k12 (2 + 2 * s) x1 (lf_min x2 (nI (acc + lsum (hvG f X) (bl x)))) (X + 1) (hp σ, cs) := by
  intro m
  induction m with
  | zero =>
    intro u acc x hm hu hx
    obtain ⟨u, rfl⟩ : ∃ q, u = q + 1 := ⟨u - 1, by omega⟩
    have hx0 : x = 0 := by
      apply Classical.byContradiction
      intro q
      obtain ⟨l, -, -, -, e, -⟩ := bl_low q
      rw [e, List.length_cons] at hm
      omega
    subst hx0
    unfold g37_34 g37_80
    rw [if_pos rfl, bl_0]
    rfl
  | succ m ih =>
    intro u acc x hm hu hx
    obtain ⟨u, rfl⟩ : ∃ q, u = q + 1 := ⟨u - 1, by omega⟩
    have hx0 : ¬ x = 0 := by
      intro q
      rw [q, bl_0] at hm
      exact absurd hm (by simp)
    obtain ⟨l, l1, l2, l3, e, el⟩ := bl_low hx0
    have hl := hx l l2
    unfold g37_34
    rw [if_neg hx0, sN_r hs, (el N _).1, lf_nest_r, lf_ci_r, sN_ri hs hl, ef l hl, c_pc, lf_ci_r, nI_add, ih u _ _ (by rw [e, List.length_cons] at hm; omega) (by omega) (fun i q => hx i (by rw [l3, Bool.and_eq_true] at q; exact q.1)), e]
    show _ = k12 (2 + 2 * s) x1 (lf_min x2 (nI (acc + (hvG f X l + lsum (hvG f X) (bl (x &&& (x - 1))))))) (X + 1) (hp σ, cs)
    rw [← Nat.add_assoc]
    rfl
theorem al_nI (hn : n ≤ 24) : al n = nI (2 ^ n - 1) := by
  unfold al
  rw [shl_nI (by omega)]
  exact pk_sub (b := 1) Nat.one_le_two_pow
theorem c_hB (hs : s < 8) (hn : n ≤ 14) (hN : iv_N N) (e : σ.2.2.1 (2 + 2 * s) 1 = nI n) (ef : ∀ k, k < 24 → σ.1 (3 + 2 * s) k = f k) : ∀ (m x u b : Nat), x + m = 2 ^ n → m < u → b ≤ 99 → g37_12 N u (2 + 2 * s) (nI (n / 2)) (nI b) (nI x) (hp σ, cs) = some (.inl (some (.int (nI (hB f n m x b)))), (hp σ, cs)) := by
  have hp14 : 2 ^ n ≤ 2 ^ 14 := Nat.pow_le_pow_right (by omega) hn
  intro m
  induction m with
  | zero =>
    intro x u b hx hu hb
    obtain ⟨u, rfl⟩ : ∃ q, u = q + 1 := ⟨u - 1, by omega⟩
    unfold g37_12
    rw [sN_o hs, c_all hs e, lf_ci_r, al_nI (by omega), if_pos (nI_lt (by have := Nat.two_pow_pos n; omega) (by omega))]
    rfl
  | succ m ih =>
    intro x u b hx hu hb
    obtain ⟨u, rfl⟩ : ∃ q, u = q + 1 := ⟨u - 1, by omega⟩
    rw [g37_12]
    unfold g37_80
    rw [sN_o hs, c_all hs e, lf_ci_r, al_nI (by omega), if_neg (nI_nlt (by omega) (by omega)), c_pc, lf_ci_r]
    have hpc : i_pc (nI x) ≤ 24 := i_pc_max (by omega) (fun i q => by have := nI_bits (n := n) (by omega) (by omega) q; omega)
    show _ = some (Sum.inl (some (Value.int (nI (hB f n m (x + 1) (if i_pc (nI x) = n / 2 then (if b ≤ lsum (hvG f (nI x)) (bl (nI x)) then b else lsum (hvG f (nI x)) (bl (nI x))) else b))))), _)
    by_cases c : i_pc (nI x) = n / 2
    · rw [if_pos c, if_neg (fun q => q (by rw [c]))]
      rw [show (0 : Int32) = nI 0 from rfl, c_hv hs ef _ N 0 _ rfl (by have := bl_le (nI x); unfold iv_N at hN; omega) (fun i q => by have := nI_bits (n := n) (by omega) (by omega) q; omega), Nat.zero_add, nI_1]
      have hl : lsum (hvG f (nI x)) (bl (nI x)) ≤ 32 * 32 := by
        have h1 := lsum_le (F := hvG f (nI x)) (c := 32) (bl (nI x)) (fun a _ => i_pc_max (by omega) (fun i q => bt_lt q))
        have h2 := bl_le (nI x)
        omega
      have em : lf_min (nI b) (nI (lsum (hvG f (nI x)) (bl (nI x)))) = nI (if b ≤ lsum (hvG f (nI x)) (bl (nI x)) then b else lsum (hvG f (nI x)) (bl (nI x))) := by
        unfold lf_min
        by_cases g : b ≤ lsum (hvG f (nI x)) (bl (nI x))
        · rw [if_pos g, if_neg (nI_nlt g (by omega))]
        · rw [if_neg g, if_pos (nI_lt (by omega) (by omega))]
      rw [em]
      exact ih (x + 1) u _ (by omega) (by omega) (by split <;> omega)
    · rw [if_neg c, if_pos (by rw [q_eq (by omega) (by omega)]; exact c), nI_1]
      exact ih (x + 1) u b (by omega) (by omega) hb
theorem m_hv (hn : n ≤ 24) (hN : iv_N N) (e : σ.2.2.1 72 4 = nI n) (ef : ∀ k, k < 24 → σ.1 76 k = f k) {k26 : Nat → Int32 → Int32 → lf_W → lf_R} {X : Int32} {b : Nat} : ∀ (m k u acc : Nat), k + m = n → m < u → acc + 32 * m ≤ 32 * 32 → b ≤ 99 → g260_58 N k26 u 72 (nI b) X (nI acc) (nI k) (hp σ, cs) = k26 72 (nI (if b ≤ acc + lsum (hvG f X) ((List.range' k m).filter (fun i => bt X i)) then b else acc + lsum (hvG f X) ((List.range' k m).filter (fun i => bt X i)))) (X + 1) (hp σ, cs) := by
  intro m
  induction m with
  | zero =>
    intro k u acc hk hu hacc hb
    obtain ⟨u, rfl⟩ : ∃ q, u = q + 1 := ⟨u - 1, by omega⟩
    unfold g260_58 g260_114 g260_115
    rw [i72_4, e, if_pos (nI_le (by omega) (by omega)), List.range'_zero, List.filter_nil]
    show _ = k26 72 (nI (if b ≤ acc + 0 then b else acc + 0)) (X + 1) (hp σ, cs)
    rw [Nat.add_zero]
    by_cases g : b ≤ acc
    · rw [if_pos (nI_le g (by omega)), if_pos g]
    · rw [if_neg (nI_ge (by omega) (by omega)), if_neg g]
  | succ m ih =>
    intro k u acc hk hu hacc hb
    obtain ⟨u, rfl⟩ : ∃ q, u = q + 1 := ⟨u - 1, by omega⟩
    rw [g260_58]
    unfold g260_96
    rw [i72_4, e, if_neg (nI_ge (by omega) (by omega)), sh_bit (by omega), List.range'_succ]
    by_cases c : bt X k = true
    · have hle : hvG f X k ≤ 32 := i_pc_max (by omega) (fun i q => bt_lt q)
      rw [List.filter_cons_of_pos (p := fun i => bt X i) c, if_pos c, if_neg (fun q => q rfl), r72_6, a76 (by omega), ef k (by omega), m_pc hN, lf_ci_r, nI_add, nI_1]
      have := ih (k + 1) u (acc + hvG f X k) (by omega) (by omega) (by omega) hb
      rw [show lsum (hvG f X) (k :: (List.range' (k + 1) m).filter (fun i => bt X i)) = hvG f X k + lsum (hvG f X) ((List.range' (k + 1) m).filter (fun i => bt X i)) from rfl, ← Nat.add_assoc]
      exact this
    · rw [List.filter_cons_of_neg (p := fun i => bt X i) c, if_neg c, if_pos (by decide), nI_1]
      exact ih (k + 1) u acc (by omega) (by omega) (by omega) hb
theorem m_hB (hn : n ≤ 14) (hN : iv_N N) (e : σ.2.2.1 72 4 = nI n) (ef : ∀ k, k < 24 → σ.1 76 k = f k) : ∀ (m x u b : Nat), x + m = 2 ^ n → m < u → b ≤ 99 → g260_26 N u 72 (nI b) (nI x) (hp σ, cs) = some (.inl (some (.int (nI (hB f n m x b)))), (hp σ, cs)) := by
  have hp14 : 2 ^ n ≤ 2 ^ 14 := Nat.pow_le_pow_right (by omega) hn
  intro m
  induction m with
  | zero =>
    intro x u b hx hu hb
    obtain ⟨u, rfl⟩ : ∃ q, u = q + 1 := ⟨u - 1, by omega⟩
    unfold g260_26
    rw [i72_4, e, shl_nI (by omega), if_pos (nI_le (by omega) (by omega))]
    rfl
  | succ m ih =>
    intro x u b hx hu hb
    obtain ⟨u, rfl⟩ : ∃ q, u = q + 1 := ⟨u - 1, by omega⟩
    rw [g260_26]
    unfold g260_115
    have hpc : i_pc (nI x) ≤ 24 := i_pc_max (by omega) (fun i q => by have := nI_bits (n := n) (by omega) (by omega) q; omega)
    rw [i72_4, e, shl_nI (by omega), if_neg (nI_ge (by omega) (by omega)), m_pc hN, lf_ci_r, i72_4, e, show (2 : Int32) = nI 2 from rfl, pk_div (by omega) (by omega) (by omega)]
    show _ = some (Sum.inl (some (Value.int (nI (hB f n m (x + 1) (if i_pc (nI x) = n / 2 then (if b ≤ lsum (hvG f (nI x)) (bl (nI x)) then b else lsum (hvG f (nI x)) (bl (nI x))) else b))))), _)
    by_cases c : i_pc (nI x) = n / 2
    · rw [if_pos c, if_pos (by rw [c])]
      have := m_hv (cs := cs) (k26 := g260_26 N u) (X := nI x) (b := b) (by omega) hN e ef n 0 N 0 (by omega) (by unfold iv_N at hN; omega) (by omega) hb
      rw [Nat.zero_add, ← bl_n (x := nI x) (n := n) (by omega) (fun i q => nI_bits (by omega) (by omega) q), nI_1] at this
      rw [show (0 : Int32) = nI 0 from rfl, this]
      exact ih (x + 1) u _ (by omega) (by omega) (by split <;> omega)
    · rw [if_neg c, if_neg (by rw [q_eq (by omega) (by omega)]; exact c), nI_1]
      exact ih (x + 1) u b (by omega) (by omega) hb
end HV
theorem case_halves {J : iv_J} {rd : iv_rd} {N : Nat} (hN : iv_N N) : iv_caseN J rd N g327_2093 := by
  intro sc i σ cs hs hi hI
  have key : ∃ (τ : hp_S) (ds : Nat × Nat), iv J τ ∧ ds.1 ≤ cs.1 + 1 ∧ ds.2 ≤ cs.2 + 6 ∧ ∀ k : lf_W → lf_R, tl_I (tc_I [("java/util/NoSuchElementException", 1)] (f156 N 0 (sc.2 (i + 1)) (hp σ, cs))) (fun w => f260 N 72 (sc.2 (i + 1)) w) k = k (hp τ, ds) := by
    generalize sc.2 (i + 1) = x
    refine askI (x := x) hI hN rfl (fun h => ?_) (fun σ' ds w h => ?_) (fun s n d f hs8 hx hg hv => ?_)
    · unfold f156
      rw [o0, c_held_no h]
      rfl
    · unfold f260
      rw [o72, h, lf_ci_r, if_neg (fun q => q rfl)]
    · subst hx
      have hn1 := hg.1
      have hn := hg.2.1
      have hne : ¬ σ.2.2.1 (2 + 2 * s) 1 = 0 := by rw [hv.1]; exact nI_ne0 (by omega) (by omega)
      by_cases h14 : n ≤ 14
      · have hp14 : 2 ^ n ≤ 2 ^ 14 := Nat.pow_le_pow_right (by omega) h14
        have hmid : 2 ^ (n / 2) ≤ 2 ^ n := Nat.pow_le_pow_right (by omega) (by omega)
        have hst := hB_start hg h14 (2 ^ n) 0 (by omega) ⟨2 ^ (n / 2) - 1, by omega, by have := Nat.two_pow_pos (n / 2); omega, by
          rw [i_pc_nI (by have : 2 ^ 14 < 2 ^ 32 := by decide
                          omega)]
          exact pcF_pow (n / 2) (by omega)⟩
        refine Or.inl ⟨nI (hB f n (2 ^ n) 0 99), σ, iv_kept.rf σ, ?_, fun σ' μ ds hm hl => ⟨μ, iv_kept.rf μ, rfl, hm.2.2.1, ?_⟩⟩
        · unfold f156 f37
          rw [o0, c_held hs8 hne, lf_cr_r, sN_1 hs8, hv.1, if_pos (show nI n ≤ 14 from nI_le (b := 14) h14 (by omega)), sN_1 hs8, hv.1, show (2 : Int32) = nI 2 from rfl, pk_div (by omega) (by omega) (by omega), show (96 : Int32) = nI 96 from rfl, show (0 : Int32) = nI 0 from rfl, c_hB hs8 h14 hN hv.1 hv.2.2 (2 ^ n) 0 N 96 (by omega) (by unfold iv_N at hN; omega) (by omega), lf_ci_r, hst]
        · unfold f260
          rw [o72, hl, lf_ci_r, if_pos (by decide), i72_4, hm.1, if_pos (show nI n ≤ 14 from nI_le (b := 14) h14 (by omega)), show (99 : Int32) = nI 99 from rfl, show (0 : Int32) = nI 0 from rfl, m_hB h14 hN hm.1 hm.2.2.2 (2 ^ n) 0 N 99 (by omega) (by unfold iv_N at hN; omega) (by omega)]
      · refine Or.inl ⟨-1, σ, iv_kept.rf σ, ?_, fun σ' μ ds hm hl => ⟨μ, iv_kept.rf μ, rfl, hm.2.2.1, ?_⟩⟩
        · unfold f156
          rw [o0, c_held hs8 hne, lf_cr_r, sN_1 hs8, hv.1, if_neg (show ¬ nI n ≤ 14 from nI_ge (a := 14) (by omega) (by omega))]
        · unfold f260
          rw [o72, hl, lf_ci_r, if_pos (by decide), i72_4, hm.1, if_neg (show ¬ nI n ≤ 14 from nI_ge (a := 14) (by omega) (by omega))]
  obtain ⟨τ, ds, q1, q2, q3, q4⟩ := key
  refine ⟨τ, ds, q1, q2, q3, fun k23 => ?_⟩
  rw [← q4 (k23 (nI i + 6))]
  unfold g327_2093 h315 f315
  simp only [iv_s1 hs hi, Option.bind_some, if_pos hp_x]
  rfl
