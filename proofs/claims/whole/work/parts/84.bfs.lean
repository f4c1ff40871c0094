/-! going round from a knot, on both sides -/
theorem sm_front (F : Nat → Nat) : ∀ (m : Nat), sm F (m + 1) = F 0 + sm (fun k => F (k + 1)) m
  | 0 => by show 0 + F 0 = F 0 + 0; omega
  | m + 1 => by
    show sm F (m + 1) + F (m + 1) = F 0 + (sm (fun k => F (k + 1)) m + F (m + 1))
    rw [sm_front F m]; omega
theorem nn_of {y : Int32} (h : ¬ y < 0) : ∃ i, i < 2 ^ 31 ∧ y = nI i := by
  have h1 : 0 ≤ y.toInt := by
    rw [fa_lt] at h
    have : (0 : Int32).toInt = 0 := rfl
    omega
  have h2 : y.toInt < 2 ^ 31 := Int32.toInt_lt y
  refine ⟨y.toInt.toNat, by omega, ?_⟩
  rw [fa_eq, nI_toInt (by omega)]
  omega
theorem us_0 {f : Nat → Int32} : us f 0 = 0 := by
  unfold us
  rw [bl_0]
  rfl
theorem bl_n {x : Int32} {n : Nat} (hn : n ≤ 32) (h : ∀ i, bt x i = true → i < n) : bl x = (List.range' 0 n).filter (fun i => bt x i) := by
  unfold bl
  have e2 : List.range' 0 n ++ List.range' (0 + n) (32 - n) = List.range' 0 (n + (32 - n)) := List.range'_append_1
  rw [Nat.zero_add] at e2
  rw [List.range_eq_range', show 32 = n + (32 - n) by omega, ← e2, List.filter_append]
  have z2 : (List.range' n (n + (32 - n) - n)).filter (fun i => bt x i) = [] := by
    rw [List.filter_eq_nil_iff]
    intro i hi
    have := List.mem_range'_1.mp hi
    intro c
    have := h i c
    omega
  rw [show 32 - n = n + (32 - n) - n by omega, z2, List.append_nil]
section BF
variable {f : Nat → Int32} {A : Int32} {v x s t n : Nat} {cs : Nat × Nat} {N : Nat}
theorem rim_still (h : rim f A v s = 0) : ∀ t, s ≤ t → rim f A v t = 0 := by
  intro t ht
  obtain ⟨d, rfl⟩ : ∃ d, t = s + d := ⟨t - s, by omega⟩
  clear ht
  induction d with
  | zero => exact h
  | succ d ih =>
    show us f (rim f A v (s + d)) &&& A &&& _ = 0
    rw [ih, us_0]
    refine b_nothing.mpr (fun i q => ?_)
    rw [b_and_iff, b_and_iff, b_0] at q
    exact absurd q.1.1 (by decide)
theorem rim_in (hA : ∀ i, bt A i = true → i < n) (hv : v < n) (h32 : n ≤ 32) : ∀ t i, bt (rim f A v t) i = true → i < n
  | 0, i, q => by
    have := (b_one (by omega)).mp q
    omega
  | t + 1, i, q => by
    have q2 : bt (us f (rim f A v t) &&& A &&& (bal f A v t ^^^ (-1))) i = true := q
    rw [b_and_iff, b_and_iff] at q2
    exact hA i q2.1.2
theorem rim_24 (hv : v < 24) (hA : ∀ i, bt A i = true → i < 24) : rim f A v 24 = 0 := by
  refine b_nothing.mpr (fun i q => ?_)
  have := (rim_bt (f := f) (A := A) (s := 23) (by omega)).mp q
  rw [bal_end hv hA (by omega)] at this
  exact this.2 this.1
/-- the class's union -/
theorem c_un_loop {σ : hp_S} {r n0 : Nat} (hr : hp_lay[r]? = some (0, n0, [], [])) (h0 : n0 ≤ 24) (ef : ∀ k, k < n0 → σ.1 r k = f k) : ∀ (m u : Nat) (x acc : Int32), (bl x).length = m → m < u → (∀ i, bt x i = true → i < n0) → g172_4 N u r acc x (hp σ, cs) = some (.inl (some (.int (un f (bl x) acc))), (hp σ, cs)) := by
  intro m
  induction m with
  | zero =>
    intro u x acc hm hu _
    obtain ⟨u, rfl⟩ : ∃ q, u = q + 1 := ⟨u - 1, by omega⟩
    have hx : x = 0 := by
      apply Classical.byContradiction
      intro q
      obtain ⟨l, -, -, -, e, -⟩ := bl_low q
      rw [e, List.length_cons] at hm
      omega
    subst hx
    unfold g172_4
    rw [if_pos rfl, bl_0]
    rfl
  | succ m ih =>
    intro u x acc hm hu hb
    obtain ⟨u, rfl⟩ : ∃ q, u = q + 1 := ⟨u - 1, by omega⟩
    have hx : ¬ x = 0 := by
      intro q
      rw [q, bl_0] at hm
      exact absurd hm (by simp)
    obtain ⟨l, -, l2, l3, e, el⟩ := bl_low hx
    have hl := hb l l2
    unfold g172_4
    rw [if_neg hx, (el N _).1, lf_ci_r, hp_ri hr (in_nI hl (by omega)), Option.bind_some, nI_clamp (by omega), ef l hl, e, un_cons]
    refine ih u _ _ (by rw [e, List.length_cons] at hm; omega) (by omega) (fun i q => hb i ?_)
    rw [l3, Bool.and_eq_true] at q
    exact q.1
theorem c_union {σ : hp_S} {r n0 : Nat} (hr : hp_lay[r]? = some (0, n0, [], [])) (h0 : n0 ≤ 24) (ef : ∀ k, k < n0 → σ.1 r k = f k) (hN : iv_N N) {x : Int32} (hx : ∀ i, bt x i = true → i < n0) : f172 N r x (hp σ, cs) = some (.inl (some (.int (us f x))), (hp σ, cs)) := by
  unfold f172 us
  exact c_un_loop hr h0 ef _ N x 0 rfl (by have := bl_le x; unfold iv_N at hN; omega) hx
/-- how far two knots are, by the class -/
theorem c_bw_loop {σ : hp_S} {r b : Nat} (hr : hp_lay[r]? = some (0, 24, [], [])) (ef : ∀ k, k < 24 → σ.1 r k = f k) (hN : iv_N N) (hv : v < 24) (hb : b < 24) (hA : ∀ i, bt A i = true → i < 24) (hf : ∀ j i, j < 24 → bt (f j) i = true → bt A i = true) : ∀ (m t u : Nat), t + m = 24 → m < u → t ≤ gd f A v b → g104_10 N u r (nI b) (bal f A v t) (rim f A v t) (nI t) (hp σ, cs) = some (.inl (some (.int (gdI f A v b))), (hp σ, cs)) := by
  intro m
  induction m with
  | zero =>
    intro t u ht hu hg
    obtain ⟨u, rfl⟩ : ∃ q, u = q + 1 := ⟨u - 1, by omega⟩
    unfold g104_10 gdI
    rw [if_pos (show (24 : Int32) ≤ nI t from nI_le (a := 24) (by omega) (by omega)), if_neg (by omega)]
  | succ m ih =>
    intro t u ht hu hg
    obtain ⟨u, rfl⟩ : ∃ q, u = q + 1 := ⟨u - 1, by omega⟩
    unfold g104_10
    rw [if_neg (show ¬ (24 : Int32) ≤ nI t from nI_ge (b := 24) (by omega) (by omega))]
    by_cases c : rim f A v t = 0
    · rw [if_pos c]
      have : ¬ gd f A v b < 24 := by
        intro q
        have h1 := (gd_eq (by omega) q).mp (rfl : gd f A v b = gd f A v b)
        rw [rim_still c _ hg, b_0] at h1
        cases h1
      unfold gdI
      rw [if_neg this]
    · rw [if_neg c, sh_bit (by omega)]
      by_cases d : bt (rim f A v t) b = true
      · rw [if_pos d, if_neg (by decide)]
        have h1 := (gd_eq (f := f) (A := A) (x := b) (v := v) (s := t) (by omega) (by omega)).mpr d
        unfold gdI
        rw [h1, if_pos (by omega)]
      · rw [if_neg d, if_pos rfl, c_union hr (by omega) ef hN (rim_in hA hv (by omega) t), lf_nest_r, lf_ci_r, nI_1]
        have e1 : us f (rim f A v t) &&& (bal f A v t ^^^ (-1)) = rim f A v (t + 1) := by
          show _ = us f (rim f A v t) &&& A &&& (bal f A v t ^^^ (-1))
          congr 1
          refine b_eq (fun i => ?_)
          rw [b_and_iff, us_bt]
          exact ⟨fun ⟨j, q1, q2⟩ => ⟨⟨j, q1, q2⟩, hf j i (rim_in hA hv (by omega) t j q1) q2⟩, fun q => q.1⟩
        rw [e1, rim_seen (by omega)]
        refine ih (t + 1) u (by omega) (by omega) ?_
        have h2 : ¬ gd f A v b = t := fun q => d ((gd_eq (by omega) (by omega)).mp q)
        omega
theorem c_between {σ : hp_S} {r b : Nat} (hr : hp_lay[r]? = some (0, 24, [], [])) (ef : ∀ k, k < 24 → σ.1 r k = f k) (hN : iv_N N) (hv : v < 24) (hb : b < 24) (hA : ∀ i, bt A i = true → i < 24) (hf : ∀ j i, j < 24 → bt (f j) i = true → bt A i = true) : f104 N r (nI v) (nI b) (hp σ, cs) = some (.inl (some (.int (gdI f A v b))), (hp σ, cs)) := by
  unfold f104
  exact c_bw_loop hr ef hN hv hb hA hf 24 0 N (by omega) (by unfold iv_N at hN; omega) (Nat.zero_le _)
/-- the model: one round -/
theorem m_sp_in {d : Nat} {R A' S : Int32} (hv : v < 24) (hn : n ≤ 24) {k38 : Nat → Int32 → Int32 → Int32 → Int32 → Int32 → lf_W → lf_R} : ∀ (m k u : Nat) (W : Int32) (σ : hp_S), k + m = n → m < u → σ.2.2.1 72 4 = nI n → (∀ j, j < 24 → σ.1 76 j = f j) → ∃ τ, fr [81] [] σ τ ∧ (∀ i, k ≤ i → i < n → bt R i = true → τ.1 81 (24 * v + i) = nI d) ∧ (∀ j, (∀ i, k ≤ i → i < n → bt R i = true → j ≠ 24 * v + i) → τ.1 81 j = σ.1 81 j) ∧ g219_49 N k38 u 72 (nI v) A' S R (nI d) W (nI k) (hp σ, cs) = k38 72 (nI v) A' (S ||| ((un f ((List.range' k m).filter (fun i => bt R i)) W &&& A') &&& (S ^^^ (-1)))) ((un f ((List.range' k m).filter (fun i => bt R i)) W &&& A') &&& (S ^^^ (-1))) (nI (d + 1)) (hp τ, cs) := by
  intro m
  induction m with
  | zero =>
    intro k u W σ hk hu e ef
    obtain ⟨u, rfl⟩ : ∃ q, u = q + 1 := ⟨u - 1, by omega⟩
    refine ⟨σ, fr.rf, fun i q1 q2 => by omega, fun j _ => rfl, ?_⟩
    unfold g219_49
    rw [i72_4, e, if_pos (nI_le (by omega) (by omega)), List.range'_zero, List.filter_nil, nI_1]
    rfl
  | succ m ih =>
    intro k u W σ hk hu e ef
    obtain ⟨u, rfl⟩ : ∃ q, u = q + 1 := ⟨u - 1, by omega⟩
    unfold g219_49 g219_97
    rw [i72_4, e, if_neg (nI_ge (by omega) (by omega)), sh_bit (by omega), List.range'_succ]
    by_cases c : bt R k = true
    · rw [List.filter_cons_of_pos (p := fun i => bt R i) c, if_pos c, if_pos (by decide), r72_23, ix_a, b81 (by omega), r72_6, a76 (by omega), nI_1]
      obtain ⟨τ, q1, q2, q2', q3⟩ := ih (k + 1) u (W ||| f k) (hp_wi σ 81 (24 * v + k) (nI d)) (by omega) (by omega) e (fun j hj => by rw [hp_wi_ne (by decide)]; exact ef j hj)
      refine ⟨τ, (fr.wi (by decide)).tr q1, fun i p1 p2 p3 => ?_, fun j hj => ?_, ?_⟩
      · by_cases c1 : i = k
        · rw [c1, q2' _ (fun i r1 _ _ r4 => by omega), hp_wi_at]
        · exact q2 i (by omega) p2 p3
      · rw [q2' j (fun i r1 r2 r3 => hj i (by omega) r2 r3), hp_wi_nj (hj k (by omega) (by omega) c)]
      · rw [hp_wi_ne (by decide), ef k (by omega), q3, un_cons]
    · rw [List.filter_cons_of_neg (p := fun i => bt R i) c, if_neg c, if_neg (fun q => q rfl), nI_1]
      obtain ⟨τ, q1, q2, q2', q3⟩ := ih (k + 1) u W σ (by omega) (by omega) e ef
      refine ⟨τ, q1, fun i p1 p2 p3 => ?_, fun j hj => ?_, q3⟩
      · by_cases c1 : i = k
        · exact absurd (by rw [← c1]; exact p3) c
        · exact q2 i (by omega) p2 p3
      · exact q2' j (fun i r1 r2 r3 => hj i (by omega) r2 r3)
/-- the model: all rounds -/
theorem m_sp_out (hv : v < n) (hn : n ≤ 24) (hN : iv_N N) (hA : ∀ i, bt A i = true → i < n) : ∀ (m t u : Nat) (σ : hp_S), t + m = 24 → m < u → σ.2.2.1 72 4 = nI n → (∀ j, j < 24 → σ.1 76 j = f j) → (∀ k, k < n → σ.1 81 (24 * v + k) = if gd f A v k < t then nI (gd f A v k) else -1) → ∃ τ, fr [81] [] σ τ ∧ (∀ k, k < n → τ.1 81 (24 * v + k) = gdI f A v k) ∧ (∀ j, (j < 24 * v ∨ 24 * v + n ≤ j) → τ.1 81 j = σ.1 81 j) ∧ g219_38 N u 72 (nI v) A (bal f A v t) (rim f A v t) (nI t) (hp σ, cs) = some (.inl none, (hp τ, cs)) := by
  intro m
  have fin : ∀ (t u : Nat) (σ : hp_S), t ≤ 24 → 0 < u → rim f A v t = 0 → (∀ k, k < n → σ.1 81 (24 * v + k) = if gd f A v k < t then nI (gd f A v k) else -1) → ∃ τ, fr [81] [] σ τ ∧ (∀ k, k < n → τ.1 81 (24 * v + k) = gdI f A v k) ∧ (∀ j, (j < 24 * v ∨ 24 * v + n ≤ j) → τ.1 81 j = σ.1 81 j) ∧ g219_38 N u 72 (nI v) A (bal f A v t) (rim f A v t) (nI t) (hp σ, cs) = some (.inl none, (hp τ, cs)) := by
    intro t u σ ht hu hr hd
    obtain ⟨u, rfl⟩ : ∃ q, u = q + 1 := ⟨u - 1, by omega⟩
    refine ⟨σ, fr.rf, fun k hk => ?_, fun _ _ => rfl, ?_⟩
    · rw [hd k hk]
      unfold gdI
      by_cases c : gd f A v k < t
      · rw [if_pos c, if_pos (by omega)]
      · rw [if_neg c, if_neg]
        intro q
        have h1 := (gd_eq (by omega) q).mp (rfl : gd f A v k = gd f A v k)
        rw [rim_still hr _ (by omega), b_0] at h1
        cases h1
    · unfold g219_38
      rw [if_pos hr]
  induction m with
  | zero =>
    intro t u σ ht hu e ef hd
    refine fin t u σ (by omega) (by omega) ?_ hd
    rw [show t = 24 by omega]
    exact rim_24 (by omega) (fun i q => by have := hA i q; omega)
  | succ m ih =>
    intro t u σ ht hu e ef hd
    by_cases c : rim f A v t = 0
    · exact fin t u σ (by omega) (by omega) c hd
    · obtain ⟨u, rfl⟩ : ∃ q, u = q + 1 := ⟨u - 1, by omega⟩
      have e2 : un f ((List.range' 0 n).filter (fun i => bt (rim f A v t) i)) 0 = us f (rim f A v t) := by
        unfold us
        rw [bl_n (by omega) (rim_in hA hv (by omega) t)]
      obtain ⟨τ, q1, q2, q2', q3⟩ := m_sp_in (N := N) (cs := cs) (f := f) (d := t) (R := rim f A v t) (A' := A) (S := bal f A v t) (k38 := g219_38 N u) (v := v) (by omega) hn n 0 N 0 σ (by omega) (by unfold iv_N at hN; omega) e ef
      have e3 : (us f (rim f A v t) &&& A) &&& (bal f A v t ^^^ (-1)) = rim f A v (t + 1) := rfl
      rw [e2, e3, rim_seen (by omega)] at q3
      obtain ⟨υ, p1, p2, p3, p4⟩ := ih (t + 1) u τ (by omega) (by omega) (by rw [q1.f List.not_mem_nil]; exact e) (fun j hj => by rw [q1.r (by decide)]; exact ef j hj) (fun k hk => by
        by_cases c1 : bt (rim f A v t) k = true
        · have h1 := (gd_eq (f := f) (A := A) (x := k) (v := v) (s := t) (by omega) (by omega)).mpr c1
          rw [q2 k (by omega) hk c1, h1, if_pos (by omega)]
        · rw [q2' _ (fun i _ _ p3 p4 => c1 (by rw [show k = i by omega]; exact p3)), hd k hk]
          have h2 : ¬ gd f A v k = t := fun q => c1 ((gd_eq (by omega) (by omega)).mp q)
          by_cases c2 : gd f A v k < t
          · rw [if_pos c2, if_pos (by omega)]
          · rw [if_neg c2, if_neg (by omega)])
      refine ⟨υ, q1.tr p1, p2, fun j hj => ?_, ?_⟩
      · rw [p3 j hj, q2' j (fun i _ _ _ p4 => by omega)]
      · unfold g219_38
        rw [if_neg c]
        exact q3.trans p4
theorem m_sp_ini (hv : v < n) (hn : n ≤ 24) {A' : Int32} : ∀ (m k u : Nat) (σ : hp_S), k + m = n → m < u → σ.2.2.1 72 4 = nI n → ∃ τ, fr [81] [] σ τ ∧ (∀ j, τ.1 81 j = if 24 * v + k ≤ j ∧ j < 24 * v + n then -1 else σ.1 81 j) ∧ g219_2 N u 72 (nI v) A' (nI k) (hp σ, cs) = g219_38 N N 72 (nI v) A' (lf_shl 1 (nI v)) (lf_shl 1 (nI v)) 0 (hp τ, cs) := by
  intro m
  induction m with
  | zero =>
    intro k u σ hk hu e
    obtain ⟨u, rfl⟩ : ∃ q, u = q + 1 := ⟨u - 1, by omega⟩
    refine ⟨σ, fr.rf, fun j => by rw [if_neg (by omega)], ?_⟩
    unfold g219_2
    rw [i72_4, e, if_pos (nI_le (by omega) (by omega))]
  | succ m ih =>
    intro k u σ hk hu e
    obtain ⟨u, rfl⟩ : ∃ q, u = q + 1 := ⟨u - 1, by omega⟩
    obtain ⟨τ, q1, q2, q3⟩ := ih (k + 1) u (hp_wi σ 81 (24 * v + k) (-1)) (by omega) (by omega) e
    refine ⟨τ, (fr.wi (by decide)).tr q1, fun j => ?_, ?_⟩
    · rw [q2 j]
      by_cases c : j = 24 * v + k
      · rw [c, hp_wi_at, if_neg (by omega), if_pos (by omega)]
      · rw [hp_wi_nj c]
        by_cases c2 : 24 * v + (k + 1) ≤ j ∧ j < 24 * v + n
        · rw [if_pos c2, if_pos (by omega)]
        · rw [if_neg c2, if_neg (by omega)]
    · unfold g219_2
      rw [i72_4, e, if_neg (nI_ge (by omega) (by omega)), r72_23, ix_a, b81 (by omega), nI_1]
      exact q3
/-- spreads -/
theorem m_spreads {σ : hp_S} (hv : v < n) (hn : n ≤ 24) (hN : iv_N N) (hA : ∀ i, bt A i = true → i < n) (e : σ.2.2.1 72 4 = nI n) (ef : ∀ j, j < 24 → σ.1 76 j = f j) : ∃ τ, fr [81] [] σ τ ∧ (∀ k, k < n → τ.1 81 (24 * v + k) = gdI f A v k) ∧ (∀ j, (j < 24 * v ∨ 24 * v + n ≤ j) → τ.1 81 j = σ.1 81 j) ∧ f219 N 72 (nI v) A (hp σ, cs) = some (.inl none, (hp τ, cs)) := by
  obtain ⟨τ, q1, q2, q3⟩ := m_sp_ini (N := N) (cs := cs) (A' := A) hv hn n 0 N σ (by omega) (by unfold iv_N at hN; omega) e
  obtain ⟨υ, p1, p2, p3, p4⟩ := m_sp_out (N := N) (cs := cs) (f := f) (A := A) hv hn hN hA 24 0 N τ (by omega) (by unfold iv_N at hN; omega) (by rw [q1.f List.not_mem_nil]; exact e) (fun j hj => by rw [q1.r (by decide)]; exact ef j hj) (fun k hk => by rw [q2, if_pos (by omega), if_neg (Nat.not_lt_zero _)])
  refine ⟨υ, q1.tr p1, p2, fun j hj => ?_, ?_⟩
  · rw [p3 j hj, q2, if_neg (by omega)]
  · unfold f219
    exact q3.trans p4
/-- all -/
theorem al_bt {i : Nat} (hn : n ≤ 31) : bt (lf_shl 1 (nI n) - 1) i = true ↔ i < n := by
  rw [shl_nI (by omega), show nI (2 ^ n) - 1 = nI (2 ^ n - 1) from pk_sub (b := 1) Nat.one_le_two_pow, bt_nI (Nat.lt_of_lt_of_le (Nat.sub_lt (Nat.two_pow_pos n) (by omega)) (Nat.pow_le_pow_right (by omega) (by omega))), Nat.testBit_two_pow_sub_one, decide_eq_true_iff]
theorem m_all {σ : hp_S} (e : σ.2.2.1 72 4 = nI n) : f220 N 72 (hp σ, cs) = some (.inl (some (.int (lf_shl 1 (nI n) - 1))), (hp σ, cs)) := by
  unfold f220
  rw [i72_4, e]
end BF
