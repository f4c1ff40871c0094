/-! the numbers in a set given as bits, in order -/
def bl (x : Int32) : List Nat := (List.range 32).filter (fun i => bt x i)
theorem bt_lt {x : Int32} {i : Nat} (h : bt x i = true) : i < 32 := Nat.lt_of_not_le (fun q => by rw [b_big q] at h; cases h)
theorem bl_mem {x : Int32} {i : Nat} : i ∈ bl x ↔ bt x i = true := by
  unfold bl
  rw [List.mem_filter, List.mem_range]
  exact ⟨fun h => h.2, fun h => ⟨bt_lt h, h⟩⟩
theorem bl_0 : bl 0 = [] := by decide +kernel
theorem lo_clr {n l : Nat} (h1 : n.testBit l = true) (h2 : ∀ i, i < l → n.testBit i = false) (i : Nat) : (n &&& (n - 1)).testBit i = (n.testBit i && decide (i ≠ l)) := by
  have e0 : n % 2 ^ l = 0 := by
    apply Nat.eq_of_testBit_eq
    intro j
    rw [Nat.testBit_mod_two_pow, Nat.zero_testBit]
    by_cases hj : j < l
    · rw [h2 j hj, Bool.and_false]
    · rw [decide_eq_false hj, Bool.false_and]
  have e1 : (n / 2 ^ l) % 2 = 1 := by
    rw [Nat.testBit_eq_decide_div_mod_eq] at h1
    exact of_decide_eq_true h1
  have e3 : 2 ^ l * (n / 2 ^ l) = n := by
    have := Nat.div_add_mod n (2 ^ l)
    omega
  obtain ⟨m, hm⟩ : ∃ m, n / 2 ^ l = 2 * m + 1 := ⟨n / 2 ^ l / 2, by omega⟩
  have hp : 1 ≤ 2 ^ l := Nat.one_le_two_pow
  have e4 : n = 2 ^ l * (2 * m + 1) + 0 := by rw [← hm]; omega
  have e5 : n - 1 = 2 ^ l * (2 * m) + (2 ^ l - 1) := by
    rw [e4, Nat.mul_add, Nat.mul_one]
    omega
  rw [Nat.testBit_and, e5, Nat.testBit_two_pow_mul_add _ (by omega), Nat.testBit_two_pow_sub_one]
  by_cases c : i < l
  · rw [if_pos c, h2 i c, Bool.false_and, Bool.false_and]
  · rw [if_neg c]
    by_cases c2 : i = l
    · subst c2
      rw [show i - i = 0 by omega, Nat.testBit_zero, show 2 * m % 2 = 0 by omega]
      simp
    · rw [e4, Nat.testBit_two_pow_mul_add _ (by omega), if_neg c]
      obtain ⟨j, hj⟩ : ∃ j, i - l = j + 1 := ⟨i - l - 1, by omega⟩
      rw [hj, Nat.testBit_succ, Nat.testBit_succ, show (2 * m + 1) / 2 = m by omega, show 2 * m / 2 = m by omega]
      simp [c2]
theorem filter_first {p q : Nat → Bool} {l : Nat} (n : Nat) (hn : l < n) (h1 : p l = true) (h2 : ∀ i, i < l → p i = false) (h3 : ∀ i, i < n → q i = (p i && decide (i ≠ l))) : (List.range n).filter p = l :: (List.range n).filter q := by
  have e : ∀ m, l + 1 + m ≤ n → (List.range (l + 1 + m)).filter p = l :: (List.range (l + 1 + m)).filter q := by
    intro m
    induction m with
    | zero =>
      intro _
      have ep : (List.range l).filter p = [] := by
        rw [List.filter_eq_nil_iff]
        intro a ha
        rw [h2 a (List.mem_range.mp ha)]
        decide
      have eq : (List.range l).filter q = [] := by
        rw [List.filter_eq_nil_iff]
        intro a ha
        rw [h3 a (by have := List.mem_range.mp ha; omega), h2 a (List.mem_range.mp ha)]
        simp
      rw [Nat.add_zero, List.range_succ, List.filter_append, List.filter_append, ep, eq]
      have hq : q l = false := by rw [h3 l hn, h1]; simp
      simp [h1, hq]
    | succ m ih =>
      intro hm
      rw [show l + 1 + (m + 1) = (l + 1 + m) + 1 by omega, List.range_succ, List.filter_append, List.filter_append, ih (by omega), List.cons_append]
      have hq : q (l + 1 + m) = p (l + 1 + m) := by
        rw [h3 _ (by omega), decide_eq_true (by omega), Bool.and_true]
      have e2 : [l + 1 + m].filter q = [l + 1 + m].filter p := by
        simp only [List.filter, hq]
      rw [e2]
  have := e (n - (l + 1)) (by omega)
  rw [show l + 1 + (n - (l + 1)) = n by omega] at this
  exact this
/-- a set that isn't empty: its least number, and the others -/
theorem bl_low {x : Int32} (h : ¬ x = 0) : ∃ l, l < 32 ∧ bt x l = true ∧ (∀ i, bt (x &&& (x - 1)) i = (bt x i && decide (i ≠ l))) ∧ bl x = l :: bl (x &&& (x - 1)) ∧ ∀ (N : Nat) (w : lf_W), f171 N x w = some (.inl (some (.int (nI l))), w) ∧ f291 N ((x &&& (-x)) - 1) w = some (.inl (some (.int (nI l))), w) := by
  obtain ⟨l, l1, l2, l3, -⟩ := c_low (N := 0) h
  have hc : ∀ i, bt (x &&& (x - 1)) i = (bt x i && decide (i ≠ l)) := by
    obtain ⟨n, hn, rfl⟩ := wb_of32 x
    have h0 : 1 ≤ n := by
      rcases Nat.eq_zero_or_pos n with e | e
      · subst e
        exact absurd rfl h
      · exact e
    intro i
    have e1 : nI n - 1 = nI (n - 1) := pk_sub (b := 1) h0
    have hlt : n &&& (n - 1) < 2 ^ 32 := Nat.lt_of_le_of_lt Nat.and_le_left hn
    rw [e1, nx_and, bt_nI hlt, bt_nI hn]
    exact lo_clr (by rw [← bt_nI hn]; exact l2) (fun i hi => by rw [← bt_nI hn]; exact l3 i hi) i
  refine ⟨l, l1, l2, hc, filter_first 32 l1 l2 l3 (fun i _ => hc i), fun N w => ?_⟩
  obtain ⟨l', m1, m2, m3, m4⟩ := c_low (N := N) h
  have el : l' = l := by
    rcases Nat.lt_trichotomy l' l with q | q | q
    · rw [l3 l' q] at m2; cases m2
    · exact q
    · rw [m3 l q] at l2; cases l2
  subst el
  refine ⟨m4 w, ?_⟩
  have := m4 w
  unfold f171 at this
  cases e : f291 N ((x &&& (-x)) - 1) w with
  | none => rw [e] at this; cases this
  | some r =>
    rw [e] at this
    obtain ⟨o, w9⟩ := r
    match o, this with
    | .inl (some (.int v)), this =>
      rw [lf_ci_r] at this
      exact this
theorem bl_pc : ∀ (m : Nat) (x : Int32), i_pc x = m → (bl x).length = m := by
  intro m
  induction m with
  | zero =>
    intro x hx
    by_cases h : x = 0
    · rw [h, bl_0]; rfl
    · exfalso
      obtain ⟨n, hn, rfl⟩ := wb_of32 x
      have h0 : 0 < n := by
        rcases Nat.eq_zero_or_pos n with e | e
        · subst e
          exact absurd rfl h
        · exact e
      have := pcF_low 32 n h0 hn
      rw [i_pc_nI hn] at hx
      omega
  | succ m ih =>
    intro x hx
    have h : ¬ x = 0 := by
      intro q
      rw [q, i_pc_0] at hx
      omega
    obtain ⟨l, -, -, -, e, -⟩ := bl_low h
    rw [e, List.length_cons, ih]
    obtain ⟨n, hn, rfl⟩ := wb_of32 x
    have h0 : 0 < n := by
      rcases Nat.eq_zero_or_pos n with e | e
      · subst e
        exact absurd rfl h
      · exact e
    have := pcF_low 32 n h0 hn
    rw [i_pc_nI hn] at hx
    have e1 : nI n - 1 = nI (n - 1) := pk_sub (b := 1) h0
    rw [e1, nx_and, i_pc_nI (Nat.lt_of_le_of_lt Nat.and_le_left hn)]
    omega
theorem bl_len (x : Int32) : (bl x).length = i_pc x := bl_pc _ x rfl
theorem bl_le (x : Int32) : (bl x).length ≤ 32 := by
  unfold bl
  exact Nat.le_trans (List.length_filter_le _ _) (by rw [List.length_range]; omega)
/-! sums -/
def sm (F : Nat → Nat) : Nat → Nat
  | 0 => 0
  | n + 1 => sm F n + F n
theorem sm_congr {F G : Nat → Nat} : ∀ {n : Nat}, (∀ k, k < n → F k = G k) → sm F n = sm G n
  | 0, _ => rfl
  | n + 1, h => by
    unfold sm
    rw [sm_congr (fun k hk => h k (by omega)), h n (by omega)]
theorem sm_le {F G : Nat → Nat} : ∀ {n : Nat}, (∀ k, k < n → F k ≤ G k) → sm F n ≤ sm G n
  | 0, _ => Nat.le_refl _
  | n + 1, h => by
    unfold sm
    exact Nat.add_le_add (sm_le (fun k hk => h k (by omega))) (h n (by omega))
theorem sm_lt {F G : Nat → Nat} : ∀ {n : Nat}, (∀ k, k < n → F k ≤ G k) → (∃ k, k < n ∧ F k < G k) → sm F n < sm G n
  | 0, _, h => by
    obtain ⟨k, hk, _⟩ := h
    omega
  | n + 1, h, h2 => by
    unfold sm
    obtain ⟨k, hk, hl⟩ := h2
    by_cases e : k = n
    · subst e
      exact Nat.add_lt_add_of_le_of_lt (sm_le (fun k hk => h k (by omega))) hl
    · exact Nat.add_lt_add_of_lt_of_le (sm_lt (fun k hk => h k (by omega)) ⟨k, by omega, hl⟩) (h n (by omega))
theorem sm_add {F G : Nat → Nat} : ∀ {n : Nat}, sm (fun k => F k + G k) n = sm F n + sm G n
  | 0 => rfl
  | n + 1 => by
    unfold sm
    rw [sm_add]
    omega
theorem sm_0 : ∀ {n : Nat}, sm (fun _ => 0) n = 0
  | 0 => rfl
  | n + 1 => by
    unfold sm
    rw [sm_0]
theorem sm_c {c : Nat} : ∀ {n : Nat}, sm (fun _ => c) n = n * c
  | 0 => by rw [Nat.zero_mul]; rfl
  | n + 1 => by
    unfold sm
    rw [sm_c, Nat.add_mul, Nat.one_mul]
theorem sm_zero {F : Nat → Nat} : ∀ {n : Nat}, sm F n = 0 → ∀ k, k < n → F k = 0
  | 0, _, k, hk => absurd hk (Nat.not_lt_zero k)
  | n + 1, h, k, hk => by
    unfold sm at h
    by_cases e : k = n
    · subst e
      omega
    · exact sm_zero (n := n) (by omega) k (by omega)
theorem sm_swap {F : Nat → Nat → Nat} {m : Nat} : ∀ {n : Nat}, sm (fun a => sm (fun b => F a b) m) n = sm (fun b => sm (fun a => F a b) n) m
  | 0 => by
    show 0 = sm (fun b => 0) m
    rw [sm_0]
  | n + 1 => by
    show sm (fun a => sm (fun b => F a b) m) n + sm (fun b => F n b) m = sm (fun b => sm (fun a => F a b) n + F n b) m
    rw [sm_swap, sm_add]
theorem sm_more {F : Nat → Nat} {n : Nat} : ∀ {m : Nat}, n ≤ m → (∀ k, n ≤ k → k < m → F k = 0) → sm F m = sm F n
  | 0, h, _ => by rw [Nat.le_zero.mp h]
  | m + 1, h, h2 => by
    by_cases e : n = m + 1
    · rw [e]
    · show sm F m + F m = _
      rw [sm_more (by omega) (fun k q1 q2 => h2 k q1 (by omega)), h2 m (by omega) (by omega)]
      omega
theorem len_sm (p : Nat → Bool) : ∀ n, ((List.range n).filter p).length = sm (fun i => if p i = true then 1 else 0) n
  | 0 => rfl
  | n + 1 => by
    rw [List.range_succ, List.filter_append, List.length_append, len_sm p n]
    show _ = sm (fun i => if p i = true then 1 else 0) n + if p n = true then 1 else 0
    by_cases h : p n = true
    · rw [if_pos h]; simp [h]
    · rw [if_neg h]; simp [h]
theorem i_pc_sm (x : Int32) : i_pc x = sm (fun i => if bt x i = true then 1 else 0) 32 := by
  rw [← bl_len]
  exact len_sm _ 32
theorem i_pc_le {x y : Int32} (h : ∀ i, bt x i = true → bt y i = true) : i_pc x ≤ i_pc y := by
  rw [i_pc_sm, i_pc_sm]
  refine sm_le (fun k _ => ?_)
  by_cases c : bt x k = true
  · rw [if_pos c, if_pos (h k c)]; omega
  · rw [if_neg c]; omega
theorem i_pc_lt {x y : Int32} (h : ∀ i, bt x i = true → bt y i = true) {i : Nat} (h1 : bt x i = false) (h2 : bt y i = true) : i_pc x < i_pc y := by
  rw [i_pc_sm, i_pc_sm]
  refine sm_lt (fun k _ => ?_) ⟨i, bt_lt h2, ?_⟩
  · by_cases c : bt x k = true
    · rw [if_pos c, if_pos (h k c)]; omega
    · rw [if_neg c]; omega
  · rw [if_neg (by rw [h1]; decide), if_pos h2]; omega
theorem i_pc_max {x : Int32} {n : Nat} (hn : n ≤ 32) (h : ∀ i, bt x i = true → i < n) : i_pc x ≤ n := by
  rw [i_pc_sm, sm_more hn (fun k q1 _ => by
    rw [if_neg (fun q => by have := h k q; omega)])]
  have := sm_le (F := fun i => if bt x i = true then 1 else 0) (G := fun _ => 1) (n := n) (fun k _ => by
    by_cases c : bt x k = true
    · rw [if_pos c]; omega
    · rw [if_neg c]; omega)
  rw [sm_c] at this
  omega
