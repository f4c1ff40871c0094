/-! groups -/
def gop (K a b x m : Nat) : Nat := (if K = 1 ∧ a ≤ x then x % a + a - m % a else x % a + m % a) % a + a * ((x / a + m / a) % b)
def ginv (K a b m : Nat) : Nat := if K = 1 ∧ a ≤ m then m else (a - m % a) % a + a * ((b - m / a) % b)
def gok (K a b : Nat) : Prop := 1 ≤ a ∧ 1 ≤ b ∧ a * b ≤ 24 ∧ (K = 0 ∨ (K = 1 ∧ b = 2))
def gchk (K a b : Nat) : Bool := (List.range (a * b)).all fun m => decide (ginv K a b m < a * b) && decide (gop K a b m (ginv K a b m) = 0) && ((List.range (ginv K a b m)).all fun y => decide (gop K a b m y ≠ 0)) && ((List.range (a * b)).all fun x => decide (gop K a b x m < a * b) && decide (gop K a b (gop K a b x m) (ginv K a b m) = x) && (decide (m = 0) || decide (gop K a b x m ≠ x)))
def gall : Bool := (List.range 2).all fun K => (List.range 25).all fun a => (List.range 25).all fun b => !(decide (1 ≤ a) && decide (1 ≤ b) && decide (a * b ≤ 24) && (decide (K = 0) || decide (b = 2))) || gchk K a b
theorem gall_t : gall = true := by decide +kernel
theorem gok_chk {K a b : Nat} (h : gok K a b) : gchk K a b = true := by
  obtain ⟨h1, h2, h3, h4⟩ := h
  have ha : a < 25 := by
    have : a * 1 ≤ a * b := Nat.mul_le_mul_left a h2
    omega
  have hb : b < 25 := by
    have : 1 * b ≤ a * b := Nat.mul_le_mul_right b h1
    omega
  have h := gall_t
  unfold gall at h
  rw [List.all_eq_true] at h
  have h5 := h K (List.mem_range.mpr (by omega))
  rw [List.all_eq_true] at h5
  have h6 := h5 a (List.mem_range.mpr ha)
  rw [List.all_eq_true] at h6
  have h7 := h6 b (List.mem_range.mpr hb)
  rw [decide_eq_true h1, decide_eq_true h2, decide_eq_true h3, show (decide (K = 0) || decide (b = 2)) = true by rcases h4 with h4 | h4; rw [decide_eq_true h4]; rfl; rw [decide_eq_true h4.2, Bool.or_true]] at h7
  simpa using h7
theorem g_inv {K a b m : Nat} (h : gok K a b) (hm : m < a * b) : ginv K a b m < a * b ∧ gop K a b m (ginv K a b m) = 0 ∧ ∀ y, y < ginv K a b m → gop K a b m y ≠ 0 := by
  have h1 := gok_chk h
  unfold gchk at h1
  rw [List.all_eq_true] at h1
  have h2 := h1 m (List.mem_range.mpr hm)
  simp only [Bool.and_eq_true, decide_eq_true_iff, List.all_eq_true, List.mem_range] at h2
  exact ⟨h2.1.1.1, h2.1.1.2, fun y hy => h2.1.2 y hy⟩
theorem g_op {K a b x m : Nat} (h : gok K a b) (hx : x < a * b) (hm : m < a * b) : gop K a b x m < a * b ∧ gop K a b (gop K a b x m) (ginv K a b m) = x ∧ (m ≠ 0 → gop K a b x m ≠ x) := by
  have h1 := gok_chk h
  unfold gchk at h1
  rw [List.all_eq_true] at h1
  have h2 := h1 m (List.mem_range.mpr hm)
  simp only [Bool.and_eq_true, Bool.or_eq_true, decide_eq_true_iff, List.all_eq_true, List.mem_range] at h2
  obtain ⟨⟨q1, q2⟩, q3⟩ := h2.2 x hx
  exact ⟨q1, q2, fun z => q3.resolve_left z⟩
theorem sub_nI {p q : Nat} (h : q ≤ p) : nI p - nI q = nI (p - q) := by
  have e : nI (p - q) + nI q = nI p := by rw [nI_add, show p - q + q = p by omega]
  rw [← e]
  exact Int32.add_sub_cancel _ _
theorem subadd_nI {p q r : Nat} (h : q ≤ p + r) : nI p - nI q + nI r = nI (p + r - q) := by
  rw [← sub_nI h, ← nI_add]
  grind
section TU
variable {cs : Nat × Nat} {N K a b r : Nat} {M : Int32} {σ : hp_S}
def gF3 (σ : hp_S) (K a b : Nat) : Prop := σ.2.2.1 25 0 = nI K ∧ σ.2.2.1 25 1 = nI a ∧ σ.2.2.1 25 2 = nI b
theorem gok_b (h : gok K a b) : a ≤ 24 ∧ b ≤ 24 := by
  obtain ⟨h1, h2, h3, h4⟩ := h
  have h5 : a * 1 ≤ a * b := Nat.mul_le_mul_left a h2
  have h6 : 1 * b ≤ a * b := Nat.mul_le_mul_right b h1
  omega
theorem c_op {x m : Nat} (h : gok K a b) (h3 : gF3 σ K a b) (hx : x < 24) (hm : m < 24) : f40 N 25 (nI x) (nI m) (hp σ, cs) = some (.inl (some (.int (nI (gop K a b x m)))), (hp σ, cs)) := by
  obtain ⟨ha, hb⟩ := gok_b h
  obtain ⟨h1, h2, h4, h5⟩ := h
  obtain ⟨e0, e1, e2⟩ := h3
  have na : ¬ nI a = 0 := nI_ne0 (by omega) (by omega)
  have nb : ¬ nI b = 0 := nI_ne0 (by omega) (by omega)
  have hma : m % a < a := Nat.mod_lt _ (by omega)
  have hxa : x % a < a := Nat.mod_lt _ (by omega)
  have fin : ∀ y, y < 100 → g40_49 N 25 (nI x) (nI m) (nI y) (hp σ, cs) = some (.inl (some (.int (nI (y % a + a * ((x / a + m / a) % b))))), (hp σ, cs)) := by
    intro y hy
    have d1 : x / a ≤ 24 := Nat.le_trans (Nat.div_le_self _ _) (by omega)
    have d2 : m / a ≤ 24 := Nat.le_trans (Nat.div_le_self _ _) (by omega)
    unfold g40_49
    rw [i25_1, e1, if_neg na, i25_1, e1, i25_1, e1, if_neg na, i25_1, e1, if_neg na, i25_2, e2, if_neg nb, rem_nI (by omega) (by omega) (by omega), pk_div (by omega) (by omega) (by omega), pk_div (by omega) (by omega) (by omega), nI_add, rem_nI (by omega) (by omega) (by omega), pk_mul, nI_add]
  unfold f40 gop
  rw [i25_1, e1, if_neg na, i25_1, e1, if_neg na, i25_0, e0, rem_nI (by omega) (by omega) (by omega), rem_nI (by omega) (by omega) (by omega), nI_add]
  by_cases k : K = 1
  · rw [k, if_neg (fun z => z rfl), i25_1, e1]
    by_cases c : x < a
    · rw [if_pos (nI_lt c (by omega)), fin _ (by omega), if_neg (fun z => by omega)]
    · rw [if_neg (nI_nlt (by omega) (by omega)), i25_1, e1, if_neg na, i25_1, e1, if_neg na, i25_1, e1, rem_nI (by omega) (by omega) (by omega), rem_nI (by omega) (by omega) (by omega), subadd_nI (by omega), fin _ (by omega), if_pos ⟨rfl, by omega⟩]
  · rw [if_pos (show ¬ nI K = 1 by rw [show (1 : Int32) = nI 1 from rfl, q_eq (by omega) (by omega)]; exact k), fin _ (by omega), if_neg (fun z => k z.1)]
theorem c_ginv {m : Nat} (h : gok K a b) (h3 : gF3 σ K a b) (hm : m < a * b) : f41 N 25 (nI m) (hp σ, cs) = some (.inl (some (.int (nI (ginv K a b m)))), (hp σ, cs)) := by
  obtain ⟨ha, hb⟩ := gok_b h
  obtain ⟨h1, h2, h4, h5⟩ := h
  obtain ⟨e0, e1, e2⟩ := h3
  have na : ¬ nI a = 0 := nI_ne0 (by omega) (by omega)
  have nb : ¬ nI b = 0 := nI_ne0 (by omega) (by omega)
  have hma : m % a < a := Nat.mod_lt _ (by omega)
  have hmb : m / a < b := Nat.div_lt_of_lt_mul hm
  have hd0 : b - m / a ≤ 24 := Nat.le_trans (Nat.sub_le _ _) hb
  have hd1 : a - m % a ≤ 24 := Nat.le_trans (Nat.sub_le _ _) ha
  have fin : g41_18 N 25 (nI m) (hp σ, cs) = some (.inl (some (.int (nI ((a - m % a) % a + a * ((b - m / a) % b))))), (hp σ, cs)) := by
    unfold g41_18
    rw [i25_1, e1, i25_1, e1, if_neg na, i25_1, e1, if_neg na, i25_1, e1, i25_2, e2, i25_1, e1, if_neg na, i25_2, e2, if_neg nb, rem_nI (by omega) (by omega) (by omega), pk_div (by omega) (by omega) (by omega), sub_nI (by omega), sub_nI (by omega), rem_nI (by omega) (by omega) (by omega), rem_nI (by omega) (by omega) (by omega), pk_mul, nI_add]
  unfold f41 ginv
  rw [i25_0, e0]
  by_cases k : K = 1
  · rw [k, if_neg (fun z => z rfl), i25_1, e1]
    by_cases c : m < a
    · rw [if_pos (nI_lt c (by omega)), fin, if_neg (fun z => by omega)]
    · rw [if_neg (nI_nlt (by omega) (by omega)), if_pos ⟨rfl, by omega⟩]
  · rw [if_pos (show ¬ nI K = 1 by rw [show (1 : Int32) = nI 1 from rfl, q_eq (by omega) (by omega)]; exact k), fin, if_neg (fun z => k z.1)]
theorem m_op {x m : Nat} {w : lf_W} (h : gok K a b) (hx : x < 24) (hm : m < 24) : f208 N (nI K) (nI a) (nI b) (nI x) (nI m) w = some (.inl (some (.int (nI (gop K a b x m)))), w) := by
  obtain ⟨ha, hb⟩ := gok_b h
  obtain ⟨h1, h2, h4, h5⟩ := h
  have na : ¬ nI a = 0 := nI_ne0 (by omega) (by omega)
  have nb : ¬ nI b = 0 := nI_ne0 (by omega) (by omega)
  have hma : m % a < a := Nat.mod_lt _ (by omega)
  have hxa : x % a < a := Nat.mod_lt _ (by omega)
  have d1 : x / a ≤ 24 := Nat.le_trans (Nat.div_le_self _ _) (by omega)
  have d2 : m / a ≤ 24 := Nat.le_trans (Nat.div_le_self _ _) (by omega)
  unfold f208 gop
  rw [if_neg na, if_neg na, if_neg na, if_neg na, pk_div (by omega) (by omega) (by omega), pk_div (by omega) (by omega) (by omega), rem_nI (by omega) (by omega) (by omega), rem_nI (by omega) (by omega) (by omega)]
  rcases h5 with k | ⟨k, k2⟩
  · rw [k, if_neg (fun z => z rfl), if_neg na, if_neg nb, nI_add, nI_add, rem_nI (by omega) (by omega) (by omega), rem_nI (by omega) (by omega) (by omega), pk_mul, nI_add, if_neg (fun z => by omega)]
  · rw [k, if_pos (show ¬ nI 1 = 0 by decide)]
    unfold g208_64
    rw [if_neg na, if_neg na]
    by_cases c : x < a
    · have c1 : x / a = 0 := Nat.div_eq_of_lt c
      rw [if_neg (show ¬ ¬ nI (x / a) = 0 by rw [c1]; exact fun z => z rfl), nI_add, nI_add, rem_nI (by omega) (by omega) (by omega), show (2 : Int32) = nI 2 from rfl, rem_nI (by omega) (by omega) (by omega), pk_mul, nI_add, if_neg (fun z => by omega), k2]
    · have c1 : 1 ≤ x / a := (Nat.one_le_div_iff (by omega)).mpr (by omega)
      rw [if_pos (show ¬ nI (x / a) = 0 from nI_ne0 (by omega) (by omega)), subadd_nI (by omega), nI_add, rem_nI (by omega) (by omega) (by omega), show (2 : Int32) = nI 2 from rfl, rem_nI (by omega) (by omega) (by omega), pk_mul, nI_add, if_pos ⟨rfl, by omega⟩, k2]
theorem m_gi {m : Nat} {w : lf_W} (h : gok K a b) (hm : m < a * b) : ∀ (c y u : Nat), y + c = ginv K a b m → c < u → g209_3 N u (nI K) (nI a) (nI b) (nI m) (nI y) w = some (.inl (some (.int (nI (ginv K a b m)))), w) := by
  obtain ⟨q1, q2, q3⟩ := g_inv h hm
  have h24 := h.2.2.1
  intro c
  induction c with
  | zero =>
    intro y u hy hu
    obtain ⟨u, rfl⟩ : ∃ q, u = q + 1 := ⟨u - 1, by omega⟩
    unfold g209_3
    rw [show y = ginv K a b m by omega, m_op h (by omega) (by omega), lf_ci_r, q2, if_pos (show nI 0 = 0 from rfl)]
  | succ c ih =>
    intro y u hy hu
    obtain ⟨u, rfl⟩ : ∃ q, u = q + 1 := ⟨u - 1, by omega⟩
    unfold g209_3
    have o1 := (g_op h hm (show y < a * b by omega)).1
    rw [m_op h (by omega) (by omega), lf_ci_r, if_neg (nI_ne0 (by have := q3 y (by omega); omega) (by omega)), nI_1]
    exact ih (y + 1) u (by omega) (by omega)
/-- moves -/
def gmv (K a b : Nat) (M : Int32) : Prop := i_pc M ≤ 8 ∧ bt M 0 = false ∧ (∀ i, bt M i = true → i < a * b) ∧ ∀ i, bt M i = true → bt M (ginv K a b i) = true
theorem and1 {x : Int32} : x &&& 1 = if bt x 0 = true then 1 else 0 := by
  apply b_ext
  intro i hi
  rw [b_and, bt_1]
  by_cases c : i = 0
  · rw [c]
    cases bt x 0 <;> decide
  · rw [decide_eq_false c, Bool.and_false]
    cases bt x 0
    · rw [if_neg (by decide), b_0]
    · rw [if_pos rfl, bt_1, decide_eq_false c]
theorem ushr_0 {k : Nat} (hk : k < 32) : lf_ushr M (nI k) = 0 ↔ ∀ i, bt M i = true → i < k := by
  rw [b_nothing]
  unfold lf_ushr
  constructor
  · intro h i hi
    apply Classical.byContradiction
    intro c
    have := h (i - k)
    rw [b_ushr k hk, show k + (i - k) = i by omega] at this
    exact this hi
  · intro h i hi
    rw [b_ushr k hk] at hi
    have := h _ hi
    omega
theorem shr_0 {k : Nat} (hk : k < 32) (h : ∀ i, bt M i = true → i < k) : lf_shr M (nI k) = 0 := by
  apply b_nothing.mpr
  intro i hi
  have hi32 := bt_lt hi
  unfold lf_shr at hi
  rw [b_sshr k hk M hi32] at hi
  split at hi
  · have := h _ hi
    omega
  · have := h _ hi
    omega
theorem shr_0' {k : Nat} (hk : k < 32) (h : lf_shr M (nI k) = 0) : ∀ i, bt M i = true → i < k := by
  intro i hi
  apply Classical.byContradiction
  intro c
  have hi32 := bt_lt hi
  have := b_nothing.mp h (i - k)
  unfold lf_shr at this
  rw [b_sshr k hk M (by omega), if_pos (by omega), show k + (i - k) = i by omega] at this
  exact this hi
theorem neg_31 {x : Int32} (h : x < 0) : bt x 31 = true := by
  rw [fa_lt] at h
  have e : x.toBitVec.msb = true := by
    rw [BitVec.msb_eq_toInt]
    exact decide_eq_true h
  rw [BitVec.msb_eq_getLsbD_last] at e
  exact e
theorem c_ml (h : gok K a b) (h3 : gF3 σ K a b) (hb : ∀ i, bt M i = true → i < a * b) : ∀ (c u : Nat) (X : Int32), i_pc X = c → c < u → (∀ i, bt X i = true → bt M i = true) → ((∀ i, bt X i = true → bt M (ginv K a b i) = true) → g42_33 N u 25 M X (hp σ, cs) = some (.inl (some (.int 1)), (hp σ, cs))) ∧ (¬ (∀ i, bt X i = true → bt M (ginv K a b i) = true) → g42_33 N u 25 M X (hp σ, cs) = some (.inl (some (.int 0)), (hp σ, cs))) := by
  have h24 := h.2.2.1
  intro c
  induction c with
  | zero =>
    intro u X hX hu hs
    obtain ⟨u, rfl⟩ : ∃ q, u = q + 1 := ⟨u - 1, by omega⟩
    have h0 : X = 0 := by
      apply Classical.byContradiction
      intro z
      obtain ⟨l, -, -, -, el, -⟩ := bl_low z
      have := bl_len X
      rw [el, List.length_cons] at this
      omega
    constructor
    · intro _
      unfold g42_33
      rw [if_pos h0]
    · intro z
      exact absurd (fun i hi => by rw [h0, b_0] at hi; cases hi) z
  | succ c ih =>
    intro u X hX hu hs
    obtain ⟨u, rfl⟩ : ∃ q, u = q + 1 := ⟨u - 1, by omega⟩
    have h0 : ¬ X = 0 := by
      intro z
      rw [z, i_pc_0] at hX
      omega
    obtain ⟨l, l1, l2, l3, l4, l5⟩ := bl_low h0
    have hX' : i_pc (X &&& (X - 1)) = c := by
      have h1 := bl_len X
      have h2 := bl_len (X &&& (X - 1))
      rw [l4, List.length_cons] at h1
      omega
    have hl := hb l (hs l l2)
    have gi := (g_inv h hl).1
    obtain ⟨i1, i2⟩ := ih u (X &&& (X - 1)) hX' (by omega) (fun i hi => by
      rw [l3] at hi
      simp only [Bool.and_eq_true] at hi
      exact hs i hi.1)
    have pre : g42_33 N (u + 1) 25 M X (hp σ, cs) = if ¬ (if bt M (ginv K a b l) = true then (1 : Int32) else 0) = 0 then g42_33 N u 25 M (X &&& (X - 1)) (hp σ, cs) else some (.inl (some (.int 0)), (hp σ, cs)) := by
      rw [g42_33]
      rw [if_neg h0, (l5 N _).1, lf_nest_r, lf_ci_r, o25, c_ginv h h3 hl, lf_ci_r, sh_bit (by omega)]
    constructor
    · intro z
      rw [pre, if_pos (by rw [z l l2]; decide)]
      exact i1 (fun i hi => z i (by
        rw [l3] at hi
        simp only [Bool.and_eq_true] at hi
        exact hi.1))
    · intro z
      rw [pre]
      by_cases y : bt M (ginv K a b l) = true
      · rw [if_pos (by rw [y]; decide)]
        refine i2 (fun q => z (fun i hi => ?_))
        by_cases e : i = l
        · rw [e]; exact y
        · exact q i (by rw [l3, hi, decide_eq_true e]; rfl)
      · rw [if_neg (by rw [if_neg y]; exact fun z => z rfl)]
theorem c_moves (h : gok K a b) (h3 : gF3 σ K a b) (hN : iv_N N) : (gmv K a b M → f42 N 25 M (hp σ, cs) = some (.inl (some (.int 1)), (hp σ, cs))) ∧ (¬ gmv K a b M → f42 N 25 M (hp σ, cs) = some (.inl (some (.int 0)), (hp σ, cs))) := by
  have h24 := h.2.2.1
  have hpc : i_pc M ≤ 32 := i_pc_max (by omega) (fun i hi => bt_lt hi)
  have e8 : (8 < nI (i_pc M)) = (8 < i_pc M) := by
    rw [show (8 : Int32) = nI 8 from rfl, q_lt (by omega) (by omega)]
  have pre : f42 N 25 M (hp σ, cs) = if 8 < nI (i_pc M) then (some (.inl (some (.int 0)), (hp σ, cs))) else (if ¬ (if bt M 0 = true then (1 : Int32) else 0) = 0 then (some (.inl (some (.int 0)), (hp σ, cs))) else (if (lf_ushr M (nI (a * b))) = 0 then (g42_33 N N 25 M M (hp σ, cs)) else (some (.inl (some (.int 0)), (hp σ, cs))))) := by
    unfold f42
    rw [c_pc, lf_ci_r, and1, i25_1, h3.2.1, i25_2, h3.2.2, pk_mul]
  rw [pre]
  constructor
  · rintro ⟨m1, m2, m3, m4⟩
    rw [if_neg (by rw [e8]; omega), if_neg (by rw [m2]; exact fun z => z rfl), if_pos ((ushr_0 (by omega)).mpr m3)]
    exact (c_ml h h3 m3 (i_pc M) N M rfl (by unfold iv_N at hN; omega) (fun _ z => z)).1 m4
  · intro hm
    by_cases m1 : 8 < i_pc M
    · rw [if_pos (by rw [e8]; exact m1)]
    rw [if_neg (by rw [e8]; exact m1)]
    by_cases m2 : bt M 0 = true
    · rw [if_pos (by rw [m2]; decide)]
    rw [if_neg (by rw [if_neg m2]; exact fun z => z rfl)]
    by_cases m3 : lf_ushr M (nI (a * b)) = 0
    · rw [if_pos m3]
      have m3' := (ushr_0 (by omega)).mp m3
      exact (c_ml h h3 m3' (i_pc M) N M rfl (by unfold iv_N at hN; omega) (fun _ z => z)).2 (fun z => hm ⟨by omega, by simpa using m2, m3', z⟩)
    · rw [if_neg m3]
end TU
