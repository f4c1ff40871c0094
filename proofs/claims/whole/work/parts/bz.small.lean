/-! small nets: pairs, numberings, kinds -/
section SMP
variable {n : Nat} {p q : Nat → Nat} {x y z : Nat}
/-- pairs before those of a -/
def prY (n : Nat) : Nat → Nat
  | 0 => 0
  | a + 1 => prY n a + (n - 1 - a)
/-- the place of a pair -/
def pqY (n a b : Nat) : Nat := if a < b then prY n a + (b - a - 1) else prY n b + (a - b - 1)
/-- how many pairs -/
def ppY (n : Nat) : Nat := prY n n
theorem pqY_c {a b : Nat} (h : a ≠ b) : pqY n a b = pqY n b a := by
  unfold pqY
  rcases Nat.lt_or_gt_of_ne h with z | z
  · rw [if_pos z, if_neg (by omega)]
  · rw [if_neg (by omega), if_pos z]
def ckP : Bool := (List.range 7).all fun n => decide (ppY n ≤ 15) && ((List.range n).all fun a => (List.range n).all fun b => decide (a = b) || decide (pqY n a b < ppY n)) && ((List.range (ppY n)).all fun i => (List.range n).any fun a => (List.range n).any fun b => decide (a < b) && decide (pqY n a b = i))
theorem ckP_t : ckP = true := by decide +kernel
theorem pp_15 (hn : n ≤ 6) : ppY n ≤ 15 := by
  have h := ckP_t
  unfold ckP at h
  rw [List.all_eq_true] at h
  have h2 := h n (List.mem_range.mpr (by omega))
  simp only [Bool.and_eq_true, decide_eq_true_iff] at h2
  exact h2.1.1
theorem pq_lt (hn : n ≤ 6) {a b : Nat} (ha : a < n) (hb : b < n) (hab : a ≠ b) : pqY n a b < ppY n := by
  have h := ckP_t
  unfold ckP at h
  rw [List.all_eq_true] at h
  have h2 := h n (List.mem_range.mpr (by omega))
  simp only [Bool.and_eq_true, Bool.or_eq_true, decide_eq_true_iff, List.all_eq_true, List.mem_range] at h2
  exact (h2.1.2 a ha b hb).resolve_left hab
theorem pq_sur (hn : n ≤ 6) {i : Nat} (hi : i < ppY n) : ∃ a b, a < b ∧ b < n ∧ pqY n a b = i := by
  have h := ckP_t
  unfold ckP at h
  rw [List.all_eq_true] at h
  have h2 := h n (List.mem_range.mpr (by omega))
  simp only [Bool.and_eq_true, decide_eq_true_iff, List.all_eq_true, List.any_eq_true, List.mem_range] at h2
  obtain ⟨a, a1, b, b1, b2, b3⟩ := h2.2 i hi
  exact ⟨a, b, b2, b1, b3⟩
/-- net y is net x numbered anew by p -/
def agY (n : Nat) (p : Nat → Nat) (x y : Nat) : Prop := ∀ a b, a < n → b < n → a ≠ b → y.testBit (pqY n (p a) (p b)) = x.testBit (pqY n a b)
def eqY (n x y : Nat) : Prop := ∃ p, prm n p ∧ agY n p x y
theorem eqY_rf : eqY n x x := ⟨fun k => k, prm_id, fun _ _ _ _ _ => rfl⟩
theorem prm_inv (h : prm n p) : ∃ q, prm n q ∧ (∀ k, k < n → p (q k) = k) ∧ ∀ k, k < n → q (p k) = k := by
  obtain ⟨q, hq⟩ : ∃ q : Nat → Nat, ∀ k, k < n → q k < n ∧ p (q k) = k := Classical.axiomOfChoice (r := fun k j => k < n → j < n ∧ p j = k) (fun k => by
    by_cases c : k < n
    · obtain ⟨j, j1, j2⟩ := prm_sur h c
      exact ⟨j, fun _ => ⟨j1, j2⟩⟩
    · exact ⟨0, fun z => absurd z c⟩)
  refine ⟨q, ⟨fun k hk => (hq k hk).1, fun i j hi hj e => ?_⟩, fun k hk => (hq k hk).2, fun k hk => ?_⟩
  · rw [← (hq i hi).2, ← (hq j hj).2, e]
  · have := hq (p k) (h.1 k hk)
    exact h.2 _ _ this.1 hk this.2
theorem eqY_sy (h : eqY n x y) : eqY n y x := by
  obtain ⟨p, p1, p2⟩ := h
  obtain ⟨q, q1, q2, q3⟩ := prm_inv p1
  refine ⟨q, q1, fun a b ha hb hab => ?_⟩
  have := p2 (q a) (q b) (q1.1 a ha) (q1.1 b hb) (fun e => hab (q1.2 a b ha hb e))
  rw [q2 a ha, q2 b hb] at this
  exact this.symm
theorem eqY_tr (h : eqY n x y) (k : eqY n y z) : eqY n x z := by
  obtain ⟨p, p1, p2⟩ := h
  obtain ⟨q, q1, q2⟩ := k
  refine ⟨fun k => q (p k), ⟨fun k hk => q1.1 _ (p1.1 k hk), fun i j hi hj e => p1.2 i j hi hj (q1.2 _ _ (p1.1 i hi) (p1.1 j hj) e)⟩, fun a b ha hb hab => ?_⟩
  rw [← p2 a b ha hb hab]
  exact q2 (p a) (p b) (p1.1 a ha) (p1.1 b hb) (fun e => hab (p1.2 a b ha hb e))
theorem agY_one (hn : n ≤ 6) (hp' : prm n p) (hy : y < 2 ^ ppY n) (hz : z < 2 ^ ppY n) (h1 : agY n p x y) (h2 : agY n p x z) : y = z := by
  apply Nat.eq_of_testBit_eq
  intro i
  by_cases c : i < ppY n
  · obtain ⟨a, b, a1, a2, a3⟩ := pq_sur hn c
    obtain ⟨a', b1, b2⟩ := prm_sur hp' (show a < n by omega)
    obtain ⟨b', c1, c2⟩ := prm_sur hp' a2
    have hne : a' ≠ b' := fun e => by rw [e, c2] at b2; omega
    have e1 := h1 a' b' b1 c1 hne
    have e2 := h2 a' b' b1 c1 hne
    rw [b2, c2, a3] at e1 e2
    rw [e1, e2]
  · rw [Nat.testBit_lt_two_pow (Nat.lt_of_lt_of_le hy (Nat.pow_le_pow_right (by omega) (by omega))), Nat.testBit_lt_two_pow (Nat.lt_of_lt_of_le hz (Nat.pow_le_pow_right (by omega) (by omega)))]
/-- some bits change with those that lie so much higher -/
def cbY (x m k : Nat) : Nat := x ^^^ ((x ^^^ (x >>> k)) &&& m) ^^^ (((x ^^^ (x >>> k)) &&& m) <<< k)
def srY (m k i : Nat) : Nat := if m.testBit i = true then i + k else if k ≤ i ∧ m.testBit (i - k) = true then i - k else i
theorem cbY_bit {m k i : Nat} (h : ¬ (m.testBit i = true ∧ k ≤ i ∧ m.testBit (i - k) = true)) : (cbY x m k).testBit i = x.testBit (srY m k i) := by
  unfold cbY srY
  rw [Nat.testBit_xor, Nat.testBit_xor, Nat.testBit_and, Nat.testBit_xor, Nat.testBit_shiftRight, Nat.testBit_shiftLeft, Nat.testBit_and, Nat.testBit_xor, Nat.testBit_shiftRight]
  by_cases c : m.testBit i = true
  · rw [if_pos c, c, Bool.and_true, Nat.add_comm k i]
    by_cases d : k ≤ i
    · have e : m.testBit (i - k) = false := by
        cases e : m.testBit (i - k) with
        | false => rfl
        | true => exact absurd ⟨c, d, e⟩ h
      rw [e, Bool.and_false, Bool.and_false, Bool.xor_false]
      cases x.testBit i <;> cases x.testBit (i + k) <;> rfl
    · rw [show decide (i ≥ k) = false from decide_eq_false (by omega), Bool.false_and, Bool.xor_false]
      cases x.testBit i <;> cases x.testBit (i + k) <;> rfl
  · have c' : m.testBit i = false := ts_nt c
    rw [if_neg c, c', Bool.and_false, Bool.xor_false]
    by_cases d : k ≤ i ∧ m.testBit (i - k) = true
    · rw [if_pos d, show decide (i ≥ k) = true from decide_eq_true d.1, d.2, Bool.and_true, Bool.true_and, show k + (i - k) = i by omega]
      cases x.testBit i <;> cases x.testBit (i - k) <;> rfl
    · rw [if_neg d]
      by_cases e : k ≤ i
      · rw [ts_nt (fun z => d ⟨e, z⟩), Bool.and_false, Bool.and_false, Bool.xor_false]
      · rw [show decide (i ≥ k) = false from decide_eq_false (by omega), Bool.false_and, Bool.xor_false]
/-- the class's masks -/
def wlR (n v : Nat) : Nat → Nat
  | 0 => 0
  | x + 1 => wlR n v x ||| 2 ^ pqY n x v
def wlY (n v : Nat) : Nat := wlR n v v
def wgY (n v : Nat) : Nat := (2 ^ (n - 2 - v) - 1) * 2 ^ (prY n v + 1)
/-- knots v and v + 1 change numbers -/
def tvY (n v x : Nat) : Nat := cbY (cbY x (wlY n v) 1) (wgY n v) (n - 2 - v)
def svY (v a : Nat) : Nat := if a = v then v + 1 else if a = v + 1 then v else a
def okSY (m k i : Nat) : Bool := !(m.testBit i && decide (k ≤ i) && m.testBit (i - k))
def ckT : Bool := (List.range 7).all fun n => (List.range (n - 1)).all fun v => ((List.range 32).all fun i => okSY (wlY n v) 1 i && okSY (wgY n v) (n - 2 - v) i && (decide (i < ppY n) || (decide (srY (wlY n v) 1 i = i) && decide (srY (wgY n v) (n - 2 - v) i = i)))) && ((List.range n).all fun a => (List.range n).all fun b => decide (a = b) || decide (srY (wlY n v) 1 (srY (wgY n v) (n - 2 - v) (pqY n a b)) = pqY n (svY v a) (svY v b))) && decide (wlY n v < 2 ^ 15) && decide (wgY n v < 2 ^ 15)
theorem ckT_t : ckT = true := by decide +kernel
theorem tv_all (hn : n ≤ 6) {v : Nat} (hv : v + 1 < n) : (∀ i, i < 32 → okSY (wlY n v) 1 i = true ∧ okSY (wgY n v) (n - 2 - v) i = true ∧ (i < ppY n ∨ (srY (wlY n v) 1 i = i ∧ srY (wgY n v) (n - 2 - v) i = i))) ∧ (∀ a b, a < n → b < n → a ≠ b → srY (wlY n v) 1 (srY (wgY n v) (n - 2 - v) (pqY n a b)) = pqY n (svY v a) (svY v b)) ∧ wlY n v < 2 ^ 15 ∧ wgY n v < 2 ^ 15 := by
  have h := ckT_t
  unfold ckT at h
  rw [List.all_eq_true] at h
  have h2 := h n (List.mem_range.mpr (by omega))
  rw [List.all_eq_true] at h2
  have h3 := h2 v (List.mem_range.mpr (by omega))
  simp only [Bool.and_eq_true, Bool.or_eq_true, decide_eq_true_iff, List.all_eq_true, List.mem_range] at h3
  obtain ⟨⟨⟨h4, h5⟩, h6⟩, h7⟩ := h3
  exact ⟨fun i hi => ⟨(h4 i hi).1.1, (h4 i hi).1.2, (h4 i hi).2⟩, fun a b ha hb hab => (h5 a ha b hb).resolve_left hab, h6, h7⟩
theorem okSY_p {m k i : Nat} (h : okSY m k i = true) : ¬ (m.testBit i = true ∧ k ≤ i ∧ m.testBit (i - k) = true) := by
  rintro ⟨a1, a2, a3⟩
  unfold okSY at h
  rw [a1, a3, decide_eq_true a2] at h
  cases h
theorem sr_le {m k i : Nat} : srY m k i ≤ i + k := by
  unfold srY
  split
  · exact Nat.le_refl _
  · split <;> omega
theorem svY_sv (v a : Nat) : svY v (svY v a) = a := by
  unfold svY
  by_cases c : a = v
  · rw [if_pos c, if_neg (by omega), if_pos rfl, c]
  · rw [if_neg c]
    by_cases d : a = v + 1
    · rw [if_pos d, if_pos rfl, d]
    · rw [if_neg d, if_neg c, if_neg d]
theorem svY_prm {v : Nat} (hv : v + 1 < n) : prm n (svY v) := by
  refine ⟨fun k hk => ?_, fun i j _ _ e => ?_⟩
  · unfold svY
    split
    · exact hv
    · split <;> omega
  · rw [← svY_sv v i, ← svY_sv v j, e]
theorem tv_bit (hn : n ≤ 6) {v : Nat} (hv : v + 1 < n) {i : Nat} (hi : i < ppY n) : (tvY n v x).testBit i = x.testBit (srY (wlY n v) 1 (srY (wgY n v) (n - 2 - v) i)) := by
  have hp' := pp_15 hn
  obtain ⟨h1, -, -, -⟩ := tv_all hn hv
  unfold tvY
  have hs := sr_le (m := wgY n v) (k := n - 2 - v) (i := i)
  rw [cbY_bit (okSY_p (h1 i (by omega)).2.1), cbY_bit (okSY_p (h1 _ (by omega)).1)]
theorem tv_ag (hn : n ≤ 6) {v : Nat} (hv : v + 1 < n) : agY n (svY v) x (tvY n v x) := by
  intro a b ha hb hab
  have hs := svY_prm hv
  have h1 := hs.1 a ha
  have h2 := hs.1 b hb
  have h3 : svY v a ≠ svY v b := fun e => hab (hs.2 a b ha hb e)
  rw [tv_bit hn hv (pq_lt hn h1 h2 h3), (tv_all hn hv).2.1 _ _ h1 h2 h3, svY_sv, svY_sv]
theorem tb_hi {m i : Nat} (h : m < 2 ^ 15) (hi : 15 ≤ i) : m.testBit i = false := Nat.testBit_lt_two_pow (Nat.lt_of_lt_of_le h (Nat.pow_le_pow_right (by omega) hi))
theorem tv_lt (hn : n ≤ 6) {v : Nat} (hv : v + 1 < n) (hx : x < 2 ^ ppY n) : tvY n v x < 2 ^ ppY n := by
  obtain ⟨h1, -, h3, h4⟩ := tv_all hn hv
  apply Nat.lt_pow_two_of_testBit
  intro i hi
  have hxi : x.testBit i = false := Nat.testBit_lt_two_pow (Nat.lt_of_lt_of_le hx (Nat.pow_le_pow_right (by omega) hi))
  have hno : ∀ m k, m < 2 ^ 15 → k ≤ 4 → 32 ≤ i → srY m k i = i ∧ ¬ (m.testBit i = true ∧ k ≤ i ∧ m.testBit (i - k) = true) := by
    intro m k hm hk h32
    have e1 := tb_hi hm (show 15 ≤ i by omega)
    have e2 := tb_hi hm (show 15 ≤ i - k by omega)
    constructor
    · unfold srY
      rw [e1, e2, if_neg (by decide), if_neg (fun z => by cases z.2)]
    · rintro ⟨a1, -⟩
      rw [e1] at a1
      cases a1
  unfold tvY
  by_cases c : i < 32
  · obtain ⟨a1, a2, a3⟩ := h1 i c
    have a3 := a3.resolve_left (by omega)
    rw [cbY_bit (okSY_p a2), a3.2, cbY_bit (okSY_p a1), a3.1]
    exact hxi
  · obtain ⟨b1, b2⟩ := hno _ (n - 2 - v) h4 (by omega) (by omega)
    obtain ⟨c1, c2⟩ := hno _ 1 h3 (by omega) (by omega)
    rw [cbY_bit b2, b1, cbY_bit c2, c1]
    exact hxi
theorem tv_eq (hn : n ≤ 6) {v : Nat} (hv : v + 1 < n) : eqY n x (tvY n v x) := ⟨svY v, svY_prm hv, tv_ag hn hv⟩
theorem no_desc (hp' : prm n p) (c : ¬ ∃ i, i + 1 < n ∧ p (i + 1) < p i) : ∀ k, k < n → p k = k := by
  have h1 : ∀ i, i + 1 < n → p i < p (i + 1) := fun i hi => by
    rcases Nat.lt_trichotomy (p i) (p (i + 1)) with z | z | z
    · exact z
    · have := hp'.2 i (i + 1) (by omega) hi z
      omega
    · exact absurd ⟨i, hi, z⟩ c
  have h2 : ∀ k, k < n → k ≤ p k := by
    intro k
    induction k with
    | zero => intro _; exact Nat.zero_le _
    | succ k ih =>
      intro hk
      have := ih (by omega)
      have := h1 k hk
      omega
  have h3 : ∀ d k, k + d + 1 = n → p k ≤ k := by
    intro d
    induction d with
    | zero =>
      intro k hk
      have := hp'.1 k (by omega)
      omega
    | succ d ih =>
      intro k hk
      have := ih (k + 1) (by omega)
      have := h1 k (by omega)
      omega
  intro k hk
  have := h2 k hk
  have := h3 (n - k - 1) k (by omega)
  omega
/-- what is closed under changes of neighbours' numbers holds every numbering -/
theorem eq_cl1 (hn : n ≤ 6) {S : Nat → Prop} (hS : ∀ x, x < 2 ^ ppY n → S x → ∀ v, v + 1 < n → S (tvY n v x)) : ∀ (m : Nat) (p : Nat → Nat) (x y : Nat), cdY p n = m → prm n p → x < 2 ^ ppY n → y < 2 ^ ppY n → agY n p x y → S x → S y := by
  intro m
  induction m using Nat.strongRecOn with
  | ind m ih =>
    intro p x y hm hp' hx hy ha hSx
    by_cases c : ∃ i, i + 1 < n ∧ p (i + 1) < p i
    · obtain ⟨i, i1, i2⟩ := c
      have hlt := cdY_lx (n := n) (P := swp p i (i + 1)) (Q := p) (fun k hk => by have := (swp_prm hp' (show i < n by omega) i1).1 k hk; omega) ⟨i, by omega, fun k hk => swp_n (by omega) (by omega), by rw [swp_i]; exact i2⟩
      have es : ∀ k, swp p i (i + 1) k = p (svY i k) := fun k => by
        unfold swp svY
        by_cases z : k = i
        · rw [if_pos z, if_pos z]
        · rw [if_neg z, if_neg z]
          by_cases y : k = i + 1
          · rw [if_pos y, if_pos y]
          · rw [if_neg y, if_neg y]
      refine ih _ (by rw [← hm]; exact hlt) (swp p i (i + 1)) (tvY n i x) y rfl (swp_prm hp' (by omega) i1) (tv_lt hn i1 hx) hy (fun a b h1 h2 h3 => ?_) (hS x hx hSx i i1)
      have hs := svY_prm i1
      have h4 := hs.1 a h1
      have h5 := hs.1 b h2
      have h6 : svY i a ≠ svY i b := fun e => h3 (hs.2 a b h1 h2 e)
      rw [es, es, ha _ _ h4 h5 h6]
      have := tv_ag (x := x) hn i1 (svY i a) (svY i b) h4 h5 h6
      rw [svY_sv, svY_sv] at this
      exact this.symm
    · have inc := no_desc hp' c
      have : y = x := agY_one hn hp' hy hx ha (fun a b h1 h2 h3 => by rw [inc a h1, inc b h2])
      rw [this]
      exact hSx
theorem eq_close (hn : n ≤ 6) {S : Nat → Prop} (hS : ∀ x, x < 2 ^ ppY n → S x → ∀ v, v + 1 < n → S (tvY n v x)) (hx : x < 2 ^ ppY n) (hy : y < 2 ^ ppY n) (h : eqY n x y) (hSx : S x) : S y := by
  obtain ⟨p, p1, p2⟩ := h
  exact eq_cl1 hn hS _ p x y rfl p1 hx hy p2 hSx
end SMP
