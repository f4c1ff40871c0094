/-! small nets: how many kinds there are, how many nets are alike -/
section SMK
variable {n : Nat} {p q : Nat → Nat} {x y z : Nat}
/-- the least of its kind -/
def mnY (n x : Nat) : Prop := ∀ y, y < 2 ^ ppY n → eqY n x y → x ≤ y
theorem mn_ex (hx : x < 2 ^ ppY n) : ∃ m, m < 2 ^ ppY n ∧ mnY n m ∧ eqY n m x ∧ m ≤ x := by
  obtain ⟨m, m1, ⟨m2, m3⟩, m4⟩ := least_of (P := fun y => y < 2 ^ ppY n ∧ eqY n x y) x ⟨hx, eqY_rf⟩
  refine ⟨m, m2, fun y hy h => ?_, eqY_sy m3, m1⟩
  rcases Nat.lt_or_ge y m with c | c
  · exact absurd ⟨hy, eqY_tr m3 h⟩ (m4 y c)
  · exact c
theorem mn_one (hx : x < 2 ^ ppY n) (hy : y < 2 ^ ppY n) (h1 : mnY n x) (h2 : mnY n y) (h : eqY n x y) : x = y := Nat.le_antisymm (h1 y hy h) (h2 x hx (eqY_sy h))
def RLs : List Nat := [0, 1, 3, 7, 15, 31, 35, 36, 37, 39, 44, 45, 47, 60, 61, 63, 102, 103, 106, 107, 110, 111, 120, 121, 122, 123, 126, 127, 238, 239, 246, 247, 254, 255, 510, 511, 615, 616, 617, 619, 623, 632, 633, 635, 639, 655, 656, 657, 659, 662, 663, 671, 684, 685, 687, 691, 692, 693, 694, 695, 700, 701, 703, 750, 751, 758, 759, 760, 761, 762, 763, 766, 767, 920, 921, 922, 923, 926, 927, 954, 955, 956, 957, 958, 959, 1022, 1023, 1743, 1749, 1751, 1759, 1775, 1780, 1781, 1783, 1788, 1789, 1791, 1880, 1881, 1883, 1884, 1885, 1887, 1915, 1916, 1917, 1919, 2012, 2013, 2014, 2015, 2046, 2047, 4060, 4061, 4063, 4095, 5871, 5872, 5873, 5875, 5879, 5887, 5905, 5907, 5911, 5919, 5941, 5943, 5948, 5949, 5950, 5951, 6007, 6010, 6011, 6014, 6015, 6142, 6143, 6654, 6655, 7071, 7100, 7101, 7103, 7166, 7167, 8157, 8159, 8191, 15870, 15871, 16383, 32767]
def WLs : List (Nat × List Nat) := [(104, [0, 3]), (105, [0, 3]), (240, [0, 4]), (241, [0, 4]), (242, [0, 4]), (243, [0, 4]), (648, [1, 3]), (649, [1, 3]), (650, [1, 3]), (651, [1, 3]), (654, [1, 3]), (658, [1, 3]), (664, [1, 3]), (665, [1, 3]), (666, [1, 3]), (667, [1, 3]), (670, [1, 3]), (682, [1, 3]), (683, [1, 3]), (686, [1, 3]), (688, [0, 4]), (689, [0, 4]), (690, [1, 3]), (696, [1, 3]), (697, [1, 3]), (698, [1, 3]), (699, [1, 3]), (702, [1, 3]), (752, [0, 4]), (753, [0, 4]), (754, [0, 4]), (755, [0, 4]), (1740, [2, 1, 3, 2]), (1741, [2, 1, 3, 2]), (1744, [0, 1, 4]), (1745, [0, 1, 4]), (1747, [0, 1, 4]), (1748, [2, 1, 3, 2]), (1756, [2, 1, 3, 2]), (1757, [2, 1, 3, 2]), (1776, [0, 1, 4]), (1777, [0, 1, 4]), (1779, [0, 1, 4]), (1808, [1, 4]), (1809, [1, 4]), (1810, [1, 4]), (1811, [1, 4]), (1812, [1, 4]), (1813, [1, 4]), (1814, [1, 4]), (1815, [1, 4]), (1820, [1, 4]), (1821, [1, 4]), (1822, [1, 4]), (1823, [1, 4]), (1842, [1, 4]), (1843, [1, 4]), (1844, [1, 4]), (1845, [1, 4]), (1846, [1, 4]), (1847, [1, 4]), (1852, [1, 4]), (1853, [1, 4]), (1854, [1, 4]), (1855, [1, 4]), (1876, [1, 4]), (1877, [1, 4]), (1878, [1, 4]), (1879, [1, 4]), (1882, [1, 4]), (1886, [1, 4]), (1910, [1, 4]), (1911, [1, 4]), (1912, [0, 3]), (1913, [0, 3]), (1914, [1, 4]), (1918, [1, 4]), (5904, [1, 0, 2, 1, 4]), (5906, [1, 0, 2, 1, 4]), (5910, [1, 0, 2, 1, 4]), (5918, [1, 2, 3, 4, 3, 2, 1]), (5938, [1, 0, 2, 1, 4]), (5939, [1, 0, 2, 1, 4]), (5940, [1, 0, 2, 1, 4]), (5942, [1, 0, 2, 1, 4]), (6006, [1, 0, 2, 1, 4]), (6008, [0, 3]), (6009, [0, 3]), (6416, [2, 4]), (6417, [2, 4]), (6419, [2, 4]), (6420, [2, 4]), (6421, [2, 4]), (6423, [2, 4]), (6428, [2, 4]), (6429, [2, 4]), (6431, [2, 4]), (6451, [2, 4]), (6452, [2, 4]), (6453, [2, 4]), (6455, [2, 4]), (6460, [2, 4]), (6461, [2, 4]), (6463, [2, 4]), (6484, [2, 4]), (6485, [2, 4]), (6486, [2, 4]), (6487, [2, 4]), (6488, [2, 4]), (6489, [2, 4]), (6490, [2, 4]), (6491, [2, 4]), (6492, [2, 4]), (6493, [2, 4]), (6494, [2, 4]), (6495, [2, 4]), (6518, [2, 4]), (6519, [2, 4]), (6520, [0, 3]), (6521, [0, 3]), (6522, [2, 4]), (6523, [2, 4]), (6524, [2, 4]), (6525, [2, 4]), (6526, [2, 4]), (6527, [2, 4]), (6620, [2, 4]), (6621, [2, 4]), (6622, [2, 4]), (6623, [2, 4]), (6996, [2, 4]), (6997, [2, 4]), (6999, [2, 4]), (7000, [2, 4]), (7001, [2, 4]), (7003, [2, 4]), (7004, [2, 4]), (7005, [2, 4]), (7007, [2, 4]), (7031, [2, 4]), (7032, [2, 4]), (7033, [2, 4]), (7035, [2, 4]), (7036, [2, 4]), (7037, [2, 4]), (7039, [2, 4]), (7064, [1, 3]), (7065, [1, 3]), (7066, [1, 3]), (7067, [1, 3]), (7068, [2, 4]), (7069, [2, 4]), (7070, [1, 3]), (7098, [1, 3]), (7099, [1, 3]), (7102, [1, 3]), (7132, [2, 4]), (7133, [2, 4]), (7134, [2, 4]), (7135, [2, 4]), (8156, [2, 1, 0, 3, 2, 1, 4, 3, 2]), (15768, [3, 2, 4, 3]), (15769, [3, 2, 4, 3]), (15771, [3, 2, 4, 3]), (15775, [3, 2, 4, 3]), (15803, [3, 2, 4, 3]), (15804, [3, 2, 4, 3]), (15805, [3, 2, 4, 3]), (15807, [3, 2, 4, 3])]
def tfY (v x : Nat) : Nat := if v = 0 then cbY (cbY x 0 1) 30 4 else if v = 1 then cbY (cbY x 1 1) 448 3 else if v = 2 then cbY (cbY x 34 1) 3072 2 else if v = 3 then cbY (cbY x 580 1) 8192 1 else cbY (cbY x 5256 1) 0 0
theorem wm_6 : wlY 6 0 = 0 ∧ wgY 6 0 = 30 ∧ wlY 6 1 = 1 ∧ wgY 6 1 = 448 ∧ wlY 6 2 = 34 ∧ wgY 6 2 = 3072 ∧ wlY 6 3 = 580 ∧ wgY 6 3 = 8192 ∧ wlY 6 4 = 5256 ∧ wgY 6 4 = 0 := by decide +kernel
theorem tf_tv {v : Nat} (hv : v < 5) : tfY v x = tvY 6 v x := by
  obtain ⟨a0, a1, b0, b1, c0, c1, d0, d1, e0, e1⟩ := wm_6
  unfold tfY tvY
  rcases (show v = 0 ∨ v = 1 ∨ v = 2 ∨ v = 3 ∨ v = 4 by omega) with h | h | h | h | h
  · subst h; rw [if_pos rfl, a0, a1]
  · subst h; rw [if_neg (by decide), if_pos rfl, b0, b1]
  · subst h; rw [if_neg (by decide), if_neg (by decide), if_pos rfl, c0, c1]
  · subst h; rw [if_neg (by decide), if_neg (by decide), if_neg (by decide), if_pos rfl, d0, d1]
  · subst h; rw [if_neg (by decide), if_neg (by decide), if_neg (by decide), if_neg (by decide), e0, e1]
def oneY (x : Nat) : Bool := decide (tfY 0 x < x) || decide (tfY 1 x < x) || decide (tfY 2 x < x) || decide (tfY 3 x < x) || decide (tfY 4 x < x) || RLs.elem x || WLs.any (fun q => decide (q.1 = x))
def chY : Nat → Nat → Bool
  | 0, x => oneY x
  | k + 1, x => chY k x && chY k (x + 2 ^ k)
theorem chY_all : ∀ (k x : Nat), chY k x = true → ∀ i, i < 2 ^ k → oneY (x + i) = true
  | 0, x, h, i, hi => by
    have : i = 0 := by rw [Nat.pow_zero] at hi; omega
    subst this
    exact h
  | k + 1, x, h, i, hi => by
    have h2 := Bool.and_eq_true_iff.mp (show (chY k x && chY k (x + 2 ^ k)) = true from h)
    rw [Nat.pow_succ] at hi
    by_cases c : i < 2 ^ k
    · exact chY_all k x h2.1 i c
    · have := chY_all k (x + 2 ^ k) h2.2 (i - 2 ^ k) (by omega)
      rw [show x + 2 ^ k + (i - 2 ^ k) = x + i by omega] at this
      exact this
theorem chY_0 : chY 11 0 = true := by decide +kernel
theorem chY_1 : chY 11 2048 = true := by decide +kernel
theorem chY_2 : chY 11 4096 = true := by decide +kernel
theorem chY_3 : chY 11 6144 = true := by decide +kernel
theorem chY_4 : chY 11 8192 = true := by decide +kernel
theorem chY_5 : chY 11 10240 = true := by decide +kernel
theorem chY_6 : chY 11 12288 = true := by decide +kernel
theorem chY_7 : chY 11 14336 = true := by decide +kernel
theorem chY_8 : chY 11 16384 = true := by decide +kernel
theorem chY_9 : chY 11 18432 = true := by decide +kernel
theorem chY_10 : chY 11 20480 = true := by decide +kernel
theorem chY_11 : chY 11 22528 = true := by decide +kernel
theorem chY_12 : chY 11 24576 = true := by decide +kernel
theorem chY_13 : chY 11 26624 = true := by decide +kernel
theorem chY_14 : chY 11 28672 = true := by decide +kernel
theorem chY_15 : chY 11 30720 = true := by decide +kernel
theorem one_all (hx : x < 2 ^ 15) : oneY x = true := by
  by_cases h0 : x < 2048
  · have := chY_all 11 0 chY_0 (x - 0) (by omega)
    rw [show 0 + (x - 0) = x by omega] at this
    exact this
  by_cases h1 : x < 4096
  · have := chY_all 11 2048 chY_1 (x - 2048) (by omega)
    rw [show 2048 + (x - 2048) = x by omega] at this
    exact this
  by_cases h2 : x < 6144
  · have := chY_all 11 4096 chY_2 (x - 4096) (by omega)
    rw [show 4096 + (x - 4096) = x by omega] at this
    exact this
  by_cases h3 : x < 8192
  · have := chY_all 11 6144 chY_3 (x - 6144) (by omega)
    rw [show 6144 + (x - 6144) = x by omega] at this
    exact this
  by_cases h4 : x < 10240
  · have := chY_all 11 8192 chY_4 (x - 8192) (by omega)
    rw [show 8192 + (x - 8192) = x by omega] at this
    exact this
  by_cases h5 : x < 12288
  · have := chY_all 11 10240 chY_5 (x - 10240) (by omega)
    rw [show 10240 + (x - 10240) = x by omega] at this
    exact this
  by_cases h6 : x < 14336
  · have := chY_all 11 12288 chY_6 (x - 12288) (by omega)
    rw [show 12288 + (x - 12288) = x by omega] at this
    exact this
  by_cases h7 : x < 16384
  · have := chY_all 11 14336 chY_7 (x - 14336) (by omega)
    rw [show 14336 + (x - 14336) = x by omega] at this
    exact this
  by_cases h8 : x < 18432
  · have := chY_all 11 16384 chY_8 (x - 16384) (by omega)
    rw [show 16384 + (x - 16384) = x by omega] at this
    exact this
  by_cases h9 : x < 20480
  · have := chY_all 11 18432 chY_9 (x - 18432) (by omega)
    rw [show 18432 + (x - 18432) = x by omega] at this
    exact this
  by_cases h10 : x < 22528
  · have := chY_all 11 20480 chY_10 (x - 20480) (by omega)
    rw [show 20480 + (x - 20480) = x by omega] at this
    exact this
  by_cases h11 : x < 24576
  · have := chY_all 11 22528 chY_11 (x - 22528) (by omega)
    rw [show 22528 + (x - 22528) = x by omega] at this
    exact this
  by_cases h12 : x < 26624
  · have := chY_all 11 24576 chY_12 (x - 24576) (by omega)
    rw [show 24576 + (x - 24576) = x by omega] at this
    exact this
  by_cases h13 : x < 28672
  · have := chY_all 11 26624 chY_13 (x - 26624) (by omega)
    rw [show 26624 + (x - 26624) = x by omega] at this
    exact this
  by_cases h14 : x < 30720
  · have := chY_all 11 28672 chY_14 (x - 28672) (by omega)
    rw [show 28672 + (x - 28672) = x by omega] at this
    exact this
  have := chY_all 11 30720 chY_15 (x - 30720) (by omega)
  rw [show 30720 + (x - 30720) = x by omega] at this
  exact this
def wkY : Bool := WLs.all fun q => decide (q.2.foldl (fun x v => tfY v x) q.1 < q.1) && q.2.all (fun v => decide (v < 5)) && decide (q.1 < 2 ^ 15)
theorem wkY_t : wkY = true := by decide +kernel
theorem word_eq : ∀ (w : List Nat) (x : Nat), (∀ v, v ∈ w → v < 5) → x < 2 ^ 15 → eqY 6 x (w.foldl (fun x v => tfY v x) x) ∧ w.foldl (fun x v => tfY v x) x < 2 ^ 15
  | [], x, _, hx => ⟨eqY_rf, hx⟩
  | v :: w, x, h, hx => by
    have hv := h v List.mem_cons_self
    have e6 : ppY 6 = 15 := by decide +kernel
    have h1 : tfY v x < 2 ^ 15 := by
      rw [tf_tv hv, ← e6]
      exact tv_lt (by omega) (by omega) (by rw [e6]; exact hx)
    obtain ⟨a1, a2⟩ := word_eq w (tfY v x) (fun u hu => h u (List.mem_cons_of_mem _ hu)) h1
    refine ⟨eqY_tr ?_ a1, a2⟩
    rw [tf_tv hv]
    exact tv_eq (by omega) (by omega)
theorem mn_R (hx : x < 2 ^ 15) (h : mnY 6 x) : x ∈ RLs := by
  have e6 : ppY 6 = 15 := by decide +kernel
  have h1 := one_all hx
  unfold oneY at h1
  simp only [Bool.or_eq_true, decide_eq_true_iff] at h1
  have no : ∀ v, v < 5 → ¬ tfY v x < x := fun v hv z => by
    rw [tf_tv hv] at z
    have := h (tvY 6 v x) (tv_lt (by omega) (by omega) (by rw [e6]; exact hx)) (tv_eq (by omega) (by omega))
    omega
  rcases h1 with (((((z | z) | z) | z) | z) | z) | z
  · exact absurd z (no 0 (by omega))
  · exact absurd z (no 1 (by omega))
  · exact absurd z (no 2 (by omega))
  · exact absurd z (no 3 (by omega))
  · exact absurd z (no 4 (by omega))
  · exact List.elem_iff.mp z
  · obtain ⟨q, q1, q2⟩ := List.any_eq_true.mp z
    have q2 := of_decide_eq_true q2
    have hw := wkY_t
    unfold wkY at hw
    rw [List.all_eq_true] at hw
    have h2 := hw q q1
    simp only [Bool.and_eq_true, decide_eq_true_iff, List.all_eq_true] at h2
    rw [q2] at h2
    obtain ⟨a1, a2⟩ := word_eq q.2 x h2.1.2 hx
    have := h _ (by rw [e6]; exact a2) a1
    omega
/-- ranks of orders -/
noncomputable def uuY (n : Nat) (p : Nat → Nat) (i : Nat) : Nat := sm (fun v => @ite Nat (v < p i ∧ ∀ k, k < i → p k ≠ v) (Classical.propDecidable _) 1 0) n
noncomputable def rkY (n : Nat) (p : Nat → Nat) : Nat → Nat
  | 0 => 0
  | i + 1 => rkY n p i * (n - i) + uuY n p i
theorem uu_lt (hp' : prm n p) {i : Nat} (hi : i < n) : uuY n p i < n - i := by
  have h1 := sm_inj (P := fun _ => true) (Q := fun v => @decide (∃ k, k ≤ i ∧ p k = v) (Classical.propDecidable _)) (g := p) (n := i + 1) (m := n) (fun k hk _ => ⟨hp'.1 k (by omega), @decide_eq_true _ (Classical.propDecidable _) ⟨k, by omega, rfl⟩⟩) (fun a b ha hb _ _ e => hp'.2 a b (by omega) (by omega) e)
  have e1 : sm (fun x => if (fun _ : Nat => true) x = true then 1 else 0) (i + 1) = i + 1 := (sm_congr (G := fun _ => 1) (fun k _ => if_pos rfl)).trans (sm_one _)
  have h1 : i + 1 ≤ sm (fun v => if (fun v => @decide (∃ k, k ≤ i ∧ p k = v) (Classical.propDecidable _)) v = true then 1 else 0) n := Nat.le_trans (Nat.le_of_eq e1.symm) h1
  have h2 : uuY n p i + sm (fun v => if (fun v => @decide (∃ k, k ≤ i ∧ p k = v) (Classical.propDecidable _)) v = true then 1 else 0) n ≤ n := by
    unfold uuY
    rw [← sm_add]
    have := sm_le (F := fun v => @ite Nat (v < p i ∧ ∀ k, k < i → p k ≠ v) (Classical.propDecidable _) 1 0 + (if (fun v => @decide (∃ k, k ≤ i ∧ p k = v) (Classical.propDecidable _)) v = true then 1 else 0)) (G := fun _ => 1) (n := n) (fun v hv => by
      (try dsimp only)
      by_cases c : v < p i ∧ ∀ k, k < i → p k ≠ v
      · rw [if_pos c, if_neg (fun z => by
          obtain ⟨k, k1, k2⟩ := @of_decide_eq_true _ (Classical.propDecidable _) z
          by_cases d : k = i
          · subst d; omega
          · exact c.2 k (by omega) k2)]
        exact Nat.le_refl _
      · rw [if_neg c]
        split <;> omega)
    rw [sm_one] at this
    exact this
  omega
def fcY (n : Nat) : Nat → Nat
  | 0 => 1
  | i + 1 => fcY n i * (n - i)
theorem rk_lt (hp' : prm n p) : ∀ i, i ≤ n → rkY n p i < fcY n i
  | 0, _ => Nat.one_pos
  | i + 1, hi => by
    have h1 := rk_lt hp' i (by omega)
    have h2 := uu_lt hp' (show i < n by omega)
    show rkY n p i * (n - i) + uuY n p i < fcY n i * (n - i)
    have h3 : (rkY n p i + 1) * (n - i) ≤ fcY n i * (n - i) := Nat.mul_le_mul_right _ h1
    rw [Nat.add_mul, Nat.one_mul] at h3
    omega
theorem rk_lx (hp' : prm n p) (hq : prm n q) (h : lxl n p q) : rkY n p n < rkY n q n := by
  obtain ⟨d, d1, d2, d3⟩ := h
  have pre : ∀ i, i ≤ d → rkY n p i = rkY n q i := by
    intro i
    induction i with
    | zero => intro _; rfl
    | succ i ih =>
      intro hi
      show rkY n p i * (n - i) + uuY n p i = rkY n q i * (n - i) + uuY n q i
      rw [ih (by omega)]
      congr 1
      unfold uuY
      refine sm_congr (fun v _ => ?_)
      have e : (v < p i ∧ ∀ k, k < i → p k ≠ v) ↔ (v < q i ∧ ∀ k, k < i → q k ≠ v) := by
        rw [d2 i (by omega)]
        exact ⟨fun z => ⟨z.1, fun k hk => by rw [← d2 k (by omega)]; exact z.2 k hk⟩, fun z => ⟨z.1, fun k hk => by rw [d2 k (by omega)]; exact z.2 k hk⟩⟩
      by_cases c : v < p i ∧ ∀ k, k < i → p k ≠ v
      · rw [if_pos c, if_pos (e.mp c)]
      · rw [if_neg c, if_neg (fun z => c (e.mpr z))]
  have hat : uuY n p d < uuY n q d := by
    unfold uuY
    refine sm_lt (fun v _ => ?_) ⟨p d, hp'.1 d d1, ?_⟩
    · by_cases c : v < p d ∧ ∀ k, k < d → p k ≠ v
      · rw [if_pos c, if_pos ⟨by omega, fun k hk => by rw [← d2 k hk]; exact c.2 k hk⟩]
        exact Nat.le_refl _
      · rw [if_neg c]
        exact Nat.zero_le _
    · have hq' : ∀ k, k < d → q k ≠ p d := fun k hk e => by
        rw [← d2 k hk] at e
        have := hp'.2 k d (by omega) d1 e
        omega
      exact Nat.lt_of_lt_of_le (Nat.lt_of_le_of_lt (Nat.le_of_eq (if_neg (fun z => Nat.lt_irrefl _ z.1))) Nat.one_pos) (Nat.le_of_eq (if_pos ⟨d3, hq'⟩).symm)
  have post : ∀ i, d < i → i ≤ n → rkY n p i < rkY n q i := by
    intro i
    induction i with
    | zero => intro h; omega
    | succ i ih =>
      intro hi hin
      show rkY n p i * (n - i) + uuY n p i < rkY n q i * (n - i) + uuY n q i
      by_cases c : i = d
      · subst c
        rw [pre i (Nat.le_refl _)]
        omega
      · have h1 := ih (by omega) (by omega)
        have h2 := uu_lt hp' (show i < n by omega)
        have h3 : (rkY n p i + 1) * (n - i) ≤ rkY n q i * (n - i) := Nat.mul_le_mul_right _ h1
        rw [Nat.add_mul, Nat.one_mul] at h3
        omega
  exact post n d1 (Nat.le_refl _)
theorem rk_inj (hp' : prm n p) (hq : prm n q) (h : rkY n p n = rkY n q n) : ∀ k, k < n → p k = q k := lx_tot (fun z => by have := rk_lx hp' hq z; omega) (fun z => by have := rk_lx hq hp' z; omega)
theorem fc_720 (hn : n ≤ 6) : fcY n n ≤ 720 := by
  rcases (show n = 0 ∨ n = 1 ∨ n = 2 ∨ n = 3 ∨ n = 4 ∨ n = 5 ∨ n = 6 by omega) with h | h | h | h | h | h | h <;> subst h <;> decide
/-- at most 720 nets are of one kind -/
theorem kind_720 (hn : n ≤ 6) {L : List Nat} (hd : L.Nodup) (hL : ∀ y, y ∈ L → y < 2 ^ ppY n ∧ eqY n x y) : L.length ≤ 720 := by
  obtain ⟨g, hg⟩ : ∃ g : Nat → Nat → Nat, ∀ i, i < L.length → prm n (g i) ∧ agY n (g i) x (L.getD i 0) := Classical.axiomOfChoice (r := fun i (p : Nat → Nat) => i < L.length → prm n p ∧ agY n p x (L.getD i 0)) (fun i => by
    by_cases c : i < L.length
    · obtain ⟨p, p1, p2⟩ := (hL _ (gx_in c)).2
      exact ⟨p, fun _ => ⟨p1, p2⟩⟩
    · exact ⟨id, fun z => absurd z c⟩)
  have := sm_inj (P := fun _ => true) (Q := fun _ => true) (g := fun i => rkY n (g i) n) (n := L.length) (m := 720) (fun i hi _ => ⟨Nat.lt_of_lt_of_le (rk_lt (hg i hi).1 n (Nat.le_refl _)) (fc_720 hn), rfl⟩) (fun i j hi hj _ _ e => by
    have e2 := rk_inj (hg i hi).1 (hg j hj).1 e
    refine gx_inj hd hi hj (agY_one hn (hg i hi).1 (hL _ (gx_in hi)).1 (hL _ (gx_in hj)).1 (hg i hi).2 (fun a b ha hb hab => ?_))
    rw [e2 a ha, e2 b hb]
    exact (hg j hj).2 a b ha hb hab)
  have e1 : ∀ m, sm (fun x => if (fun _ : Nat => true) x = true then 1 else 0) m = m := fun m => (sm_congr (G := fun _ => 1) (fun k _ => if_pos rfl)).trans (sm_one _)
  rw [e1, e1] at this
  exact this
end SMK
