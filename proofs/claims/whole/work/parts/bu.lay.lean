/-! lay: gaps, lengths, orders of places -/
section LYP
variable {n w : Nat} {f : Nat → Int32} {P Q R : Nat → Nat}
def ady (a b : Nat) : Nat := (a - b) + (b - a)
theorem ady_c (a b : Nat) : ady a b = ady b a := by unfold ady; omega
def gap (w p q : Nat) : Nat := ady (p % w) (q % w) + ady (p / w) (q / w)
theorem gap_c (w p q : Nat) : gap w p q = gap w q p := by unfold gap; rw [ady_c (p % w), ady_c (p / w)]
theorem gap_le {p q : Nat} (hp' : p < 24) (hq : q < 24) : gap w p q ≤ 46 := by
  unfold gap ady
  have h1 := Nat.mod_le p w
  have h2 := Nat.mod_le q w
  have h3 := Nat.div_le_self p w
  have h4 := Nat.div_le_self q w
  generalize p % w = a at h1 ⊢
  generalize q % w = b at h2 ⊢
  generalize p / w = c at h3 ⊢
  generalize q / w = e at h4 ⊢
  omega
/-- how long all lines are together -/
def lnY (f : Nat → Int32) (n w : Nat) (P : Nat → Nat) : Nat := sm (fun a => sm (fun b => if a < b ∧ bt (f a) b = true then gap w (P a) (P b) else 0) n) n
/-- how far some lie from a place -/
def rsY (w : Nat) (P : Nat → Nat) (x : Nat) : List Nat → Nat
  | [] => 0
  | u :: l => gap w x (P u) + rsY w P x l
theorem rsY_app {x : Nat} : ∀ (l m : List Nat), rsY w P x (l ++ m) = rsY w P x l + rsY w P x m
  | [], m => by show _ = 0 + _; rw [Nat.zero_add]; rfl
  | u :: l, m => by
    show gap w x (P u) + rsY w P x (l ++ m) = gap w x (P u) + rsY w P x l + rsY w P x m
    rw [rsY_app l m]
    omega
theorem rsY_fil {x : Nat} (p : Nat → Bool) (c : Nat) : ∀ m, rsY w P x ((List.range' c m).filter p) = sm (fun u => if c ≤ u ∧ p u = true then gap w x (P u) else 0) (c + m)
  | 0 => by
    rw [Nat.add_zero, sm_congr (G := fun _ => 0) (fun k hk => by rw [if_neg (by omega)]), sm_0]
    rfl
  | m + 1 => by
    rw [List.range'_1_concat, List.filter_append, rsY_app, rsY_fil p c m]
    show _ = sm (fun u => if c ≤ u ∧ p u = true then gap w x (P u) else 0) (c + m) + (if c ≤ c + m ∧ p (c + m) = true then gap w x (P (c + m)) else 0)
    by_cases h : p (c + m) = true
    · rw [if_pos ⟨by omega, h⟩]
      simp [h, rsY]
    · rw [if_neg (fun q => h q.2)]
      simp [h, rsY]
theorem rsY_bl {x : Nat} {X : Int32} (hn : n ≤ 24) (hX : ∀ i, bt X i = true → i < n) : rsY w P x (bl X) = sm (fun u => if bt X u = true then gap w x (P u) else 0) n := by
  rw [bl_n (n := n) (by omega) hX, rsY_fil, Nat.zero_add]
  exact sm_congr (fun k _ => by
    by_cases c : bt X k = true
    · rw [if_pos c, if_pos ⟨Nat.zero_le _, c⟩]
    · rw [if_neg c, if_neg (fun z => c z.2)])
theorem rsY_cg {x : Nat} : ∀ (l : List Nat), (∀ u, u ∈ l → P u = Q u) → rsY w P x l = rsY w Q x l
  | [], _ => rfl
  | u :: l, h => by
    show gap w x (P u) + rsY w P x l = gap w x (Q u) + rsY w Q x l
    rw [h u List.mem_cons_self, rsY_cg l (fun v hv => h v (List.mem_cons_of_mem _ hv))]
theorem lnY_cg (h : ∀ k, k < n → P k = Q k) : lnY f n w P = lnY f n w Q := by
  unfold lnY
  exact sm_congr (fun a ha => sm_congr (fun b hb => by rw [h a ha, h b hb]))
theorem lnY_le (hn : n ≤ 24) (h : ∀ k, k < n → P k < n) : lnY f n w P ≤ 26496 := by
  unfold lnY
  have h1 : ∀ a, a < n → sm (fun b => if a < b ∧ bt (f a) b = true then gap w (P a) (P b) else 0) n ≤ 24 * 46 := fun a ha => by
    have := sm_le (F := fun b => if a < b ∧ bt (f a) b = true then gap w (P a) (P b) else 0) (G := fun _ => 46) (n := n) (fun b hb => by
      (try dsimp only)
      have := gap_le (w := w) (show P a < 24 by have := h a ha; omega) (show P b < 24 by have := h b hb; omega)
      split <;> omega)
    rw [sm_c] at this
    exact Nat.le_trans this (Nat.mul_le_mul_right 46 hn)
  have h2 := sm_le (F := fun a => sm (fun b => if a < b ∧ bt (f a) b = true then gap w (P a) (P b) else 0) n) (G := fun _ => 24 * 46) (n := n) h1
  rw [sm_c] at h2
  have : n * (24 * 46) ≤ 24 * (24 * 46) := Nat.mul_le_mul_right _ hn
  omega
/-- the class's length of what is laid so far -/
def lpY (f : Nat → Int32) (w : Nat) (P : Nat → Nat) (m : Nat) : Nat := sm (fun k => rsY w P (P k) (bl (f k &&& al k))) m
theorem low_in (hn : n ≤ 24) {k i : Nat} (hk : k < n) : bt (f k &&& al k) i = true ↔ bt (f k) i = true ∧ i < k := by
  rw [b_and_iff, al_in (by omega)]
theorem lpY_ln (hn : n ≤ 24) (hw : gw f n) : lpY f w P n = lnY f n w P := by
  unfold lpY lnY
  rw [sm_swap]
  refine sm_congr (fun k hk => ?_)
  rw [rsY_bl hn (fun i hi => by have := ((low_in hn hk).mp hi).2; omega)]
  refine sm_congr (fun u hu => ?_)
  by_cases c : u < k ∧ bt (f u) k = true
  · have h2 := (hw u (by omega) k c.2).2.2.2
    rw [if_pos c, if_pos ((low_in hn hk).mpr ⟨h2, c.1⟩), gap_c]
  · rw [if_neg c, if_neg (fun z => by
      have z := (low_in hn hk).mp z
      exact c ⟨z.2, (hw k (by omega) u z.1).2.2.2⟩)]
theorem lpY_cg (hn : n ≤ 24) {m : Nat} (hm : m ≤ n) (h : ∀ k, k < m → P k = Q k) : lpY f w P m = lpY f w Q m := by
  unfold lpY
  refine sm_congr (fun k hk => ?_)
  rw [h k hk]
  exact rsY_cg _ (fun u hu => h u (by have := ((low_in hn (show k < n by omega)).mp (bl_mem.mp hu)).2; omega))
theorem lpY_s {m : Nat} : lpY f w P (m + 1) = lpY f w P m + rsY w P (P m) (bl (f m &&& al m)) := rfl
theorem lpY_mono {m k : Nat} (h : m ≤ k) : lpY f w P m ≤ lpY f w P k := sm_le_n h
/-- orders of rows -/
def prm (n : Nat) (P : Nat → Nat) : Prop := (∀ k, k < n → P k < n) ∧ ∀ i j, i < n → j < n → P i = P j → i = j
def lxl (n : Nat) (P Q : Nat → Nat) : Prop := ∃ d, d < n ∧ (∀ k, k < d → P k = Q k) ∧ P d < Q d
theorem lx_asym (h : lxl n P Q) : ¬ lxl n Q P := by
  rintro ⟨e, e1, e2, e3⟩
  obtain ⟨d, d1, d2, d3⟩ := h
  rcases Nat.lt_trichotomy d e with z | z | z
  · have := e2 d z; omega
  · subst z; omega
  · have := d2 e z; omega
theorem lx_trans (h1 : lxl n P Q) (h2 : lxl n Q R) : lxl n P R := by
  obtain ⟨d, d1, d2, d3⟩ := h1
  obtain ⟨e, e1, e2, e3⟩ := h2
  rcases Nat.lt_trichotomy d e with z | z | z
  · exact ⟨d, d1, fun k hk => (d2 k hk).trans (e2 k (by omega)), by rw [← e2 d z]; exact d3⟩
  · subst z
    exact ⟨d, d1, fun k hk => (d2 k hk).trans (e2 k hk), by omega⟩
  · exact ⟨e, e1, fun k hk => (d2 k (by omega)).trans (e2 k hk), by rw [d2 e z]; exact e3⟩
theorem lx_tot (h1 : ¬ lxl n P Q) (h2 : ¬ lxl n Q P) : ∀ k, k < n → P k = Q k := by
  intro k
  induction k using Nat.strongRecOn with
  | ind k ih =>
    intro hk
    apply Classical.byContradiction
    intro c
    rcases Nat.lt_or_gt_of_ne c with z | z
    · exact h1 ⟨k, hk, fun j hj => ih j hj (by omega), z⟩
    · exact h2 ⟨k, hk, fun j hj => (ih j hj (by omega)).symm, z⟩
theorem prm_cg (h : ∀ k, k < n → P k = Q k) (hp' : prm n P) : prm n Q := ⟨fun k hk => by rw [← h k hk]; exact hp'.1 k hk, fun i j hi hj e => hp'.2 i j hi hj (by rw [h i hi, h j hj]; exact e)⟩
theorem prm_id : prm n (fun k => k) := ⟨fun _ h => h, fun _ _ _ _ h => h⟩
theorem prm_sur (h : prm n P) {a : Nat} (ha : a < n) : ∃ k, k < n ∧ P k = a := by
  apply Classical.byContradiction
  intro c
  have := sm_inj (P := fun _ => true) (Q := fun y => !decide (a = y)) (g := P) (n := n) (m := n) (fun i hi _ => ⟨h.1 i hi, by
    rw [decide_eq_false (fun e => c ⟨i, hi, e.symm⟩)]
    rfl⟩) (fun i j hi hj _ _ e => h.2 i j hi hj e)
  have e1 : sm (fun x => if (fun _ : Nat => true) x = true then 1 else 0) n = n := (sm_congr (G := fun _ => 1) (fun k _ => if_pos rfl)).trans (sm_one _)
  have e2 : sm (fun y => if (fun y => !decide (a = y)) y = true then 1 else 0) n + sm (fun k => if a = k then 1 else 0) n = n := by
    rw [← sm_add]
    refine (sm_congr (G := fun _ => 1) (fun k _ => ?_)).trans (sm_one _)
    by_cases d : a = k
    · rw [if_pos d]
      simp [d]
    · rw [if_neg d]
      simp [d]
  rw [sm_point ha] at e2
  rw [e1] at this
  have this : n ≤ sm (fun y => if (fun y => !decide (a = y)) y = true then 1 else 0) n := this
  omega
/-- the first of the shortest -/
def lbY (f : Nat → Int32) (n w : Nat) (P : Nat → Nat) : Prop := prm n P ∧ ∀ Q, prm n Q → lnY f n w P ≤ lnY f n w Q ∧ (lnY f n w Q = lnY f n w P → ¬ lxl n Q P)
theorem lbY_one (h1 : lbY f n w P) (h2 : lbY f n w Q) : ∀ k, k < n → P k = Q k := by
  have a1 := (h1.2 Q h2.1).1
  have a2 := (h2.2 P h1.1).1
  exact lx_tot ((h2.2 P h1.1).2 (by omega)) ((h1.2 Q h2.1).2 (by omega))
/-- two change places -/
def swp (P : Nat → Nat) (i j : Nat) : Nat → Nat := fun k => if k = i then P j else if k = j then P i else P k
theorem swp_i (i j : Nat) : swp P i j i = P j := if_pos rfl
theorem swp_j (i j : Nat) : swp P i j j = P i := by
  unfold swp
  by_cases c : j = i
  · rw [if_pos c, c]
  · rw [if_neg c, if_pos rfl]
theorem swp_n {i j k : Nat} (h1 : k ≠ i) (h2 : k ≠ j) : swp P i j k = P k := by
  unfold swp
  rw [if_neg h1, if_neg h2]
theorem swp_prm {i j : Nat} (h : prm n P) (hi : i < n) (hj : j < n) : prm n (swp P i j) := by
  have key : ∀ k, swp P i j k = P (if k = i then j else if k = j then i else k) := fun k => by
    unfold swp
    by_cases c : k = i
    · rw [if_pos c, if_pos c]
    · rw [if_neg c, if_neg c]
      by_cases d : k = j
      · rw [if_pos d, if_pos d]
      · rw [if_neg d, if_neg d]
  refine ⟨fun k hk => ?_, fun a b ha hb e => ?_⟩
  · rw [key k]
    exact h.1 _ (by split; exact hj; split; exact hi; exact hk)
  · rw [key a, key b] at e
    have := h.2 _ _ (by split; exact hj; split; exact hi; exact ha) (by split; exact hj; split; exact hi; exact hb) e
    split at this <;> split at this <;> (try split at this) <;> (try split at this) <;> omega
/-- the next order of rows: nothing lies between -/
theorem next_ok {i j : Nat} {P' : Nat → Nat} (hP : prm n P) (hP' : prm n P') (hij : i < j) (hj : j < n) (hdec : ∀ a b, i < a → a < b → b < n → P b < P a) (h1 : P i < P j) (h2 : ∀ k, j < k → k < n → P k < P i) (e1 : ∀ k, k < i → P' k = P k) (e2 : P' i = P j) (hinc : ∀ a b, i < a → a < b → b < n → P' a < P' b) : lxl n P P' ∧ ∀ Q, prm n Q → lxl n P Q → ¬ lxl n Q P' := by
  refine ⟨⟨i, by omega, fun k hk => (e1 k hk).symm, by rw [e2]; exact h1⟩, fun Q hQ hPQ hQP => ?_⟩
  obtain ⟨d, d1, d2, d3⟩ := hPQ
  obtain ⟨k, k1, k2⟩ := prm_sur hP (hQ.1 d d1)
  have hkd : d ≤ k := by
    rcases Nat.lt_or_ge k d with z | z
    · have := d2 k z
      have := hQ.2 k d (by omega) d1 (by omega)
      omega
    · exact z
  have hkd2 : d ≠ k := fun z => by subst z; omega
  rcases Nat.lt_trichotomy d i with z | z | z
  · exact lx_asym hQP ⟨d, d1, fun k hk => by rw [e1 k (by omega)]; exact d2 k hk, by rw [e1 d z]; exact d3⟩
  · subst z
    have hkj : k ≤ j := by
      rcases Nat.lt_or_ge j k with y | y
      · have := h2 k y k1; omega
      · exact y
    have hge : P j ≤ P k := by
      by_cases y : k = j
      · rw [y]; exact Nat.le_refl _
      · exact Nat.le_of_lt (hdec k j (by omega) (by omega) hj)
    rcases Nat.lt_or_ge (P' d) (Q d) with y | y
    · exact lx_asym hQP ⟨d, d1, fun k hk => by rw [e1 k hk]; exact d2 k hk, y⟩
    · have hQd : Q d = P' d := by omega
      obtain ⟨c, c1, c2, c3⟩ := hQP
      have hcd : d < c := by
        rcases Nat.lt_trichotomy c d with x | x | x
        · have := d2 c x; have := e1 c x; omega
        · subst x; omega
        · exact x
      obtain ⟨m, m1, m2⟩ := prm_sur hP' (hQ.1 c c1)
      have hmc : c ≤ m := by
        rcases Nat.lt_or_ge m c with x | x
        · have := c2 m x
          have := hQ.2 m c (by omega) c1 (by omega)
          omega
        · exact x
      have hmc2 : c ≠ m := fun x => by subst x; omega
      have := hinc c m hcd (by omega) m1
      omega
  · have := hdec d k z (by omega) k1
    omega
theorem last_ok (hP : prm n P) (hdec : ∀ a b, a < b → b < n → P b < P a) {Q : Nat → Nat} (hQ : prm n Q) : ¬ lxl n P Q := by
  rintro ⟨d, d1, d2, d3⟩
  obtain ⟨k, k1, k2⟩ := prm_sur hP (hQ.1 d d1)
  have hkd : d ≤ k := by
    rcases Nat.lt_or_ge k d with z | z
    · have := d2 k z
      have := hQ.2 k d (by omega) d1 (by omega)
      omega
    · exact z
  have hkd2 : d ≠ k := fun z => by subst z; omega
  have := hdec d k (by omega) k1
  omega
/-- orders as numbers -/
def cdY (P : Nat → Nat) : Nat → Nat
  | 0 => 0
  | m + 1 => cdY P m * 8 + P m
theorem cdY_lt (h : ∀ k, k < n → P k < 8) : ∀ m, m ≤ n → cdY P m < 8 ^ m
  | 0, _ => by show 0 < 8 ^ 0; decide
  | m + 1, hm => by
    have := cdY_lt h m (by omega)
    have h2 := h m (by omega)
    show cdY P m * 8 + P m < 8 ^ m * 8
    omega
theorem cdY_lx (hP : ∀ k, k < n → P k < 8) (h : lxl n P Q) : cdY P n < cdY Q n := by
  obtain ⟨d, d1, d2, d3⟩ := h
  have e : ∀ m, m ≤ d → cdY P m = cdY Q m := by
    intro m
    induction m with
    | zero => intro _; rfl
    | succ m ih =>
      intro hm
      show cdY P m * 8 + P m = cdY Q m * 8 + Q m
      rw [ih (by omega), d2 m (by omega)]
  have g : ∀ m, d < m → m ≤ n → cdY P m < cdY Q m := by
    intro m
    induction m with
    | zero => intro h; omega
    | succ m ih =>
      intro hm hn
      show cdY P m * 8 + P m < cdY Q m * 8 + Q m
      by_cases c : m = d
      · subst c
        rw [e m (Nat.le_refl _)]
        omega
      · have := ih (by omega) (by omega)
        have := hP m (by omega)
        omega
  exact g n d1 (Nat.le_refl _)
/-- sums that differ at two places -/
theorem sm_two {F G : Nat → Nat} {a b : Nat} : ∀ {n : Nat}, a < b → b < n → (∀ k, k < n → k ≠ a → k ≠ b → F k = G k) → sm F n + G a + G b = sm G n + F a + F b := by
  intro n hab hb h
  have h1 := sm_upd (F := fun k => if k = a then 0 else F k) (G := F) (c := F a) (k0 := a) (n := n) (by omega) (fun k _ hk => if_neg hk) (by (try dsimp only); rw [if_pos rfl, Nat.zero_add])
  have h2 := sm_upd (F := fun k => if k = b then 0 else if k = a then 0 else F k) (G := fun k => if k = a then 0 else F k) (c := F b) (k0 := b) (n := n) hb (fun k _ hk => if_neg hk) (by (try dsimp only); rw [if_pos rfl, Nat.zero_add, if_neg (by omega)])
  have h3 := sm_upd (F := fun k => if k = a then 0 else G k) (G := G) (c := G a) (k0 := a) (n := n) (by omega) (fun k _ hk => if_neg hk) (by (try dsimp only); rw [if_pos rfl, Nat.zero_add])
  have h4 := sm_upd (F := fun k => if k = b then 0 else if k = a then 0 else G k) (G := fun k => if k = a then 0 else G k) (c := G b) (k0 := b) (n := n) hb (fun k _ hk => if_neg hk) (by (try dsimp only); rw [if_pos rfl, Nat.zero_add, if_neg (by omega)])
  have h5 : sm (fun k => if k = b then 0 else if k = a then 0 else F k) n = sm (fun k => if k = b then 0 else if k = a then 0 else G k) n := sm_congr (fun k hk => by
    by_cases c : k = b
    · rw [if_pos c, if_pos c]
    · by_cases d : k = a
      · rw [if_neg c, if_neg c, if_pos d, if_pos d]
      · rw [if_neg c, if_neg c, if_neg d, if_neg d, h k hk d c])
  omega
/-- every line twice -/
def twY (f : Nat → Int32) (n w : Nat) (P : Nat → Nat) : Nat := sm (fun u => sm (fun v => if bt (f u) v = true then gap w (P u) (P v) else 0) n) n
theorem twY_ln (hn : n ≤ 24) (hw : gw f n) : twY f n w P = lnY f n w P + lnY f n w P := by
  have e1 : twY f n w P = lnY f n w P + sm (fun u => sm (fun v => if v < u ∧ bt (f u) v = true then gap w (P u) (P v) else 0) n) n := by
    unfold twY lnY
    rw [← sm_add]
    refine sm_congr (fun u hu => ?_)
    rw [← sm_add]
    refine sm_congr (fun v hv => ?_)
    by_cases c : bt (f u) v = true
    · have huv := (hw u (by omega) v c).2.2.1
      rw [if_pos c]
      rcases Nat.lt_or_gt_of_ne huv with z | z
      · rw [if_pos ⟨z, c⟩, if_neg (by omega), Nat.add_zero]
      · rw [if_neg (by omega), if_pos ⟨z, c⟩, Nat.zero_add]
    · rw [if_neg c, if_neg (fun z => c z.2), if_neg (fun z => c z.2)]
  rw [e1]
  congr 1
  rw [sm_swap]
  unfold lnY
  refine sm_congr (fun v hv => sm_congr (fun u hu => ?_))
  by_cases c : v < u ∧ bt (f u) v = true
  · rw [if_pos c, if_pos ⟨c.1, (hw u (by omega) v c.2).2.2.2⟩, gap_c]
  · rw [if_neg c, if_neg (fun z => c ⟨z.1, (hw v (by omega) u z.2).2.2.2⟩)]
/-- what a change of two places gains -/
theorem gainY (hn : n ≤ 24) (hw : gw f n) {a b : Nat} (hab : a < b) (hb : b < n) : lnY f n w P + rsY w P (P b) (bl (f a &&& (lf_shl 1 (nI b) ^^^ (-1)))) + rsY w P (P a) (bl (f b &&& (lf_shl 1 (nI a) ^^^ (-1)))) = lnY f n w (swp P a b) + rsY w P (P a) (bl (f a &&& (lf_shl 1 (nI b) ^^^ (-1)))) + rsY w P (P b) (bl (f b &&& (lf_shl 1 (nI a) ^^^ (-1)))) := by
  have hA : ∀ i, bt (f a &&& (lf_shl 1 (nI b) ^^^ (-1))) i = true ↔ bt (f a) i = true ∧ i ≠ b := fun i => by rw [b_andn, b_one (by omega)]
  have hB : ∀ i, bt (f b &&& (lf_shl 1 (nI a) ^^^ (-1))) i = true ↔ bt (f b) i = true ∧ i ≠ a := fun i => by rw [b_andn, b_one (by omega)]
  have inA : ∀ i, bt (f a &&& (lf_shl 1 (nI b) ^^^ (-1))) i = true → i < n := fun i hi => (hw a (by omega) i ((hA i).mp hi).1).2.1
  have inB : ∀ i, bt (f b &&& (lf_shl 1 (nI a) ^^^ (-1))) i = true → i < n := fun i hi => (hw b (by omega) i ((hB i).mp hi).1).2.1
  have sA : ∀ x, rsY w P x (bl (f a &&& (lf_shl 1 (nI b) ^^^ (-1)))) = sm (fun u => if bt (f a) u = true ∧ u ≠ b then gap w x (P u) else 0) n := fun x => by
    rw [rsY_bl hn inA]
    exact sm_congr (fun u _ => by
      by_cases c : bt (f a) u = true ∧ u ≠ b
      · rw [if_pos c, if_pos ((hA u).mpr c)]
      · rw [if_neg c, if_neg (fun z => c ((hA u).mp z))])
  have sB : ∀ x, rsY w P x (bl (f b &&& (lf_shl 1 (nI a) ^^^ (-1)))) = sm (fun u => if bt (f b) u = true ∧ u ≠ a then gap w x (P u) else 0) n := fun x => by
    rw [rsY_bl hn inB]
    exact sm_congr (fun u _ => by
      by_cases c : bt (f b) u = true ∧ u ≠ a
      · rw [if_pos c, if_pos ((hB u).mpr c)]
      · rw [if_neg c, if_neg (fun z => c ((hB u).mp z))])
  have ha : a < n := by omega
  have haa : ¬ bt (f a) a = true := fun z => (hw a (by omega) a z).2.2.1 rfl
  have hbb : ¬ bt (f b) b = true := fun z => (hw b (by omega) b z).2.2.1 rfl
  have hsy : ∀ u v, u < n → v < n → (bt (f u) v = true ↔ bt (f v) u = true) := fun u v hu hv => ⟨fun z => (hw u (by omega) v z).2.2.2, fun z => (hw v (by omega) u z).2.2.2⟩
  -- rows that touch neither
  have row : ∀ u, u < n → u ≠ a → u ≠ b → sm (fun v => if bt (f u) v = true then gap w (swp P a b u) (swp P a b v) else 0) n + (if bt (f a) u = true ∧ u ≠ b then gap w (P a) (P u) else 0) + (if bt (f b) u = true ∧ u ≠ a then gap w (P b) (P u) else 0) = sm (fun v => if bt (f u) v = true then gap w (P u) (P v) else 0) n + (if bt (f a) u = true ∧ u ≠ b then gap w (P b) (P u) else 0) + (if bt (f b) u = true ∧ u ≠ a then gap w (P a) (P u) else 0) := by
    intro u hu h1 h2
    have := sm_two (F := fun v => if bt (f u) v = true then gap w (swp P a b u) (swp P a b v) else 0) (G := fun v => if bt (f u) v = true then gap w (P u) (P v) else 0) (n := n) hab hb (fun k _ k1 k2 => by (try dsimp only); rw [swp_n k1 k2, swp_n h1 h2])
    (try dsimp only at this)
    rw [swp_i, swp_j, swp_n h1 h2, gap_c w (P u) (P a), gap_c w (P u) (P b)] at this
    have c1 : (if bt (f a) u = true ∧ u ≠ b then gap w (P a) (P u) else 0) = (if bt (f u) a = true then gap w (P a) (P u) else 0) := by
      by_cases c : bt (f a) u = true
      · rw [if_pos ⟨c, h2⟩, if_pos ((hsy a u ha hu).mp c)]
      · rw [if_neg (fun z => c z.1), if_neg (fun z => c ((hsy a u ha hu).mpr z))]
    have c2 : (if bt (f b) u = true ∧ u ≠ a then gap w (P b) (P u) else 0) = (if bt (f u) b = true then gap w (P b) (P u) else 0) := by
      by_cases c : bt (f b) u = true
      · rw [if_pos ⟨c, h1⟩, if_pos ((hsy b u hb hu).mp c)]
      · rw [if_neg (fun z => c z.1), if_neg (fun z => c ((hsy b u hb hu).mpr z))]
    have c3 : (if bt (f a) u = true ∧ u ≠ b then gap w (P b) (P u) else 0) = (if bt (f u) a = true then gap w (P b) (P u) else 0) := by
      by_cases c : bt (f a) u = true
      · rw [if_pos ⟨c, h2⟩, if_pos ((hsy a u ha hu).mp c)]
      · rw [if_neg (fun z => c z.1), if_neg (fun z => c ((hsy a u ha hu).mpr z))]
    have c4 : (if bt (f b) u = true ∧ u ≠ a then gap w (P a) (P u) else 0) = (if bt (f u) b = true then gap w (P a) (P u) else 0) := by
      by_cases c : bt (f b) u = true
      · rw [if_pos ⟨c, h1⟩, if_pos ((hsy b u hb hu).mp c)]
      · rw [if_neg (fun z => c z.1), if_neg (fun z => c ((hsy b u hb hu).mpr z))]
    rw [c1, c2, c3, c4, swp_n h1 h2]
    exact this
  have rowA : sm (fun v => if bt (f a) v = true then gap w (swp P a b a) (swp P a b v) else 0) n + sm (fun u => if bt (f a) u = true ∧ u ≠ b then gap w (P a) (P u) else 0) n = sm (fun v => if bt (f a) v = true then gap w (P a) (P v) else 0) n + sm (fun u => if bt (f a) u = true ∧ u ≠ b then gap w (P b) (P u) else 0) n := by
    rw [← sm_add, ← sm_add]
    refine sm_congr (fun v hv => ?_)
    rw [swp_i]
    by_cases c : bt (f a) v = true
    · have hva : v ≠ a := fun z => haa (by rw [z] at c; exact c)
      rw [if_pos c, if_pos c]
      by_cases d : v = b
      · rw [if_neg (fun z => z.2 d), if_neg (fun z => z.2 d), d, swp_j, gap_c]
      · rw [if_pos ⟨c, d⟩, if_pos ⟨c, d⟩, swp_n hva d, Nat.add_comm]
    · rw [if_neg c, if_neg c, if_neg (fun z => c z.1), if_neg (fun z => c z.1)]
  have rowB : sm (fun v => if bt (f b) v = true then gap w (swp P a b b) (swp P a b v) else 0) n + sm (fun u => if bt (f b) u = true ∧ u ≠ a then gap w (P b) (P u) else 0) n = sm (fun v => if bt (f b) v = true then gap w (P b) (P v) else 0) n + sm (fun u => if bt (f b) u = true ∧ u ≠ a then gap w (P a) (P u) else 0) n := by
    rw [← sm_add, ← sm_add]
    refine sm_congr (fun v hv => ?_)
    rw [swp_j]
    by_cases c : bt (f b) v = true
    · have hvb : v ≠ b := fun z => hbb (by rw [z] at c; exact c)
      rw [if_pos c, if_pos c]
      by_cases d : v = a
      · rw [if_neg (fun z => z.2 d), if_neg (fun z => z.2 d), d, swp_i, gap_c]
      · rw [if_pos ⟨c, d⟩, if_pos ⟨c, d⟩, swp_n d hvb, Nat.add_comm]
    · rw [if_neg c, if_neg c, if_neg (fun z => c z.1), if_neg (fun z => c z.1)]
  have z1 : ∀ x, (if bt (f a) a = true ∧ a ≠ b then gap w x (P a) else 0) = 0 := fun x => if_neg (fun z => haa z.1)
  have z2 : ∀ x, (if bt (f b) a = true ∧ a ≠ a then gap w x (P a) else 0) = 0 := fun x => if_neg (fun z => z.2 rfl)
  have z3 : ∀ x, (if bt (f a) b = true ∧ b ≠ b then gap w x (P b) else 0) = 0 := fun x => if_neg (fun z => z.2 rfl)
  have z4 : ∀ x, (if bt (f b) b = true ∧ b ≠ a then gap w x (P b) else 0) = 0 := fun x => if_neg (fun z => hbb z.1)
  have all := sm_two (F := fun u => sm (fun v => if bt (f u) v = true then gap w (swp P a b u) (swp P a b v) else 0) n + (if bt (f a) u = true ∧ u ≠ b then gap w (P a) (P u) else 0) + (if bt (f b) u = true ∧ u ≠ a then gap w (P b) (P u) else 0)) (G := fun u => sm (fun v => if bt (f u) v = true then gap w (P u) (P v) else 0) n + (if bt (f a) u = true ∧ u ≠ b then gap w (P b) (P u) else 0) + (if bt (f b) u = true ∧ u ≠ a then gap w (P a) (P u) else 0)) (n := n) hab hb (fun u hu h1 h2 => row u hu h1 h2)
  (try dsimp only at all)
  rw [z1, z1, z2, z2, z3, z3, z4, z4] at all
  rw [sm_add, sm_add, sm_add, sm_add] at all
  have t1 := twY_ln (w := w) (P := P) hn hw
  have t2 := twY_ln (w := w) (P := swp P a b) hn hw
  unfold twY at t1 t2
  rw [sA, sA, sB, sB]
  omega
end LYP
