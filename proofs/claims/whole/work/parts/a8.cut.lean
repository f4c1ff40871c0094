/-! a cut of knots tells of every knot that it does not touch -/
section KC
variable {n a b : Nat} {f : Nat → Int32} {S : Nat → Bool}
def bar (u : Nat) : Nat := if u < 24 then u + 24 else u - 24
theorem sm_bar {F : Nat → Nat} : sm (fun u => F (bar u)) 48 = sm F 48 := by
  have e1 : sm (fun u => F (bar u)) (24 + 24) = sm (fun u => F (bar u)) 24 + sm (fun b => F (bar (24 + b))) 24 := sm_split
  have e2 : sm F (24 + 24) = sm F 24 + sm (fun b => F (24 + b)) 24 := sm_split
  have e3 : sm (fun u => F (bar u)) 24 = sm (fun b => F (24 + b)) 24 := sm_congr (fun u hu => by
    unfold bar
    rw [if_pos hu, Nat.add_comm])
  have e4 : sm (fun b => F (bar (24 + b))) 24 = sm F 24 := sm_congr (fun u hu => by
    unfold bar
    rw [if_neg (by omega), show 24 + u - 24 = u by omega])
  show sm (fun u => F (bar u)) (24 + 24) = sm F (24 + 24)
  omega
theorem rK_bar (hn : n ≤ 24) (hw : gw f n) {u v : Nat} (hu : u < 48) (hv : v < 48) : rK f n u v = rK f n (bar v) (bar u) := by
  have h1 := rK_le (f := f) (n := n) u v
  have h2 := rK_le (f := f) (n := n) (bar v) (bar u)
  have i1 : rK f n u v ≠ 0 → rK f n (bar v) (bar u) ≠ 0 := by
    intro q
    rcases rK_ne q with p | p
    · have e1 : bar v = u := by
        unfold bar
        rw [if_neg (by omega)]
        omega
      have e2 : bar u = u + 24 := by
        unfold bar
        rw [if_pos (by omega)]
      rw [e1, e2]
      unfold rK
      rw [if_pos ⟨p.1, rfl⟩]
      decide
    · have hs := (hw (u - 24) (by omega) v p.2.2.2).2.2.2
      have e1 : bar v = v + 24 := by
        unfold bar
        rw [if_pos (by omega)]
      have e2 : bar u = u - 24 := by
        unfold bar
        rw [if_neg (by omega)]
      rw [e1, e2]
      unfold rK
      rw [if_neg (by omega), if_pos ⟨by omega, by omega, by omega, by rw [show v + 24 - 24 = v by omega]; exact hs⟩]
      decide
  have i2 : rK f n (bar v) (bar u) ≠ 0 → rK f n u v ≠ 0 := by
    intro q
    rcases rK_ne q with p | p
    · unfold bar at p
      by_cases c : v < 24
      · rw [if_pos c] at p; omega
      · rw [if_neg c] at p
        by_cases d : u < 24
        · rw [if_pos d] at p
          unfold rK
          rw [if_pos ⟨by omega, by omega⟩]
          decide
        · rw [if_neg d] at p; omega
    · unfold bar at p
      by_cases c : v < 24
      · rw [if_pos c, show v + 24 - 24 = v by omega] at p
        by_cases d : u < 24
        · rw [if_pos d] at p; omega
        · rw [if_neg d] at p
          have hs := (hw v (by omega) _ p.2.2.2).2.2.2
          unfold rK
          rw [if_neg (by omega), if_pos ⟨by omega, by omega, by omega, hs⟩]
          decide
      · rw [if_neg c] at p; omega
  omega
def Sb (S : Nat → Bool) : Nat → Bool := fun u => !S (bar u)
theorem Ph_bar (hn : n ≤ 24) (hw : gw f n) : Ph 48 (Sb S) (rK f n) = Ph 48 S (rK f n) := by
  have e1 : Ph 48 (Sb S) (rK f n) = sm (fun u => sm (fun v => if S (bar v) = true ∧ ¬ S (bar u) = true then rK f n (bar v) (bar u) else 0) 48) 48 := by
    refine sm_congr (fun u hu => sm_congr (fun v hv => ?_))
    have c : (Sb S u = true ∧ ¬ Sb S v = true) ↔ (S (bar v) = true ∧ ¬ S (bar u) = true) := by
      unfold Sb
      cases S (bar u) <;> cases S (bar v) <;> decide
    by_cases d : S (bar v) = true ∧ ¬ S (bar u) = true
    · rw [if_pos d, if_pos (c.mpr d), rK_bar hn hw hu hv]
    · rw [if_neg d, if_neg (fun q => d (c.mp q))]
  have e2 : sm (fun u => sm (fun v => if S (bar v) = true ∧ ¬ S (bar u) = true then rK f n (bar v) (bar u) else 0) 48) 48 = sm (fun u => sm (fun v => if S v = true ∧ ¬ S (bar u) = true then rK f n v (bar u) else 0) 48) 48 := sm_congr (fun u _ => sm_bar (F := fun v => if S v = true ∧ ¬ S (bar u) = true then rK f n v (bar u) else 0))
  have e3 : sm (fun u => sm (fun v => if S v = true ∧ ¬ S (bar u) = true then rK f n v (bar u) else 0) 48) 48 = sm (fun u => sm (fun v => if S v = true ∧ ¬ S u = true then rK f n v u else 0) 48) 48 := sm_bar (F := fun u => sm (fun v => if S v = true ∧ ¬ S u = true then rK f n v u else 0) 48)
  rw [e1, e2, e3]
  exact sm_swap (F := fun u v => if S v = true ∧ ¬ S u = true then rK f n v u else 0)
theorem sm_ge {F : Nat → Nat} {k : Nat} : ∀ {m : Nat}, k < m → F k ≤ sm F m
  | 0, h => absurd h (Nat.not_lt_zero _)
  | m + 1, h => by
    show F k ≤ sm F m + F m
    by_cases c : k = m
    · rw [c]; omega
    · have := sm_ge (F := F) (k := k) (m := m) (by omega)
      omega
theorem sm_pick {c v n : Nat} (h : c < n) : sm (fun z => if c = z then v else 0) n = v := by
  have := sm_upd (F := fun _ => 0) (G := fun k => if c = k then v else 0) (c := v) (k0 := c) h (fun k _ hk => by rw [if_neg (fun q => hk q.symm)]) (by rw [if_pos rfl]; omega)
  rw [sm_0] at this
  omega
/-- a line that crosses the cut is charged to one of its ends, never to a or b -/
def chg (a b x y : Nat) : Nat := if y = a ∨ y = b then x else y
def crs (f : Nat → Int32) (S : Nat → Bool) (x y : Nat) : Nat := if S (24 + x) = true ∧ ¬ S y = true ∧ bt (f x) y = true then 1 else 0
def tch (f : Nat → Int32) (S : Nat → Bool) (n a b z : Nat) : Nat := (if S z = true ∧ ¬ S (z + 24) = true then 1 else 0) + sm (fun x => sm (fun y => if chg a b x y = z then crs f S x y else 0) n) n
theorem tch_sm (hn : n ≤ 24) : sm (tch f S n a b) n ≤ Ph 48 S (rK f n) := by
  have e1 : sm (tch f S n a b) n = sm (fun z => if S z = true ∧ ¬ S (z + 24) = true then 1 else 0) n + sm (fun z => sm (fun x => sm (fun y => if chg a b x y = z then crs f S x y else 0) n) n) n := sm_add
  have e2 : sm (fun z => sm (fun x => sm (fun y => if chg a b x y = z then crs f S x y else 0) n) n) n = sm (fun x => sm (fun y => crs f S x y) n) n := by
    rw [sm_swap (F := fun z x => sm (fun y => if chg a b x y = z then crs f S x y else 0) n)]
    refine sm_congr (fun x hx => ?_)
    rw [sm_swap (F := fun z y => if chg a b x y = z then crs f S x y else 0)]
    refine sm_congr (fun y hy => ?_)
    exact sm_pick (by unfold chg; split <;> omega)
  have e3 : Ph 48 S (rK f n) = sm (fun x => sm (fun y => if S x = true ∧ ¬ S y = true then rK f n x y else 0) 48) 24 + sm (fun x => sm (fun y => if S (24 + x) = true ∧ ¬ S y = true then rK f n (24 + x) y else 0) 48) 24 := sm_split (x := 24) (m := 24)
  have e4 : sm (fun z => if S z = true ∧ ¬ S (z + 24) = true then 1 else 0) n ≤ sm (fun x => sm (fun y => if S x = true ∧ ¬ S y = true then rK f n x y else 0) 48) 24 := by
    refine Nat.le_trans (sm_le (fun z hz => ?_)) (sm_le_n hn)
    have h := sm_ge (F := fun y => if S z = true ∧ ¬ S y = true then rK f n z y else 0) (k := z + 24) (m := 48) (by omega)
    refine Nat.le_trans ?_ h
    have hr : rK f n z (z + 24) = 1 := by
      unfold rK
      rw [if_pos ⟨hz, rfl⟩]
    show _ ≤ if S z = true ∧ ¬ S (z + 24) = true then rK f n z (z + 24) else 0
    rw [hr]
    exact Nat.le_refl _
  have e5 : sm (fun x => sm (fun y => crs f S x y) n) n ≤ sm (fun x => sm (fun y => if S (24 + x) = true ∧ ¬ S y = true then rK f n (24 + x) y else 0) 48) 24 := by
    refine Nat.le_trans (sm_le (fun x hx => ?_)) (sm_le_n hn)
    refine Nat.le_trans (sm_le (fun y hy => ?_)) (sm_le_n (show n ≤ 48 by omega))
    unfold crs
    by_cases c : S (24 + x) = true ∧ ¬ S y = true ∧ bt (f x) y = true
    · have hr : rK f n (24 + x) y = 1 := by
        unfold rK
        rw [if_neg (by omega), if_pos ⟨by omega, by omega, hy, by rw [show 24 + x - 24 = x by omega]; exact c.2.2⟩]
      rw [if_pos c, if_pos ⟨c.1, c.2.1⟩, hr]
      exact Nat.le_refl _
    · rw [if_neg c]
      exact Nat.zero_le _
  omega
theorem tch_0 {z : Nat} (h : tch f S n a b z = 0) : ¬ (S z = true ∧ ¬ S (z + 24) = true) ∧ ∀ x y, x < n → y < n → chg a b x y = z → ¬ (S (24 + x) = true ∧ ¬ S y = true ∧ bt (f x) y = true) := by
  unfold tch at h
  constructor
  · intro c
    rw [if_pos c] at h
    omega
  · intro x y hx hy hc c
    have h2 : sm (fun x => sm (fun y => if chg a b x y = z then crs f S x y else 0) n) n = 0 := by omega
    have h3 := sm_zero (sm_zero h2 x hx) y hy
    rw [if_pos hc] at h3
    unfold crs at h3
    rw [if_pos c] at h3
    cases h3
def mk2 (f : Nat → Int32) (n a b : Nat) : Nat := fl 48 (24 + a) b 9 (rK f n)
theorem kcut {F : Nat} (hn : n ≤ 24) (hw : gw f n) (hd : ∀ a, a < n → i_pc (f a) ≤ 8) (ha : a < n) (hb : b < n) (hab : a ≠ b) (hno : ¬ bt (f a) b = true) (hF : mk2 f n a b < F) (hFn : F ≤ n) : ∃ v w, v < w ∧ w < n ∧ v < F ∧ ¬ bt (f v) w = true ∧ mk2 f n v w ≤ mk2 f n a b := by
  have hPh := rK_Ph (f := f) (a := a) (d := 8) hn ha (hd a ha)
  obtain ⟨S, s1, s2, s3⟩ := fl_cut (show 48 ≤ 48 by omega) (show 24 + a < 48 by omega) (show b < 48 by omega) (by omega) 9 (rK f n) (by omega)
  have hK : Ph 48 S (rK f n) = mk2 f n a b := s3
  have hex : ∃ v, v < F ∧ tch f S n a b v = 0 := by
    apply Classical.byContradiction
    intro q
    have h1 : sm (fun _ => 1) F ≤ sm (tch f S n a b) F := sm_le (fun v hv => by
      apply Classical.byContradiction
      intro z
      exact q ⟨v, hv, by omega⟩)
    have h2 : sm (tch f S n a b) F ≤ sm (tch f S n a b) n := sm_le_n hFn
    have h3 := tch_sm (f := f) (S := S) (n := n) (a := a) (b := b) hn
    rw [sm_c] at h1
    omega
  obtain ⟨v, hv, ht⟩ := hex
  obtain ⟨t1, t2⟩ := tch_0 ht
  have hvn : v < n := by omega
  have e24 : ∀ x, S (x + 24) = S (24 + x) := fun x => by rw [Nat.add_comm]
  have fwd : ∀ x y, x < n → y < n → S (24 + x) = true → ¬ S y = true → mk2 f n x y ≤ mk2 f n a b := by
    intro x y hx hy h1 h2
    rw [← hK]
    exact fl_le (S := S) (show 48 ≤ 48 by omega) (show 24 + x < 48 by omega) (show y < 48 by omega) h1 h2 9 (rK f n)
  have bwd : ∀ x y, x < n → y < n → S (24 + x) = true → ¬ S y = true → mk2 f n y x ≤ mk2 f n a b := by
    intro x y hx hy h1 h2
    rw [← hK, ← Ph_bar hn hw]
    refine fl_le (S := Sb S) (show 48 ≤ 48 by omega) (show 24 + y < 48 by omega) (show x < 48 by omega) ?_ ?_ 9 (rK f n)
    · unfold Sb bar
      rw [if_neg (by omega), show 24 + y - 24 = y by omega]
      cases c : S y with
      | false => rfl
      | true => exact absurd c h2
    · unfold Sb bar
      rw [if_pos (by omega), Nat.add_comm, h1]
      decide
  have both : ∀ x y, x < n → y < n → x ≠ y → (x = v ∨ y = v) → ¬ bt (f x) y = true → S (24 + x) = true → ¬ S y = true → ∃ v w, v < w ∧ w < n ∧ v < F ∧ ¬ bt (f v) w = true ∧ mk2 f n v w ≤ mk2 f n a b := by
    intro x y hx hy hne hv' hbt h1 h2
    rcases Nat.lt_or_gt_of_ne hne with g | g
    · exact ⟨x, y, g, hy, by omega, hbt, fwd x y hx hy h1 h2⟩
    · exact ⟨y, x, g, hx, by omega, fun q => hbt (hw y (by omega) x q).2.2.2, bwd x y hx hy h1 h2⟩
  by_cases c1 : v ≠ b ∧ S (24 + v) = true
  · refine both v b hvn hb c1.1 (Or.inl rfl) (fun q => ?_) c1.2 s2
    exact t2 v b hvn hb (by unfold chg; rw [if_pos (Or.inr rfl)]) ⟨c1.2, s2, q⟩
  · by_cases c2 : v ≠ a ∧ ¬ S v = true
    · refine both a v ha hvn (fun q => c2.1 q.symm) (Or.inr rfl) (fun q => ?_) s1 c2.2
      have hvb : v ≠ b := fun e => hno (by rw [← e]; exact q)
      exact t2 a v ha hvn (by unfold chg; rw [if_neg (fun z => by rcases z with z | z; exact c2.1 z; exact hvb z)]) ⟨s1, c2.2, q⟩
    · exfalso
      by_cases e : v = b
      · subst e
        exact c2 ⟨fun q => hab q.symm, s2⟩
      · have h3 : ¬ S (24 + v) = true := fun q => c1 ⟨e, q⟩
        have h4 : v ≠ a := fun q => h3 (by rw [q]; exact s1)
        have h5 : S v = true := by
          apply Classical.byContradiction
          intro q
          exact c2 ⟨h4, q⟩
        exact t1 ⟨h5, by rw [e24]; exact h3⟩
/-- the least over all pairs, and over those that the class looks at -/
theorem thin_eq {F M : Nat} (hn : n ≤ 24) (hw : gw f n) (hd : ∀ a, a < n → i_pc (f a) ≤ 8) (f1 : F ≤ n - 1) (f2 : F = n - 1 ∨ ∃ a b, a < b ∧ b < n ∧ ¬ bt (f a) b = true ∧ F = mk2 f n a b) (f3 : ∀ a b, a < F → a < b → b < n → ¬ bt (f a) b = true → F ≤ mk2 f n a b) (m1 : M ≤ n - 1) (m2 : M = n - 1 ∨ ∃ a b, a < b ∧ b < n ∧ ¬ bt (f a) b = true ∧ M = mk2 f n a b) (m3 : ∀ a b, a < b → b < n → ¬ bt (f a) b = true → M ≤ mk2 f n a b) : F = M := by
  have h1 : M ≤ F := by
    rcases f2 with h | ⟨a, b, h1, h2, h3, h4⟩
    · omega
    · rw [h4]; exact m3 a b h1 h2 h3
  rcases m2 with h | ⟨a, b, g1, g2, g3, g4⟩
  · omega
  · apply Classical.byContradiction
    intro hne
    obtain ⟨v, w, k1, k2, k3, k4, k5⟩ := kcut (F := F) hn hw hd (show a < n by omega) g2 (by omega) g3 (by omega) (by omega)
    have := f3 v w k3 k1 k2 k4
    omega
end KC
