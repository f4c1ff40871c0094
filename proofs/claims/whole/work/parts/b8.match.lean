/-! matchings and covers -/
/-- so many pairs that share nothing -/
def MT (E : Nat → Nat → Bool) (k : Nat) : Prop := ∃ s t : Nat → Nat, (∀ i, i < k → s i < 24 ∧ t i < 24 ∧ E (s i) (t i) = true) ∧ ∀ i j, i < j → j < k → s i ≠ s j ∧ t i ≠ t j
/-- so many things that meet every pair -/
def VC (E : Nat → Nat → Bool) (k : Nat) : Prop := ∃ A B : Nat → Bool, sm (fun x => if A x = true then 1 else 0) 24 + sm (fun y => if B y = true then 1 else 0) 24 ≤ k ∧ ∀ x y, x < 24 → y < 24 → E x y = true → A x = true ∨ B y = true
theorem mt_vc {E : Nat → Nat → Bool} {k1 k2 : Nat} (h1 : MT E k1) (h2 : VC E k2) : k1 ≤ k2 := by
  obtain ⟨s, t, h1, h3⟩ := h1
  obtain ⟨A, B, h2, h4⟩ := h2
  have hq : ∀ i, i < k1 → (if A (s i) = true then s i else 24 + t i) < 48 := by
    intro i hi
    have := h1 i hi
    split <;> omega
  have hinj : ∀ i j, i < j → j < k1 → (if A (s i) = true then s i else 24 + t i) ≠ (if A (s j) = true then s j else 24 + t j) := by
    intro i j hij hj
    have a1 := h1 i (by omega)
    have a2 := h1 j hj
    have a3 := h3 i j hij hj
    split <;> split <;> omega
  have e1 := qc_smP (q := fun i => if A (s i) = true then s i else 24 + t i) hq
  have e2 : sm (fun x => qc (fun i => if A (s i) = true then s i else 24 + t i) x k1) 48 ≤ sm (fun x => if (x < 24 ∧ A x = true) ∨ (24 ≤ x ∧ B (x - 24) = true) then 1 else 0) 48 := by
    refine sm_le (fun x hx => ?_)
    by_cases c : (x < 24 ∧ A x = true) ∨ (24 ≤ x ∧ B (x - 24) = true)
    · rw [if_pos c]
      exact qc_le hinj
    · rw [if_neg c, qc_no (fun i hi e => ?_)]
      · exact Nat.le_refl _
      · apply c
        have a1 := h1 i hi
        rcases h4 _ _ a1.1 a1.2.1 a1.2.2 with g | g
        · have e' : s i = x := by
            have := e
            simp only [g, if_true] at this
            exact this
          exact Or.inl ⟨by omega, by rw [← e']; exact g⟩
        · by_cases ga : A (s i) = true
          · have e' : s i = x := by
              have := e
              simp only [ga, if_true] at this
              exact this
            exact Or.inl ⟨by omega, by rw [← e']; exact ga⟩
          · have e' : 24 + t i = x := by
              have := e
              simp only [ga] at this
              exact this
            exact Or.inr ⟨by omega, by rw [← e', show 24 + t i - 24 = t i by omega]; exact g⟩
  have e3 : sm (fun x => if (x < 24 ∧ A x = true) ∨ (24 ≤ x ∧ B (x - 24) = true) then 1 else 0) 48 = sm (fun x => if A x = true then 1 else 0) 24 + sm (fun y => if B y = true then 1 else 0) 24 := by
    have := sm_split (F := fun x => if (x < 24 ∧ A x = true) ∨ (24 ≤ x ∧ B (x - 24) = true) then 1 else 0) (x := 24) (m := 24)
    rw [show (48 : Nat) = 24 + 24 from rfl, this]
    have g1 : sm (fun x => if (x < 24 ∧ A x = true) ∨ (24 ≤ x ∧ B (x - 24) = true) then 1 else 0) 24 = sm (fun x => if A x = true then 1 else 0) 24 := sm_congr (fun x hx => by
      by_cases c : A x = true
      · rw [if_pos c, if_pos (Or.inl ⟨hx, c⟩)]
      · rw [if_neg c, if_neg (fun z => by rcases z with z | z; exact c z.2; omega)])
    have g2 : sm (fun b => if (24 + b < 24 ∧ A (24 + b) = true) ∨ (24 ≤ 24 + b ∧ B (24 + b - 24) = true) then 1 else 0) 24 = sm (fun y => if B y = true then 1 else 0) 24 := sm_congr (fun y hy => by
      rw [show 24 + y - 24 = y by omega]
      by_cases c : B y = true
      · rw [if_pos c, if_pos (Or.inr ⟨by omega, c⟩)]
      · rw [if_neg c, if_neg (fun z => by rcases z with z | z; omega; exact c z.2)])
    rw [g1, g2]
  omega
theorem VC.flip {E : Nat → Nat → Bool} {k : Nat} (h : VC E k) : VC (fun x y => E y x) k := by
  obtain ⟨A, B, h1, h2⟩ := h
  refine ⟨B, A, by omega, fun x y hx hy e => ?_⟩
  rcases h2 y x hy hx e with g | g
  · exact Or.inr g
  · exact Or.inl g
theorem MT.flip {E : Nat → Nat → Bool} {k : Nat} (h : MT E k) : MT (fun x y => E y x) k := by
  obtain ⟨s, t, h1, h2⟩ := h
  exact ⟨t, s, fun i hi => ⟨(h1 i hi).2.1, (h1 i hi).1, (h1 i hi).2.2⟩, fun i j hij hj => ⟨(h2 i j hij hj).2, (h2 i j hij hj).1⟩⟩
/-- both ways to a greatest matching come to the same number -/
theorem mt_eq {E : Nat → Nat → Bool} {k1 k2 : Nat} (h1 : MT E k1 ∧ VC E k1) (h2 : MT (fun x y => E y x) k2 ∧ VC (fun x y => E y x) k2) : k1 = k2 := by
  have a1 := mt_vc h1.1 h2.2.flip
  have a2 := mt_vc h2.1.flip h1.2
  exact Nat.le_antisymm a1 a2
/-- how many are matched -/
def mtn (mt : Nat → Nat) : Nat := sm (fun y => if mt y = 99 then 0 else 1) 24
/-- where a search for partners stands: partners of the right ones, the left ones that are given up, and what these reach -/
def AI (E : Nat → Nat → Bool) (m i : Nat) (mt : Nat → Nat) (D Z : Nat → Bool) : Prop :=
  (∀ y, y < 24 → mt y ≠ 99 → mt y < i ∧ E (mt y) y = true) ∧
  (∀ y z, y < 24 → z < 24 → mt y ≠ 99 → mt y = mt z → y = z) ∧
  (∀ x, D x = true → x < i) ∧
  (∀ x y, y < 24 → D x = true → E x y = true → Z y = true) ∧
  (∀ y, y < 24 → Z y = true → mt y ≠ 99 ∧ D (mt y) = true) ∧
  (∀ x, x < i → (∃ y, y < 24 ∧ mt y = x) ∨ D x = true)
/-- an injection of one set into another -/
theorem sm_inj {P Q : Nat → Bool} {g : Nat → Nat} {n m : Nat} (h1 : ∀ x, x < n → P x = true → g x < m ∧ Q (g x) = true) (h2 : ∀ x y, x < n → y < n → P x = true → P y = true → g x = g y → x = y) : sm (fun x => if P x = true then 1 else 0) n ≤ sm (fun y => if Q y = true then 1 else 0) m := by
  have e : ∀ k, k ≤ n → sm (fun x => if P x = true then 1 else 0) k = sm (fun y => sm (fun x => if P x = true ∧ g x = y then 1 else 0) k) m := by
    intro k
    induction k with
    | zero => intro _; exact sm_0.symm
    | succ k ih =>
      intro hk
      have e1 : sm (fun y => sm (fun x => if P x = true ∧ g x = y then 1 else 0) (k + 1)) m = sm (fun y => sm (fun x => if P x = true ∧ g x = y then 1 else 0) k) m + sm (fun y => if P k = true ∧ g k = y then 1 else 0) m := sm_add
      rw [e1, ← ih (by omega)]
      show sm (fun x => if P x = true then 1 else 0) k + (if P k = true then 1 else 0) = _
      by_cases c : P k = true
      · rw [if_pos c, sm_congr (F := fun y => if P k = true ∧ g k = y then 1 else 0) (G := fun y => if g k = y then 1 else 0) (fun y _ => by
          by_cases d : g k = y
          · rw [if_pos d, if_pos ⟨c, d⟩]
          · rw [if_neg d, if_neg (fun z => d z.2)]), sm_point (h1 k (by omega) c).1]
      · rw [if_neg c, sm_congr (F := fun y => if P k = true ∧ g k = y then 1 else 0) (G := fun _ => 0) (fun y _ => by rw [if_neg (fun z => c z.1)]), sm_0]
  rw [e n (Nat.le_refl _)]
  refine sm_le (fun y hy => ?_)
  have one : ∀ k, k ≤ n → sm (fun x => if P x = true ∧ g x = y then 1 else 0) k ≤ 1 ∧ ((∀ x, x < k → ¬ (P x = true ∧ g x = y)) → sm (fun x => if P x = true ∧ g x = y then 1 else 0) k = 0) := by
    intro k
    induction k with
    | zero => intro _; exact ⟨Nat.zero_le _, fun _ => rfl⟩
    | succ k ih =>
      intro hk
      obtain ⟨i1, i2⟩ := ih (by omega)
      have es : sm (fun x => if P x = true ∧ g x = y then 1 else 0) (k + 1) = sm (fun x => if P x = true ∧ g x = y then 1 else 0) k + (if P k = true ∧ g k = y then 1 else 0) := rfl
      rw [es]
      constructor
      · by_cases c : P k = true ∧ g k = y
        · rw [if_pos c, i2 (fun x hx z => by
            have := h2 x k (by omega) (by omega) z.1 c.1 (z.2.trans c.2.symm)
            omega)]
          omega
        · rw [if_neg c]
          exact i1
      · intro h
        rw [i2 (fun x hx => h x (by omega)), if_neg (h k (by omega))]
  by_cases c : Q y = true
  · rw [if_pos c]
    exact (one n (Nat.le_refl _)).1
  · rw [if_neg c, (one n (Nat.le_refl _)).2 (fun x hx z => c (by rw [← z.2]; exact (h1 x hx z.1).2))]
    exact Nat.le_refl _
theorem AI.vc {E : Nat → Nat → Bool} {m : Nat} {mt : Nat → Nat} {D Z : Nat → Bool} (hm : m ≤ 24) (hE : ∀ x y, E x y = true → x < m) (h : AI E m m mt D Z) : VC E (mtn mt) := by
  obtain ⟨a1, a2, a3, a4, a5, a6⟩ := h
  refine ⟨fun x => decide (x < m ∧ ¬ D x = true), Z, ?_, fun x y hx hy e => ?_⟩
  · -- left ones that are not given up go to their partners, outside Z
    show sm (fun x => if decide (x < m ∧ ¬ D x = true) = true then 1 else 0) 24 + sm (fun y => if Z y = true then 1 else 0) 24 ≤ mtn mt
    have hch : ∃ g : Nat → Nat, ∀ x, x < m → ¬ D x = true → g x < 24 ∧ mt (g x) = x := Classical.axiomOfChoice (r := fun x y => x < m → ¬ D x = true → y < 24 ∧ mt y = x) (fun x => by
      by_cases hx : x < m
      · by_cases hD : D x = true
        · exact ⟨0, fun _ z => absurd hD z⟩
        · obtain ⟨y, hy⟩ := (a6 x hx).resolve_right hD
          exact ⟨y, fun _ _ => hy⟩
      · exact ⟨0, fun z => absurd z hx⟩)
    obtain ⟨g, hg⟩ := hch
    have i1 : sm (fun x => if decide (x < m ∧ ¬ D x = true) = true then 1 else 0) 24 ≤ sm (fun y => if (fun y => decide (mt y ≠ 99 ∧ ¬ Z y = true)) y = true then 1 else 0) 24 := by
      refine sm_inj (P := fun x => decide (x < m ∧ ¬ D x = true)) (Q := fun y => decide (mt y ≠ 99 ∧ ¬ Z y = true)) (g := g) (fun x hx hP => ?_) (fun x y hx hy hPx hPy e => ?_)
      · have hP' := of_decide_eq_true hP
        obtain ⟨g1, g2⟩ := hg x hP'.1 hP'.2
        refine ⟨g1, decide_eq_true ⟨by omega, fun z => ?_⟩⟩
        have := (a5 _ g1 z).2
        rw [g2] at this
        exact hP'.2 this
      · have h1 := of_decide_eq_true hPx
        have h2 := of_decide_eq_true hPy
        have e1 := (hg x h1.1 h1.2).2
        have e2 := (hg y h2.1 h2.2).2
        rw [← e1, ← e2, e]
    have i2 : sm (fun y => if (fun y => decide (mt y ≠ 99 ∧ ¬ Z y = true)) y = true then 1 else 0) 24 + sm (fun y => if Z y = true then 1 else 0) 24 = mtn mt := by
      rw [← sm_add]
      refine sm_congr (fun y hy => ?_)
      (try dsimp only)
      by_cases c : Z y = true
      · have := (a5 y hy c).1
        rw [if_pos c, if_neg (by rw [decide_eq_true_iff]; exact fun z => z.2 c), if_neg this]
      · rw [if_neg c]
        by_cases c2 : mt y = 99
        · rw [if_pos c2, if_neg (by rw [decide_eq_true_iff]; exact fun z => z.1 c2)]
        · rw [if_neg c2, if_pos (decide_eq_true ⟨c2, c⟩)]
    omega
  · by_cases c : D x = true
    · exact Or.inr (a4 x y hy c e)
    · exact Or.inl (decide_eq_true ⟨hE x y e, c⟩)
/-- the matched ones, one after the other -/
theorem mt_list {mt : Nat → Nat} : ∀ n, ∃ q : Nat → Nat, (∀ i, i < sm (fun y => if mt y = 99 then 0 else 1) n → q i < n ∧ mt (q i) ≠ 99) ∧ ∀ i j, i < j → j < sm (fun y => if mt y = 99 then 0 else 1) n → q i < q j
  | 0 => ⟨fun _ => 0, fun i hi => absurd hi (Nat.not_lt_zero _), fun i j _ hj => absurd hj (Nat.not_lt_zero _)⟩
  | n + 1 => by
    obtain ⟨q, h1, h2⟩ := mt_list (mt := mt) n
    have es : sm (fun y => if mt y = 99 then 0 else 1) (n + 1) = sm (fun y => if mt y = 99 then 0 else 1) n + (if mt n = 99 then 0 else 1) := rfl
    by_cases c : mt n = 99
    · rw [es, if_pos c]
      exact ⟨q, fun i hi => ⟨by have := (h1 i hi).1; omega, (h1 i hi).2⟩, h2⟩
    · rw [es, if_neg c]
      refine ⟨fun i => if i = sm (fun y => if mt y = 99 then 0 else 1) n then n else q i, fun i hi => ?_, fun i j hij hj => ?_⟩
      · (try dsimp only)
        by_cases g : i = sm (fun y => if mt y = 99 then 0 else 1) n
        · rw [if_pos g]; exact ⟨by omega, c⟩
        · rw [if_neg g]
          have := h1 i (by omega)
          exact ⟨by omega, this.2⟩
      · (try dsimp only)
        rw [if_neg (by omega)]
        by_cases g : j = sm (fun y => if mt y = 99 then 0 else 1) n
        · rw [if_pos g]; exact (h1 i (by omega)).1
        · rw [if_neg g]; exact h2 i j hij (by omega)
theorem AI.mt {E : Nat → Nat → Bool} {m i : Nat} {mt : Nat → Nat} {D Z : Nat → Bool} (hm : i ≤ 24) (h : AI E m i mt D Z) : MT E (mtn mt) := by
  obtain ⟨a1, a2, -⟩ := h
  obtain ⟨q, h1, h2⟩ := mt_list (mt := mt) 24
  refine ⟨fun i => mt (q i), q, fun k hk => ?_, fun k l hkl hl => ?_⟩
  · obtain ⟨b1, b2⟩ := h1 k hk
    obtain ⟨c1, c2⟩ := a1 _ b1 b2
    exact ⟨by show mt (q k) < 24; omega, b1, c2⟩
  · have b := h2 k l hkl hl
    obtain ⟨b1, b2⟩ := h1 k (by unfold mtn at hl; omega)
    obtain ⟨b3, b4⟩ := h1 l hl
    refine ⟨fun e => ?_, by omega⟩
    have := a2 _ _ b1 b3 b2 e
    omega
