/-! sets of knots as bits: what is joined with them, what lies within some steps -/
def un (f : Nat → Int32) (l : List Nat) (x : Int32) : Int32 := l.foldl (fun y i => y ||| f i) x
theorem un_cons (f : Nat → Int32) (i : Nat) (l : List Nat) (x : Int32) : un f (i :: l) x = un f l (x ||| f i) := rfl
theorem un_bt {f : Nat → Int32} {i : Nat} : ∀ (l : List Nat) (x : Int32), bt (un f l x) i = true ↔ bt x i = true ∨ ∃ j, j ∈ l ∧ bt (f j) i = true
  | [], x => by simp [un]
  | j :: l, x => by
    rw [un_cons, un_bt l, b_or]
    constructor
    · rintro (h | ⟨k, hk, h⟩)
      · rcases Bool.or_eq_true_iff.mp h with h | h
        · exact Or.inl h
        · exact Or.inr ⟨j, List.mem_cons_self, h⟩
      · exact Or.inr ⟨k, List.mem_cons_of_mem _ hk, h⟩
    · rintro (h | ⟨k, hk, h⟩)
      · exact Or.inl (by rw [h]; rfl)
      · rcases List.mem_cons.mp hk with e | e
        · subst e
          exact Or.inl (by rw [h, Bool.or_true])
        · exact Or.inr ⟨k, e, h⟩
theorem un_congr {f g : Nat → Int32} : ∀ (l : List Nat) (x : Int32), (∀ i, i ∈ l → f i = g i) → un f l x = un g l x
  | [], _, _ => rfl
  | i :: l, x, h => by
    rw [un_cons, un_cons, h i List.mem_cons_self]
    exact un_congr l _ (fun j hj => h j (List.mem_cons_of_mem _ hj))
/-- the sum of the rows of a set -/
def us (f : Nat → Int32) (x : Int32) : Int32 := un f (bl x) 0
theorem us_bt {f : Nat → Int32} {x : Int32} {i : Nat} : bt (us f x) i = true ↔ ∃ j, bt x j = true ∧ bt (f j) i = true := by
  unfold us
  rw [un_bt]
  constructor
  · rintro (h | ⟨j, hj, h⟩)
    · rw [b_0] at h; cases h
    · exact ⟨j, bl_mem.mp hj, h⟩
  · rintro ⟨j, hj, h⟩
    exact Or.inr ⟨j, bl_mem.mpr hj, h⟩
theorem b_eq {x y : Int32} (h : ∀ i, bt x i = true ↔ bt y i = true) : x = y := b_ext (fun i _ => by
  have := h i
  cases e1 : bt x i <;> cases e2 : bt y i <;> simp_all)
theorem b_and_iff {x y : Int32} {i : Nat} : bt (x &&& y) i = true ↔ bt x i = true ∧ bt y i = true := by rw [b_and, Bool.and_eq_true]
theorem b_or_iff {x y : Int32} {i : Nat} : bt (x ||| y) i = true ↔ bt x i = true ∨ bt y i = true := by rw [b_or, Bool.or_eq_true]
theorem b_not_iff {x : Int32} {i : Nat} (hi : i < 32) : bt (x ^^^ (-1)) i = true ↔ ¬ bt x i = true := by
  rw [b_xor, b_m1 i hi]
  cases bt x i <;> simp
theorem b_nothing {x : Int32} : x = 0 ↔ ∀ i, ¬ bt x i = true := by
  constructor
  · rintro rfl i
    rw [b_0]; decide
  · intro h
    exact b_eq (fun i => ⟨fun q => absurd q (h i), fun q => by rw [b_0] at q; cases q⟩)
theorem b_one {v i : Nat} (hv : v < 32) : bt (lf_shl 1 (nI v)) i = true ↔ i = v := by
  by_cases hi : i < 32
  · rw [one_bit hv hi, decide_eq_true_iff]
  · constructor
    · intro h; exact absurd (bt_lt h) hi
    · intro h; omega
/-- within s steps -/
def gR (f : Nat → Int32) (A : Int32) : Nat → Nat → Nat → Prop
  | 0, v, x => v = x
  | s + 1, v, x => gR f A s v x ∨ ∃ u, gR f A s v u ∧ bt (f u) x = true ∧ bt A x = true
/-- the ball -/
def bal (f : Nat → Int32) (A : Int32) (v : Nat) : Nat → Int32
  | 0 => lf_shl 1 (nI v)
  | s + 1 => bal f A v s ||| (us f (bal f A v s) &&& A)
section GR
variable {f : Nat → Int32} {A : Int32} {v x s t : Nat}
theorem bal_bt (hv : v < 32) : ∀ {s x : Nat}, bt (bal f A v s) x = true ↔ gR f A s v x
  | 0, x => by
    show bt (lf_shl 1 (nI v)) x = true ↔ v = x
    rw [b_one hv]
    exact ⟨fun h => h.symm, fun h => h.symm⟩
  | s + 1, x => by
    show bt (bal f A v s ||| (us f (bal f A v s) &&& A)) x = true ↔ gR f A s v x ∨ ∃ u, gR f A s v u ∧ bt (f u) x = true ∧ bt A x = true
    rw [b_or_iff, b_and_iff, us_bt, bal_bt hv]
    constructor
    · rintro (h | ⟨⟨u, h1, h2⟩, h3⟩)
      · exact Or.inl h
      · exact Or.inr ⟨u, (bal_bt hv).mp h1, h2, h3⟩
    · rintro (h | ⟨u, h1, h2, h3⟩)
      · exact Or.inl h
      · exact Or.inr ⟨⟨u, (bal_bt hv).mpr h1, h2⟩, h3⟩
theorem gR_mono (h : gR f A s v x) : ∀ {t : Nat}, s ≤ t → gR f A t v x
  | 0, q => by rw [Nat.le_zero.mp q] at h; exact h
  | t + 1, q => by
    by_cases e : s = t + 1
    · rw [← e]; exact h
    · exact Or.inl (gR_mono h (by omega))
/-- the first step first -/
theorem gR_left : ∀ {s v x : Nat}, gR f A (s + 1) v x ↔ gR f A s v x ∨ ∃ u, bt (f v) u = true ∧ bt A u = true ∧ gR f A s u x
  | 0, v, x => by
    constructor
    · rintro (h | ⟨u, h1, h2, h3⟩)
      · exact Or.inl h
      · refine Or.inr ⟨x, ?_, h3, rfl⟩
        rw [show v = u from h1]; exact h2
    · rintro (h | ⟨u, h1, h2, h3⟩)
      · exact Or.inl h
      · refine Or.inr ⟨v, rfl, ?_, ?_⟩
        · rw [← show u = x from h3]; exact h1
        · rw [← show u = x from h3]; exact h2
  | s + 1, v, x => by
    constructor
    · rintro (h | ⟨u, h1, h2, h3⟩)
      · exact Or.inl h
      · rcases gR_left.mp h1 with q | ⟨w, q1, q2, q3⟩
        · exact Or.inl (Or.inr ⟨u, q, h2, h3⟩)
        · exact Or.inr ⟨w, q1, q2, Or.inr ⟨u, q3, h2, h3⟩⟩
    · rintro (h | ⟨w, q1, q2, q3⟩)
      · exact Or.inl h
      · rcases q3 with q3 | ⟨u, q3, h2, h3⟩
        · exact Or.inl (gR_left.mpr (Or.inr ⟨w, q1, q2, q3⟩))
        · exact Or.inr ⟨u, gR_left.mpr (Or.inr ⟨w, q1, q2, q3⟩), h2, h3⟩
/-- there and back -/
theorem gR_sym (hf : ∀ a b, bt A a = true → bt A b = true → bt (f a) b = true → bt (f b) a = true) : ∀ {s v x : Nat}, bt A v = true → gR f A s v x → gR f A s x v
  | 0, v, x, _, h => Eq.symm h
  | s + 1, v, x, hv, h => by
    rcases h with h | ⟨u, h1, h2, h3⟩
    · exact Or.inl (gR_sym hf hv h)
    · refine gR_left.mpr (Or.inr ⟨u, ?_, ?_, gR_sym hf hv h1⟩)
      · refine hf u x ?_ h3 h2
        cases s with
        | zero => rw [← show v = u from h1]; exact hv
        | succ s =>
          have : ∀ s u, gR f A s v u → bt A u = true := by
            intro s
            induction s with
            | zero => intro u q; rw [← show v = u from q]; exact hv
            | succ s ih =>
              rintro u (q | ⟨w, -, -, q⟩)
              · exact ih u q
              · exact q
          exact this _ u h1
      · have : ∀ s u, gR f A s v u → bt A u = true := by
          intro s
          induction s with
          | zero => intro u q; rw [← show v = u from q]; exact hv
          | succ s ih =>
            rintro u (q | ⟨w, -, -, q⟩)
            · exact ih u q
            · exact q
        exact this _ u h1
theorem gR_in (hv : bt A v = true) : ∀ {s u : Nat}, gR f A s v u → bt A u = true
  | 0, u, q => by rw [← show v = u from q]; exact hv
  | s + 1, u, q => by
    rcases q with q | ⟨w, -, -, q⟩
    · exact gR_in hv q
    · exact q
theorem bal_mono (hv : v < 32) (h : s ≤ t) {i : Nat} (q : bt (bal f A v s) i = true) : bt (bal f A v t) i = true := (bal_bt hv).mpr (gR_mono ((bal_bt hv).mp q) h)
/-- a ball that doesn't grow never does -/
theorem bal_still (h : bal f A v (s + 1) = bal f A v s) : ∀ t, s ≤ t → bal f A v t = bal f A v s := by
  intro t ht
  obtain ⟨d, rfl⟩ : ∃ d, t = s + d := ⟨t - s, by omega⟩
  clear ht
  induction d with
  | zero => rfl
  | succ d ih =>
    show bal f A v (s + d) ||| (us f (bal f A v (s + d)) &&& A) = _
    rw [ih]
    exact h
/-- as long as it grows it has more knots than steps -/
theorem bal_many (hv : v < 32) (h : bal f A v (s + 1) ≠ bal f A v s) : ∀ t, t ≤ s + 1 → t + 1 ≤ i_pc (bal f A v t) := by
  intro t
  induction t with
  | zero =>
    intro _
    have := i_pc_lt (x := 0) (y := bal f A v 0) (i := v) (fun i q => by rw [b_0] at q; cases q) (b_0 v) ((bal_bt hv).mpr rfl)
    rw [i_pc_0] at this
    omega
  | succ t ih =>
    intro ht
    have h1 := ih (by omega)
    have hne : bal f A v (t + 1) ≠ bal f A v t := by
      intro q
      refine h ?_
      rw [bal_still q (s + 1) (by omega), bal_still q s (by omega)]
    obtain ⟨i, hi⟩ : ∃ i, bt (bal f A v (t + 1)) i = true ∧ bt (bal f A v t) i = false := by
      apply Classical.byContradiction
      intro q
      refine hne (b_eq (fun i => ⟨fun r => ?_, fun r => bal_mono hv (by omega) r⟩))
      cases e : bt (bal f A v t) i with
      | true => rfl
      | false => exact absurd ⟨i, r, e⟩ q
    have := i_pc_lt (x := bal f A v t) (y := bal f A v (t + 1)) (fun i q => bal_mono hv (by omega) q) hi.2 hi.1
    omega
/-- within 24 knots nothing grows behind 23 steps -/
theorem bal_end (hv : v < 24) (hA : ∀ i, bt A i = true → i < 24) (hs : 23 ≤ s) : bal f A v s = bal f A v 23 := by
  have hb : ∀ t i, bt (bal f A v t) i = true → i < 24 := by
    intro t i q
    have q2 := (bal_bt (by omega)).mp q
    clear q
    induction t generalizing i with
    | zero => rw [← show v = i from q2]; exact hv
    | succ t ih =>
      rcases q2 with q2 | ⟨w, -, -, q2⟩
      · exact ih i q2
      · exact hA i q2
  refine bal_still ?_ s hs
  apply Classical.byContradiction
  intro q
  have h1 := bal_many (by omega) q 24 (by omega)
  have h2 := i_pc_max (x := bal f A v 24) (n := 24) (by omega) (hb 24)
  omega
/-- the rim of a ball -/
def rim (f : Nat → Int32) (A : Int32) (v : Nat) : Nat → Int32
  | 0 => lf_shl 1 (nI v)
  | s + 1 => us f (rim f A v s) &&& A &&& (bal f A v s ^^^ (-1))
theorem rim_bt (hv : v < 32) : ∀ {s x : Nat}, bt (rim f A v (s + 1)) x = true ↔ bt (bal f A v (s + 1)) x = true ∧ ¬ bt (bal f A v s) x = true := by
  have key : ∀ s x, (bt (rim f A v s) x = true → bt (bal f A v s) x = true) ∧ (bt (rim f A v (s + 1)) x = true ↔ bt (bal f A v (s + 1)) x = true ∧ ¬ bt (bal f A v s) x = true) := by
    intro s
    induction s with
    | zero =>
      intro x
      refine ⟨id, ?_⟩
      show bt (us f (lf_shl 1 (nI v)) &&& A &&& (lf_shl 1 (nI v) ^^^ (-1))) x = true ↔ bt (lf_shl 1 (nI v) ||| (us f (lf_shl 1 (nI v)) &&& A)) x = true ∧ ¬ bt (lf_shl 1 (nI v)) x = true
      by_cases hx : x < 32
      · rw [b_and_iff, b_not_iff hx, b_or_iff]
        constructor
        · rintro ⟨h1, h2⟩; exact ⟨Or.inr h1, h2⟩
        · rintro ⟨h1 | h1, h2⟩
          · exact absurd h1 h2
          · exact ⟨h1, h2⟩
      · constructor
        · intro q; exact absurd (bt_lt q) hx
        · rintro ⟨q, -⟩; exact absurd (bt_lt q) hx
    | succ s ih =>
      intro x
      refine ⟨fun q => ((ih x).2.mp q).1, ?_⟩
      show bt (us f (rim f A v (s + 1)) &&& A &&& (bal f A v (s + 1) ^^^ (-1))) x = true ↔ bt (bal f A v (s + 1) ||| (us f (bal f A v (s + 1)) &&& A)) x = true ∧ ¬ bt (bal f A v (s + 1)) x = true
      by_cases hx : x < 32
      · rw [b_and_iff, b_and_iff, b_not_iff hx, b_or_iff, b_and_iff, us_bt, us_bt]
        constructor
        · rintro ⟨⟨⟨j, h1, h2⟩, h3⟩, h4⟩
          exact ⟨Or.inr ⟨⟨j, ((ih j).2.mp h1).1, h2⟩, h3⟩, h4⟩
        · rintro ⟨h1 | ⟨⟨j, h1, h2⟩, h3⟩, h4⟩
          · exact absurd h1 h4
          · refine ⟨⟨⟨j, (ih j).2.mpr ⟨h1, fun q => h4 ?_⟩, h2⟩, h3⟩, h4⟩
            exact (bal_bt hv).mpr (Or.inr ⟨j, (bal_bt hv).mp q, h2, h3⟩)
      · constructor
        · intro q; exact absurd (bt_lt q) hx
        · rintro ⟨q, -⟩; exact absurd (bt_lt q) hx
  intro s x
  exact (key s x).2
theorem rim_seen (hv : v < 32) : bal f A v s ||| rim f A v (s + 1) = bal f A v (s + 1) := by
  refine b_eq (fun i => ?_)
  rw [b_or_iff, rim_bt hv]
  constructor
  · rintro (h | h)
    · exact bal_mono hv (by omega) h
    · exact h.1
  · intro h
    by_cases q : bt (bal f A v s) i = true
    · exact Or.inl q
    · exact Or.inr ⟨h, q⟩
end GR
/-- how far: the first ball that has it; 24: none -/
def gd (f : Nat → Int32) (A : Int32) (v x : Nat) : Nat := fa_first (fun s => bt (bal f A v s) x) 24
/-- the same, as both sides write it -/
def gdI (f : Nat → Int32) (A : Int32) (v x : Nat) : Int32 := if gd f A v x < 24 then nI (gd f A v x) else -1
section GD
variable {f : Nat → Int32} {A : Int32} {v x s t : Nat}
theorem gd_le : gd f A v x ≤ 24 := fa_first_le _ _
theorem gd_lt_iff (hv : v < 32) (hs : s < 24) : s < gd f A v x ↔ ¬ bt (bal f A v s) x = true := by
  constructor
  · intro h q
    have := fa_first_no (fun s => bt (bal f A v s) x) 24 s h
    rw [this] at q
    cases q
  · intro h
    apply Nat.lt_of_not_le
    intro q
    have h1 : gd f A v x < 24 := by omega
    have := fa_first_yes (fun s => bt (bal f A v s) x) 24 h1
    exact h (bal_mono hv q this)
theorem gd_eq (hv : v < 32) (hs : s < 24) : gd f A v x = s ↔ bt (rim f A v s) x = true := by
  cases s with
  | zero =>
    have := gd_lt_iff (f := f) (A := A) (x := x) hv (s := 0) (by omega)
    show _ ↔ bt (bal f A v 0) x = true
    constructor
    · intro h
      apply Classical.byContradiction
      intro q
      have := this.mpr q
      omega
    · intro h
      apply Classical.byContradiction
      intro q
      exact this.mp (by omega) h
  | succ s =>
    have h1 := gd_lt_iff (f := f) (A := A) (x := x) hv (s := s + 1) (by omega)
    have h2 := gd_lt_iff (f := f) (A := A) (x := x) hv (s := s) (by omega)
    rw [rim_bt hv]
    constructor
    · intro h
      refine ⟨?_, h2.mp (by omega)⟩
      apply Classical.byContradiction
      intro q
      have := h1.mpr q
      omega
    · rintro ⟨q1, q2⟩
      have := h2.mpr q2
      apply Classical.byContradiction
      intro q
      exact h1.mp (by omega) q1
end GD
