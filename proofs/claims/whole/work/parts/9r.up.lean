/-! upward first, then downward: two layers of sets -/
def uU (P : Nat → Int32) (a : Nat) : Nat → Int32
  | 0 => lf_shl 1 (nI a)
  | t + 1 => uU P a t ||| us P (uU P a t)
def uS (P D : Nat → Int32) (a : Nat) : Nat → Int32
  | 0 => lf_shl 1 (nI a)
  | t + 1 => uS P D a t ||| (us P (uU P a t) ||| us D (uS P D a t))
section UP
variable {P D : Nat → Int32} {a : Nat}
theorem uU_s {t i : Nat} : bt (uU P a (t + 1)) i = true ↔ bt (uU P a t) i = true ∨ ∃ j, bt (uU P a t) j = true ∧ bt (P j) i = true := by
  show bt (uU P a t ||| us P (uU P a t)) i = true ↔ _
  rw [b_or_iff, us_bt]
theorem uS_s {t i : Nat} : bt (uS P D a (t + 1)) i = true ↔ bt (uS P D a t) i = true ∨ (∃ j, bt (uU P a t) j = true ∧ bt (P j) i = true) ∨ ∃ j, bt (uS P D a t) j = true ∧ bt (D j) i = true := by
  show bt (uS P D a t ||| (us P (uU P a t) ||| us D (uS P D a t))) i = true ↔ _
  rw [b_or_iff, b_or_iff, us_bt, us_bt]
theorem uU_sub : ∀ t i, bt (uU P a t) i = true → bt (uS P D a t) i = true := by
  intro t
  induction t with
  | zero => intro i h; exact h
  | succ t ih =>
    intro i h
    rw [uU_s] at h
    rw [uS_s]
    rcases h with h | h
    · exact Or.inl (ih i h)
    · exact Or.inr (Or.inl h)
theorem uS_mono {t i : Nat} (h : bt (uS P D a t) i = true) : ∀ k, bt (uS P D a (t + k)) i = true := by
  intro k
  induction k with
  | zero => exact h
  | succ k ih => exact uS_s.mpr (Or.inl ih)
def fsw (P D : Nat → Int32) (a w : Nat) : Nat := fa_first (fun s => bt (uS P D a s) w) 49
theorem fsw_iff {t w : Nat} (ht : t ≤ 48) : bt (uS P D a t) w = true ↔ fsw P D a w ≤ t := by
  constructor
  · intro h
    apply Classical.byContradiction
    intro c
    have := fa_first_no (fun s => bt (uS P D a s) w) 49 t (by unfold fsw at c; omega)
    rw [h] at this
    cases this
  · intro h
    have h1 : bt (uS P D a (fsw P D a w)) w = true := fa_first_yes (fun s => bt (uS P D a s) w) 49 (by unfold fsw at h; omega)
    have := uS_mono h1 (t - fsw P D a w)
    rwa [show fsw P D a w + (t - fsw P D a w) = t by omega] at this
/-- where the spread stands -/
def uI (P D : Nat → Int32) (a t : Nat) (x2 x3 x4 x5 : Int32) : Prop := (∀ i, bt x2 i = true ↔ bt (uU P a t) i = true) ∧ (∀ i, (bt x2 i = true ∨ bt x3 i = true) ↔ bt (uS P D a t) i = true) ∧ (∀ i, bt x4 i = true → bt x2 i = true) ∧ (∀ i, bt x5 i = true → bt x2 i = true ∨ bt x3 i = true) ∧ (∀ j i, bt x2 j = true → bt (P j) i = true → bt x2 i = true ∨ ∃ k, bt x4 k = true ∧ bt (P k) i = true) ∧ (∀ j i, (bt x2 j = true ∨ bt x3 j = true) → bt (D j) i = true → (bt x2 i = true ∨ bt x3 i = true) ∨ ∃ k, (bt x4 k = true ∨ bt x5 k = true) ∧ bt (D k) i = true)
theorem b_andn {x y : Int32} {i : Nat} : bt (x &&& (y ^^^ (-1))) i = true ↔ bt x i = true ∧ ¬ bt y i = true := by
  rw [b_and_iff]
  constructor
  · rintro ⟨h1, h2⟩
    exact ⟨h1, (b_not_iff (bt_lt h1)).mp h2⟩
  · rintro ⟨h1, h2⟩
    exact ⟨h1, (b_not_iff (bt_lt h1)).mpr h2⟩
def nuE (v14 x2 : Int32) : Int32 := v14 &&& (x2 ^^^ (-1))
def ndE (v8 x2 x3 nu : Int32) : Int32 := (v8 &&& ((x2 ||| nu) ^^^ (-1))) &&& (x3 ^^^ (-1))
def frE (nu nd x2 x3 : Int32) : Int32 := (nu ||| nd) &&& ((x2 ||| x3) ^^^ (-1))
theorem uI_step {t : Nat} {x2 x3 x4 x5 nu nd : Int32} (h : uI P D a t x2 x3 x4 x5) (h1 : ∀ i, bt nu i = true ↔ (∃ k, bt x4 k = true ∧ bt (P k) i = true) ∧ ¬ bt x2 i = true) (h2 : ∀ i, bt nd i = true ↔ ((∃ k, (bt x4 k = true ∨ bt x5 k = true) ∧ bt (D k) i = true) ∧ ¬ (bt x2 i = true ∨ bt nu i = true)) ∧ ¬ bt x3 i = true) : uI P D a (t + 1) (x2 ||| nu) (x3 ||| nd) nu nd ∧ ∀ i, (bt nu i = true ∨ bt nd i = true) ∧ ¬ (bt x2 i = true ∨ bt x3 i = true) ↔ bt (uS P D a (t + 1)) i = true ∧ ¬ bt (uS P D a t) i = true := by
  obtain ⟨a1, a2, a3, a4, a5, a6⟩ := h
  have u1 : ∀ i, bt (x2 ||| nu) i = true ↔ bt (uU P a (t + 1)) i = true := by
    intro i
    rw [b_or_iff, uU_s]
    constructor
    · rintro (z | z)
      · exact Or.inl ((a1 i).mp z)
      · obtain ⟨⟨k, k1, k2⟩, -⟩ := (h1 i).mp z
        exact Or.inr ⟨k, (a1 k).mp (a3 k k1), k2⟩
    · rintro (z | ⟨j, z1, z2⟩)
      · exact Or.inl ((a1 i).mpr z)
      · by_cases c : bt x2 i = true
        · exact Or.inl c
        · exact Or.inr ((h1 i).mpr ⟨(a5 j i ((a1 j).mpr z1) z2).resolve_left c, c⟩)
  have u2 : ∀ i, (bt (x2 ||| nu) i = true ∨ bt (x3 ||| nd) i = true) ↔ bt (uS P D a (t + 1)) i = true := by
    intro i
    constructor
    · rintro (z | z)
      · exact uU_sub _ _ ((u1 i).mp z)
      · rw [b_or_iff] at z
        rw [uS_s]
        rcases z with z | z
        · exact Or.inl ((a2 i).mp (Or.inr z))
        · obtain ⟨⟨⟨k, k1, k2⟩, -⟩, -⟩ := (h2 i).mp z
          refine Or.inr (Or.inr ⟨k, (a2 k).mp ?_, k2⟩)
          rcases k1 with k1 | k1
          · exact Or.inl (a3 k k1)
          · exact a4 k k1
    · intro z
      rw [uS_s] at z
      rw [b_or_iff, b_or_iff]
      rcases z with z | z | ⟨j, z1, z2⟩
      · rcases (a2 i).mpr z with y | y
        · exact Or.inl (Or.inl y)
        · exact Or.inr (Or.inl y)
      · have := (u1 i).mpr (uU_s.mpr (Or.inr z))
        rw [b_or_iff] at this
        exact Or.inl this
      · rcases a6 j i ((a2 j).mpr z1) z2 with y | y
        · rcases y with y | y
          · exact Or.inl (Or.inl y)
          · exact Or.inr (Or.inl y)
        · by_cases c1 : bt x2 i = true ∨ bt nu i = true
          · exact Or.inl c1
          · by_cases c2 : bt x3 i = true
            · exact Or.inr (Or.inl c2)
            · exact Or.inr (Or.inr ((h2 i).mpr ⟨⟨y, c1⟩, c2⟩))
  refine ⟨⟨u1, u2, fun i z => b_or_iff.mpr (Or.inr z), fun i z => Or.inr (b_or_iff.mpr (Or.inr z)), fun j i z1 z2 => ?_, fun j i z1 z2 => ?_⟩, fun i => ?_⟩
  · rw [b_or_iff] at z1
    rcases z1 with z1 | z1
    · left
      exact (u1 i).mpr (uU_s.mpr (Or.inr ⟨j, (a1 j).mp z1, z2⟩))
    · exact Or.inr ⟨j, z1, z2⟩
  · by_cases c : bt x2 j = true ∨ bt x3 j = true
    · left
      exact (u2 i).mpr (uS_s.mpr (Or.inr (Or.inr ⟨j, (a2 j).mp c, z2⟩)))
    · refine Or.inr ⟨j, ?_, z2⟩
      rw [b_or_iff, b_or_iff] at z1
      rcases z1 with (z | z) | (z | z)
      · exact absurd (Or.inl z) c
      · exact Or.inl z
      · exact absurd (Or.inr z) c
      · exact Or.inr z
  · rw [← a2 i, ← u2 i, b_or_iff, b_or_iff]
    constructor
    · rintro ⟨z | z, c⟩
      · exact ⟨Or.inl (Or.inr z), c⟩
      · exact ⟨Or.inr (Or.inr z), c⟩
    · rintro ⟨(z | z) | (z | z), c⟩
      · exact absurd (Or.inl z) c
      · exact ⟨Or.inl z, c⟩
      · exact absurd (Or.inr z) c
      · exact ⟨Or.inr z, c⟩
theorem uI_still {t : Nat} {x2 x3 x4 x5 : Int32} (h : uI P D a t x2 x3 x4 x5) (h4 : ∀ i, ¬ bt x4 i = true) (h5 : ∀ i, ¬ bt x5 i = true) : ∀ k i, (bt (uU P a (t + k)) i = true → bt (uU P a t) i = true) ∧ (bt (uS P D a (t + k)) i = true → bt (uS P D a t) i = true) := by
  obtain ⟨a1, a2, a3, a4, a5, a6⟩ := h
  intro k
  induction k with
  | zero => exact fun i => ⟨id, id⟩
  | succ k ih =>
    intro i
    have c1 : ∀ j i, bt (uU P a t) j = true → bt (P j) i = true → bt (uU P a t) i = true := fun j i z1 z2 => by
      rcases a5 j i ((a1 j).mpr z1) z2 with y | ⟨l, y, -⟩
      · exact (a1 i).mp y
      · exact absurd y (h4 l)
    constructor
    · intro z
      rw [show t + (k + 1) = (t + k) + 1 from rfl, uU_s] at z
      rcases z with z | ⟨j, z1, z2⟩
      · exact (ih i).1 z
      · exact c1 j i ((ih j).1 z1) z2
    · intro z
      rw [show t + (k + 1) = (t + k) + 1 from rfl, uS_s] at z
      rcases z with z | ⟨j, z1, z2⟩ | ⟨j, z1, z2⟩
      · exact (ih i).2 z
      · exact uU_sub _ _ (c1 j i ((ih j).1 z1) z2)
      · rcases a6 j i ((a2 j).mpr ((ih j).2 z1)) z2 with y | ⟨l, y, -⟩
        · exact (a2 i).mp y
        · rcases y with y | y
          · exact absurd y (h4 l)
          · exact absurd y (h5 l)
theorem uI_0 (ha : a < 32) : uI P D a 0 (lf_shl 1 (nI a)) 0 (lf_shl 1 (nI a)) 0 := by
  refine ⟨fun i => Iff.rfl, fun i => ⟨fun z => z.resolve_right (by rw [b_0]; decide), Or.inl⟩, fun i z => z, fun i z => absurd z (by rw [b_0]; decide), fun j i z1 z2 => Or.inr ⟨j, z1, z2⟩, fun j i z1 z2 => Or.inr ⟨j, ?_, z2⟩⟩
  rcases z1 with z | z
  · exact Or.inl z
  · rw [b_0] at z; cases z
/-- the sum of what is new -/
theorem sm_new {n t : Nat} (hn : n ≤ 24) (ht : t + 1 ≤ 48) {fr : Int32} (h : ∀ i, bt fr i = true ↔ bt (uS P D a (t + 1)) i = true ∧ ¬ bt (uS P D a t) i = true) (hb : ∀ i, bt fr i = true → i < n) : sm (fun w => if bt (uS P D a (t + 1)) w = true then fsw P D a w else 0) n = sm (fun w => if bt (uS P D a t) w = true then fsw P D a w else 0) n + (t + 1) * i_pc fr := by
  have e1 : i_pc fr = sm (fun w => if bt fr w = true then 1 else 0) n := by
    rw [i_pc_sm]
    exact sm_more (by omega) (fun k k1 k2 => if_neg (fun z => by have := hb k z; omega))
  rw [e1, ← sm_mul, ← sm_add]
  refine sm_congr (fun w hw => ?_)
  by_cases c0 : bt (uS P D a t) w = true
  · have c1 : bt (uS P D a (t + 1)) w = true := uS_s.mpr (Or.inl c0)
    rw [if_pos c0, if_pos c1, if_neg (fun z => ((h w).mp z).2 c0)]
    omega
  · by_cases c1 : bt (uS P D a (t + 1)) w = true
    · rw [if_neg c0, if_pos c1, if_pos ((h w).mpr ⟨c1, c0⟩)]
      have q1 := (fsw_iff (P := P) (D := D) (a := a) (w := w) (t := t + 1) ht).mp c1
      have q2 : ¬ fsw P D a w ≤ t := fun z => c0 ((fsw_iff (by omega)).mpr z)
      omega
    · rw [if_neg c0, if_neg c1, if_neg (fun z => c1 ((h w).mp z).1)]
      omega
end UP
