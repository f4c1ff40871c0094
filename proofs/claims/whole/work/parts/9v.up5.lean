/-! the model's 48 places -/
def uDD (P D : Nat → Int32) (a : Nat) : Nat → Int32
  | 0 => 0
  | t + 1 => uDD P D a t ||| us D (uU P a t ||| uDD P D a t)
def rB (P D : Nat → Int32) (a t y : Nat) : Bool := if y < 24 then bt (uU P a t) y else bt (uDD P D a t) (y - 24)
def eB (P D : Nat → Int32) (x y : Nat) : Bool := if x < 24 then (if y < 24 then bt (P x) y else bt (D x) (y - 24)) else (if y < 24 then false else bt (D (x - 24)) (y - 24))
def fB (P D : Nat → Int32) (a y : Nat) : Nat := fa_first (fun s => rB P D a s y) 49
section UV
variable {P D : Nat → Int32} {a n : Nat}
theorem uDD_s {t i : Nat} : bt (uDD P D a (t + 1)) i = true ↔ bt (uDD P D a t) i = true ∨ ∃ j, (bt (uU P a t) j = true ∨ bt (uDD P D a t) j = true) ∧ bt (D j) i = true := by
  show bt (uDD P D a t ||| us D (uU P a t ||| uDD P D a t)) i = true ↔ _
  rw [b_or_iff, us_bt]
  simp only [b_or_iff]
theorem uS_DD : ∀ t i, bt (uS P D a t) i = true ↔ bt (uU P a t) i = true ∨ bt (uDD P D a t) i = true := by
  intro t
  induction t with
  | zero =>
    intro i
    show bt (lf_shl 1 (nI a)) i = true ↔ bt (lf_shl 1 (nI a)) i = true ∨ bt 0 i = true
    rw [b_0]
    exact ⟨Or.inl, fun z => z.resolve_right (by decide)⟩
  | succ t ih =>
    intro i
    rw [uS_s, uU_s, uDD_s, ih i]
    constructor
    · rintro ((z | z) | z | ⟨j, z1, z2⟩)
      · exact Or.inl (Or.inl z)
      · exact Or.inr (Or.inl z)
      · exact Or.inl (Or.inr z)
      · exact Or.inr (Or.inr ⟨j, (ih j).mp z1, z2⟩)
    · rintro ((z | z) | z | ⟨j, z1, z2⟩)
      · exact Or.inl (Or.inl z)
      · exact Or.inr (Or.inl z)
      · exact Or.inl (Or.inr z)
      · exact Or.inr (Or.inr ⟨j, (ih j).mpr z1, z2⟩)
theorem uU_in (ha : a < n) (hn : n ≤ 24) (hP : ∀ j i, bt (P j) i = true → i < n) : ∀ t i, bt (uU P a t) i = true → i < n := by
  intro t
  induction t with
  | zero => intro i z; have := (b_one (by omega)).mp z; omega
  | succ t ih =>
    intro i z
    rcases uU_s.mp z with z | ⟨j, -, z⟩
    · exact ih i z
    · exact hP j i z
theorem uDD_in (hD : ∀ j i, bt (D j) i = true → i < n) : ∀ t i, bt (uDD P D a t) i = true → i < n := by
  intro t
  induction t with
  | zero =>
    intro i z
    rw [show uDD P D a 0 = 0 from rfl, b_0] at z
    cases z
  | succ t ih =>
    intro i z
    rcases uDD_s.mp z with z | ⟨j, -, z⟩
    · exact ih i z
    · exact hD j i z
theorem rB_s (ha : a < n) (hn : n ≤ 24) (hP : ∀ j i, bt (P j) i = true → i < n) (hD : ∀ j i, bt (D j) i = true → i < n) {t y : Nat} : rB P D a (t + 1) y = true ↔ rB P D a t y = true ∨ ∃ x, x < 48 ∧ rB P D a t x = true ∧ eB P D x y = true := by
  unfold rB eB
  by_cases c : y < 24
  · rw [if_pos c, if_pos c, uU_s]
    constructor
    · rintro (z | ⟨j, z1, z2⟩)
      · exact Or.inl z
      · have := uU_in ha hn hP t j z1
        exact Or.inr ⟨j, by omega, by rw [if_pos (by omega)]; exact z1, by rw [if_pos (by omega), if_pos c]; exact z2⟩
    · rintro (z | ⟨x, z0, z1, z2⟩)
      · exact Or.inl z
      · by_cases d : x < 24
        · rw [if_pos d] at z1
          rw [if_pos d, if_pos c] at z2
          exact Or.inr ⟨x, z1, z2⟩
        · rw [if_neg d, if_pos c] at z2
          cases z2
  · rw [if_neg c, if_neg c, uDD_s]
    constructor
    · rintro (z | ⟨j, z1 | z1, z2⟩)
      · exact Or.inl z
      · have := uU_in ha hn hP t j z1
        exact Or.inr ⟨j, by omega, by rw [if_pos (by omega)]; exact z1, by rw [if_pos (by omega), if_neg c]; exact z2⟩
      · have := uDD_in (P := P) (D := D) (a := a) hD t j z1
        exact Or.inr ⟨j + 24, by omega, by rw [if_neg (by omega), show j + 24 - 24 = j by omega]; exact z1, by rw [if_neg (by omega), if_neg c, show j + 24 - 24 = j by omega]; exact z2⟩
    · rintro (z | ⟨x, z0, z1, z2⟩)
      · exact Or.inl z
      · by_cases d : x < 24
        · rw [if_pos d] at z1
          rw [if_pos d, if_neg c] at z2
          exact Or.inr ⟨x, Or.inl z1, z2⟩
        · rw [if_neg d] at z1
          rw [if_neg d, if_neg c] at z2
          exact Or.inr ⟨x - 24, Or.inr z1, z2⟩
theorem rB_mono (ha : a < n) (hn : n ≤ 24) (hP : ∀ j i, bt (P j) i = true → i < n) (hD : ∀ j i, bt (D j) i = true → i < n) {t y : Nat} (h : rB P D a t y = true) : ∀ k, rB P D a (t + k) y = true := by
  intro k
  induction k with
  | zero => exact h
  | succ k ih => exact (rB_s ha hn hP hD).mpr (Or.inl ih)
theorem fB_iff (ha : a < n) (hn : n ≤ 24) (hP : ∀ j i, bt (P j) i = true → i < n) (hD : ∀ j i, bt (D j) i = true → i < n) {t y : Nat} (ht : t ≤ 48) : rB P D a t y = true ↔ fB P D a y ≤ t := by
  constructor
  · intro h
    apply Classical.byContradiction
    intro c
    have := fa_first_no (fun s => rB P D a s y) 49 t (by unfold fB at c; omega)
    rw [h] at this
    cases this
  · intro h
    have h1 : rB P D a (fB P D a y) y = true := fa_first_yes (fun s => rB P D a s y) 49 (by unfold fB at h; omega)
    have := rB_mono ha hn hP hD h1 (t - fB P D a y)
    rwa [show fB P D a y + (t - fB P D a y) = t by omega] at this
/-- the lesser of both layers -/
theorem fsw_min (ha : a < n) (hn : n ≤ 24) (hP : ∀ j i, bt (P j) i = true → i < n) (hD : ∀ j i, bt (D j) i = true → i < n) {w : Nat} (hw : w < n) (h : fsw P D a w ≤ 48) : fsw P D a w = if fB P D a (w + 24) < fB P D a w then fB P D a (w + 24) else fB P D a w := by
  have key : ∀ t, t ≤ 48 → (fsw P D a w ≤ t ↔ fB P D a w ≤ t ∨ fB P D a (w + 24) ≤ t) := by
    intro t ht
    rw [← fsw_iff ht, uS_DD, ← fB_iff ha hn hP hD ht, ← fB_iff ha hn hP hD ht]
    unfold rB
    rw [if_pos (by omega), if_neg (by omega), show w + 24 - 24 = w by omega]
  have k1 := (key _ h).mp (Nat.le_refl _)
  have l1 : fB P D a w ≤ 49 := fa_first_le _ _
  have l2 : fB P D a (w + 24) ≤ 49 := fa_first_le _ _
  have k2 : fB P D a w ≤ 48 → fsw P D a w ≤ fB P D a w := fun z => (key _ z).mpr (Or.inl (Nat.le_refl _))
  have k3 : fB P D a (w + 24) ≤ 48 → fsw P D a w ≤ fB P D a (w + 24) := fun z => (key _ z).mpr (Or.inr (Nat.le_refl _))
  split <;> omega
/-- the places, while the level t is at work -/
def vL (σ : hp_S) (P D : Nat → Int32) (a t : Nat) : Prop := ∀ y, y < 48 → (rB P D a t y = true → σ.1 114 y = nI (fB P D a y)) ∧ (¬ rB P D a t y = true → σ.1 114 y = -1 ∨ (σ.1 114 y = nI (t + 1) ∧ rB P D a (t + 1) y = true))
def vF (σ : hp_S) (P D : Nat → Int32) (a t : Nat) (x3 : Int32) : Prop := (x3 = 0 ∨ x3 = 1) ∧ (x3 = 0 → ∀ y, y < 48 → ¬ rB P D a t y = true → σ.1 114 y = -1) ∧ (x3 = 1 → ∃ y, y < 48 ∧ ¬ rB P D a t y = true ∧ rB P D a (t + 1) y = true)
def vK (σ τ : hp_S) : Prop := ∀ y, y < 48 → ¬ σ.1 114 y = -1 → ¬ τ.1 114 y = -1
end UV
