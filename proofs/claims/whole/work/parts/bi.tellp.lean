/-! news goes round: every way of telling that reaches as much as any other needs the same rounds -/
section TR
variable {n : Nat} {J : Nat → Nat → Bool}
/-- these fresh ones can all be told at once: each has a teller of its own -/
def TS (J : Nat → Nat → Bool) (n : Nat) (K A : Nat → Bool) : Prop := (∀ v, A v = true → v < n ∧ ¬ K v = true) ∧ ∃ p : Nat → Nat, (∀ v, A v = true → K (p v) = true ∧ J v (p v) = true) ∧ ∀ v w, A v = true → A w = true → p v = p w → v = w
def kU (K A : Nat → Bool) : Nat → Bool := fun v => K v || A v
theorem kU_iff {K A : Nat → Bool} {v : Nat} : kU K A v = true ↔ K v = true ∨ A v = true := by
  unfold kU
  rw [Bool.or_eq_true]
/-- all know after r rounds -/
def RT (J : Nat → Nat → Bool) (n : Nat) : Nat → (Nat → Bool) → Prop
  | 0, K => ∀ v, v < n → K v = true
  | r + 1, K => ∃ A, TS J n K A ∧ RT J n r (kU K A)
theorem RT_mono : ∀ (r : Nat) (K L : Nat → Bool), (∀ v, K v = true → L v = true) → RT J n r K → RT J n r L
  | 0, K, L, h, hr => fun v hv => h v (hr v hv)
  | r + 1, K, L, h, hr => by
    obtain ⟨A, ⟨a1, p, a2, a3⟩, hr⟩ := hr
    refine ⟨fun v => A v && !L v, ⟨fun v hv => ?_, p, fun v hv => ?_, fun v w hv hw e => ?_⟩, RT_mono r (kU K A) _ (fun v hv => ?_) hr⟩
    · rw [Bool.and_eq_true] at hv
      refine ⟨(a1 v hv.1).1, fun z => ?_⟩
      rw [z] at hv
      exact absurd hv.2 (by decide)
    · rw [Bool.and_eq_true] at hv
      exact ⟨h _ (a2 v hv.1).1, (a2 v hv.1).2⟩
    · rw [Bool.and_eq_true] at hv hw
      exact a3 v w hv.1 hw.1 e
    · rw [kU_iff] at hv ⊢
      by_cases c : L v = true
      · exact Or.inl c
      · rcases hv with z | z
        · exact Or.inl (h v z)
        · refine Or.inr ?_
          rw [Bool.and_eq_true]
          refine ⟨z, ?_⟩
          cases e : L v with
          | false => rfl
          | true => exact absurd e c
/-- all know after r rounds of a way of telling -/
def RF (Nx : (Nat → Bool) → (Nat → Bool) → Prop) (n : Nat) : Nat → (Nat → Bool) → Prop
  | 0, K => ∀ v, v < n → K v = true
  | r + 1, K => ∃ L, Nx K L ∧ RF Nx n r L
theorem RF_RT {Nx : (Nat → Bool) → (Nat → Bool) → Prop} {Ok : (Nat → Bool) → Prop} (h0 : ∀ K L, Ok K → Nx K L → Ok L) (h1 : ∀ K L, Ok K → Nx K L → ∃ A, TS J n K A ∧ ∀ v, L v = true ↔ K v = true ∨ A v = true) (h2 : ∀ K A, Ok K → TS J n K A → ∃ L, Nx K L ∧ ∀ v, K v = true ∨ A v = true → L v = true) : ∀ (r : Nat) (K : Nat → Bool), Ok K → (RF Nx n r K ↔ RT J n r K)
  | 0, _, _ => Iff.rfl
  | r + 1, K, hk => by
    constructor
    · rintro ⟨L, l1, l2⟩
      obtain ⟨A, a1, a2⟩ := h1 K L hk l1
      exact ⟨A, a1, RT_mono r L _ (fun v hv => kU_iff.mpr ((a2 v).mp hv)) ((RF_RT h0 h1 h2 r L (h0 K L hk l1)).mp l2)⟩
    · rintro ⟨A, a1, a2⟩
      obtain ⟨L, l1, l2⟩ := h2 K A hk a1
      exact ⟨L, l1, (RF_RT h0 h1 h2 r L (h0 K L hk l1)).mpr (RT_mono r (kU K A) L (fun v hv => l2 v (kU_iff.mp hv)) a2)⟩
end TR
