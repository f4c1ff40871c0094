/-! one left one finds a partner, if need be one whose own finds another -/
def svA (mt : Nat → Nat) (s t : Nat) : Nat → Nat := fun x => if x = s then t else mt x
theorem svA_at {mt : Nat → Nat} {s t : Nat} : svA mt s t s = t := if_pos rfl
theorem svA_ne {mt : Nat → Nat} {s t x : Nat} (h : x ≠ s) : svA mt s t x = mt x := if_neg h
/-- what is so when it has found one: T were tried before -/
def SVo (E : Nat → Nat → Bool) (n t : Nat) (T : Nat → Bool) (mt mt' : Nat → Nat) (D Z : Nat → Bool) : Prop :=
  ¬ D t = true ∧
  (∀ s, s < 24 → T s = true → mt' s = mt s) ∧
  (∀ s, s < 24 → Z s = true → mt' s = mt s) ∧
  (∃ s, s < 24 ∧ ¬ T s = true ∧ mt' s = t) ∧
  (∀ s, s < 24 → mt' s ≠ mt s → mt' s = t ∨ ∃ s0, s0 < 24 ∧ ¬ T s0 = true ∧ mt s0 = mt' s) ∧
  (∀ s z, s < 24 → z < 24 → mt' s = mt' z → mt' s ≠ 99 → s = z ∨ (mt' s = t ∧ (T s = true ∨ T z = true))) ∧
  (∀ x, x ≠ 99 → (∃ s, s < 24 ∧ mt s = x) → ∃ s, s < 24 ∧ mt' s = x) ∧
  mtn mt' = mtn mt + 1 ∧
  (∀ s, s < 24 → mt' s ≠ 99 → mt' s < n ∧ E (mt' s) s = true)
section SV
variable {E : Nat → Nat → Bool} {n t s1 : Nat} {T : Nat → Bool} {mt : Nat → Nat} {D Z : Nat → Bool}
theorem SV_base (hn : n ≤ 24) (ht : t < n) (hs : s1 < 24) (hE : E t s1 = true) (hT : ¬ T s1 = true) (hm : mt s1 = 99) (v1 : ∀ s, s < 24 → mt s ≠ 99 → mt s < n ∧ E (mt s) s = true) (v2 : ∀ s z, s < 24 → z < 24 → mt s ≠ 99 → mt s = mt z → s = z) (hD : ∀ x s, s < 24 → D x = true → E x s = true → Z s = true) (hZ : ∀ s, s < 24 → Z s = true → mt s ≠ 99 ∧ D (mt s) = true) (htT : ∀ s, s < 24 → mt s = t → T s = true) : SVo E n t T mt (svA mt s1 t) D Z := by
  have nZ : ¬ Z s1 = true := fun z => (hZ s1 hs z).1 hm
  refine ⟨fun d => nZ (hD t s1 hs d hE), fun s h1 h2 => svA_ne (fun e => hT (by rw [← e]; exact h2)), fun s h1 h2 => svA_ne (fun e => nZ (by rw [← e]; exact h2)), ⟨s1, hs, hT, svA_at⟩, fun s h1 h2 => ?_, fun s z h1 h2 h3 h4 => ?_, fun x hx hex => ?_, ?_, fun s h1 h2 => ?_⟩
  · by_cases c : s = s1
    · rw [c]; exact Or.inl svA_at
    · exact absurd (svA_ne c) h2
  · by_cases c : s = s1
    · by_cases c2 : z = s1
      · exact Or.inl (by omega)
      · subst c
        rw [svA_at, svA_ne c2] at h3
        exact Or.inr ⟨svA_at, Or.inr (htT z h2 h3.symm)⟩
    · by_cases c2 : z = s1
      · subst c2
        rw [svA_at, svA_ne c] at h3
        exact Or.inr ⟨by rw [svA_ne c]; exact h3, Or.inl (htT s h1 h3)⟩
      · rw [svA_ne c, svA_ne c2] at h3
        rw [svA_ne c] at h4
        exact Or.inl (v2 s z h1 h2 h4 h3)
  · obtain ⟨s, a1, a2⟩ := hex
    refine ⟨s, a1, ?_⟩
    rw [svA_ne (fun e => by rw [e, hm] at a2; exact hx a2.symm)]
    exact a2
  · have := sm_upd (F := fun y => if mt y = 99 then 0 else 1) (G := fun y => if svA mt s1 t y = 99 then 0 else 1) (c := 1) (k0 := s1) (n := 24) hs (fun k _ hk => by rw [svA_ne hk]) (by rw [if_pos hm, svA_at, if_neg (by omega)])
    exact this.symm
  · by_cases c : s = s1
    · subst c
      rw [svA_at]
      exact ⟨ht, hE⟩
    · rw [svA_ne c] at h2 ⊢
      exact v1 s h1 h2
theorem SV_rec {mt2 : Nat → Nat} (hn : n ≤ 24) (ht : t < n) (hs : s1 < 24) (hE : E t s1 = true) (hT : ¬ T s1 = true) (hm : mt s1 ≠ 99) (v2 : ∀ s z, s < 24 → z < 24 → mt s ≠ 99 → mt s = mt z → s = z) (hD : ∀ x s, s < 24 → D x = true → E x s = true → Z s = true) (hZ : ∀ s, s < 24 → Z s = true → mt s ≠ 99 ∧ D (mt s) = true) (htT : ∀ s, s < 24 → mt s = t → T s = true) (T2 : Nat → Bool) (hT2 : ∀ s, T2 s = true ↔ T s = true ∨ s = s1) (h : SVo E n (mt s1) T2 mt mt2 D Z) : SVo E n t T mt (svA mt2 s1 t) D Z := by
  obtain ⟨r0, r1, r2, r3, r4, r5, r6, r7, r8⟩ := h
  have nZ : ¬ Z s1 = true := fun z => r0 (hZ s1 hs z).2
  have e1 : mt2 s1 = mt s1 := r1 s1 hs ((hT2 s1).mpr (Or.inr rfl))
  have hne : mt s1 ≠ t := fun e => hT (htT s1 hs e)
  refine ⟨fun d => nZ (hD t s1 hs d hE), fun s h1 h2 => ?_, fun s h1 h2 => ?_, ⟨s1, hs, hT, svA_at⟩, fun s h1 h2 => ?_, fun s z h1 h2 h3 h4 => ?_, fun x hx hex => ?_, ?_, fun s h1 h2 => ?_⟩
  · rw [svA_ne (fun e => hT (by rw [← e]; exact h2))]
    exact r1 s h1 ((hT2 s).mpr (Or.inl h2))
  · rw [svA_ne (fun e => nZ (by rw [← e]; exact h2))]
    exact r2 s h1 h2
  · by_cases c : s = s1
    · rw [c]; exact Or.inl svA_at
    · rw [svA_ne c] at h2 ⊢
      rcases r4 s h1 h2 with g | ⟨s0, g1, g2, g3⟩
      · exact Or.inr ⟨s1, hs, hT, g.symm⟩
      · exact Or.inr ⟨s0, g1, fun q => g2 ((hT2 s0).mpr (Or.inl q)), g3⟩
  · have hst : ∀ z, z < 24 → z ≠ s1 → mt2 z = t → T z = true := by
      intro z hz hzs hzt
      by_cases g : mt2 z = mt z
      · exact htT z hz (by rw [← g]; exact hzt)
      · rcases r4 z hz g with k | ⟨s0, k1, k2, k3⟩
        · exact absurd (by rw [← k]; exact hzt) hne
        · exact absurd ((hT2 s0).mpr (Or.inl (htT s0 k1 (by rw [k3]; exact hzt)))) k2
    by_cases c : s = s1
    · by_cases c2 : z = s1
      · exact Or.inl (by omega)
      · subst c
        rw [svA_at, svA_ne c2] at h3
        exact Or.inr ⟨svA_at, Or.inr (hst z h2 c2 h3.symm)⟩
    · by_cases c2 : z = s1
      · subst c2
        rw [svA_at, svA_ne c] at h3
        exact Or.inr ⟨by rw [svA_ne c]; exact h3, Or.inl (hst s h1 c h3)⟩
      · rw [svA_ne c, svA_ne c2] at h3
        rw [svA_ne c] at h4
        rcases r5 s z h1 h2 h3 h4 with g | ⟨g1, g2⟩
        · exact Or.inl g
        · exfalso
          have key : ∀ w, w < 24 → w ≠ s1 → mt2 w = mt s1 → T2 w = true → False := by
            intro w hw hws hwe hwT
            have := r1 w hw hwT
            rw [hwe] at this
            exact hws (v2 w s1 hw hs (by rw [← this]; exact hm) this.symm)
          rcases g2 with g2 | g2
          · exact key s h1 c g1 g2
          · exact key z h2 c2 (by rw [← h3]; exact g1) g2
  · by_cases hx1 : x = mt s1
    · obtain ⟨s, a1, a2, a3⟩ := r3
      refine ⟨s, a1, ?_⟩
      rw [svA_ne (fun e => a2 ((hT2 s).mpr (Or.inr e))), hx1]
      exact a3
    · obtain ⟨s, a1, a2⟩ := r6 x hx hex
      refine ⟨s, a1, ?_⟩
      rw [svA_ne (fun e => hx1 (by rw [← a2, e, e1]))]
      exact a2
  · rw [← r7]
    refine sm_congr (fun y hy => ?_)
    by_cases c : y = s1
    · rw [c, svA_at, e1, if_neg hm, if_neg (by omega)]
    · rw [svA_ne c]
  · by_cases c : s = s1
    · subst c
      rw [svA_at]
      exact ⟨ht, hE⟩
    · rw [svA_ne c] at h2 ⊢
      exact r8 s h1 h2
/-- a search that found one -/
theorem AI.succ {m i : Nat} {mt' : Nat → Nat} (hi : i < 24) (h : AI E m i mt D Z) (hs : SVo E (i + 1) i (fun _ => false) mt mt' D Z) : AI E m (i + 1) mt' D Z := by
  obtain ⟨a1, a2, a3, a4, a5, a6⟩ := h
  obtain ⟨r0, r1, r2, r3, r4, r5, r6, r7, r8⟩ := hs
  refine ⟨r8, fun y z hy hz h1 h2 => ?_, fun x hx => Nat.lt_succ_of_lt (a3 x hx), a4, fun y hy hz => by rw [r2 y hy hz]; exact a5 y hy hz, fun x hx => ?_⟩
  · rcases r5 y z hy hz h2 h1 with g | ⟨-, g | g⟩
    · exact g
    · cases g
    · cases g
  · by_cases c : x = i
    · obtain ⟨s, b1, -, b3⟩ := r3
      exact Or.inl ⟨s, b1, by rw [c]; exact b3⟩
    · rcases a6 x (by omega) with ⟨y, y1, y2⟩ | g
      · exact Or.inl (r6 x (by omega) ⟨y, y1, y2⟩)
      · exact Or.inr g
end SV
section SW
variable {E : Nat → Nat → Bool} {n t : Nat} {T T3 : Nat → Bool} {mt mt' : Nat → Nat} {D Z : Nat → Bool}
theorem SV_weak (hTT : ∀ s, T s = true → T3 s = true) (htT : ∀ s, s < 24 → mt s = t → T s = true) (h : SVo E n t T3 mt mt' D Z) : SVo E n t T mt mt' D Z := by
  obtain ⟨r0, r1, r2, r3, r4, r5, r6, r7, r8⟩ := h
  refine ⟨r0, fun s h1 h2 => r1 s h1 (hTT s h2), r2, ?_, fun s h1 h2 => ?_, fun s z h1 h2 h3 h4 => ?_, r6, r7, r8⟩
  · obtain ⟨s, a1, a2, a3⟩ := r3
    exact ⟨s, a1, fun q => a2 (hTT s q), a3⟩
  · rcases r4 s h1 h2 with g | ⟨s0, g1, g2, g3⟩
    · exact Or.inl g
    · exact Or.inr ⟨s0, g1, fun q => g2 (hTT s0 q), g3⟩
  · rcases r5 s z h1 h2 h3 h4 with g | ⟨g1, g2⟩
    · exact Or.inl g
    · refine Or.inr ⟨g1, ?_⟩
      rcases g2 with g2 | g2
      · exact Or.inl (htT s h1 (by rw [← r1 s h1 g2]; exact g1))
      · exact Or.inr (htT z h2 (by rw [← r1 z h2 g2, ← h3]; exact g1))
/-- a search that found none -/
theorem AI.fail {m i : Nat} {V : Nat → Bool} (h : AI E m i mt D Z) (f1 : ∀ s, s < 24 → E i s = true → V s = true) (f2 : ∀ s, s < 24 → V s = true → mt s ≠ 99 ∧ ∀ z, z < 24 → E (mt s) z = true → V z = true) : ∃ D' Z', AI E m (i + 1) mt D' Z' := by
  obtain ⟨a1, a2, a3, a4, a5, a6⟩ := h
  have hD : ∀ x, (D x || decide (x = i) || (List.range 24).any (fun y => V y && decide (mt y = x))) = true ↔ D x = true ∨ x = i ∨ ∃ y, y < 24 ∧ V y = true ∧ mt y = x := by
    intro x
    rw [Bool.or_eq_true, Bool.or_eq_true, decide_eq_true_iff, List.any_eq_true]
    constructor
    · rintro ((g | g) | ⟨y, g1, g2⟩)
      · exact Or.inl g
      · exact Or.inr (Or.inl g)
      · rw [Bool.and_eq_true, decide_eq_true_iff] at g2
        exact Or.inr (Or.inr ⟨y, List.mem_range.mp g1, g2⟩)
    · rintro (g | g | ⟨y, g1, g2, g3⟩)
      · exact Or.inl (Or.inl g)
      · exact Or.inl (Or.inr g)
      · exact Or.inr ⟨y, List.mem_range.mpr g1, by rw [Bool.and_eq_true, decide_eq_true_iff]; exact ⟨g2, g3⟩⟩
  refine ⟨fun x => D x || decide (x = i) || (List.range 24).any (fun y => V y && decide (mt y = x)), fun y => Z y || V y, fun y hy h1 => ⟨Nat.lt_succ_of_lt (a1 y hy h1).1, (a1 y hy h1).2⟩, a2, fun x hx => ?_, fun x y hy hx he => ?_, fun y hy hz => ?_, fun x hx => ?_⟩
  · rcases (hD x).mp hx with g | g | ⟨y, g1, g2, g3⟩
    · exact Nat.lt_succ_of_lt (a3 x g)
    · omega
    · have := (a1 y g1 (f2 y g1 g2).1).1
      omega
  · show (Z y || V y) = true
    rw [Bool.or_eq_true]
    rcases (hD x).mp hx with g | g | ⟨z, g1, g2, g3⟩
    · exact Or.inl (a4 x y hy g he)
    · exact Or.inr (f1 y hy (by rw [← g]; exact he))
    · exact Or.inr ((f2 z g1 g2).2 y hy (by rw [g3]; exact he))
  · have hz' : (Z y || V y) = true := hz
    rw [Bool.or_eq_true] at hz'
    rcases hz' with g | g
    · exact ⟨(a5 y hy g).1, (hD _).mpr (Or.inl (a5 y hy g).2)⟩
    · exact ⟨(f2 y hy g).1, (hD _).mpr (Or.inr (Or.inr ⟨y, hy, g, rfl⟩))⟩
  · by_cases c : x = i
    · exact Or.inr ((hD x).mpr (Or.inr (Or.inl c)))
    · rcases a6 x (by omega) with g | g
      · exact Or.inl g
      · exact Or.inr ((hD x).mpr (Or.inl g))
end SW
