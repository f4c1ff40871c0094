section LFS
variable {sc : Nat × (Nat → Int32)} {net : Nat} {P : Nat → Option pm_M} {d : Nat} {M : pm_M} {pc : Nat} {L : List (Option Value)} {z : pm_Z} {r : pm_O × pm_Z} {rest : List Value}
theorem pm_go.div {x y : Int32} (hi : pm_mi M pc = some .idiv) (hy : ¬ y = 0) (k : pm_go sc net P d M (pc + 1, L, .int (x / y) :: rest) z r) : pm_go sc net P d M (pc, L, .int y :: .int x :: rest) z r := by
  refine pm_go.step ⟨0, fun N _ d' _ => ?_⟩ k
  unfold pm_step
  rw [hi]
  have e1 : pm_pure .idiv pc L (.int y :: .int x :: rest) = some (pc + 1, L, .int (x / y) :: rest) := by
    show (match (if y = 0 then none else some (pc + 1, L, .int (x / y) :: rest) : Option pm_T) with
      | some t => some t
      | none => _) = _
    rw [if_neg hy]
  simp only [e1]
theorem pm_go.rem {x y : Int32} (hi : pm_mi M pc = some .irem) (hy : ¬ y = 0) (k : pm_go sc net P d M (pc + 1, L, .int (x - x / y * y) :: rest) z r) : pm_go sc net P d M (pc, L, .int y :: .int x :: rest) z r := by
  refine pm_go.step ⟨0, fun N _ d' _ => ?_⟩ k
  unfold pm_step
  rw [hi]
  have e1 : pm_pure .irem pc L (.int y :: .int x :: rest) = some (pc + 1, L, .int (x - x / y * y) :: rest) := by
    show (match (if y = 0 then none else some (pc + 1, L, .int (x - x / y * y) :: rest) : Option pm_T) with
      | some t => some t
      | none => _) = _
    rw [if_neg hy]
  simp only [e1]
theorem pm_go.ldiv {x y : Int64} (hi : pm_mi M pc = some .ldiv) (hy : ¬ y = 0) (k : pm_go sc net P d M (pc + 1, L, .long (x / y) :: rest) z r) : pm_go sc net P d M (pc, L, .long y :: .long x :: rest) z r := by
  refine pm_go.step ⟨0, fun N _ d' _ => ?_⟩ k
  unfold pm_step
  rw [hi]
  have e1 : pm_pure .ldiv pc L (.long y :: .long x :: rest) = some (pc + 1, L, .long (x / y) :: rest) := by
    show (match (if y = 0 then none else some (pc + 1, L, .long (x / y) :: rest) : Option pm_T) with
      | some t => some t
      | none => _) = _
    rw [if_neg hy]
  simp only [e1]
theorem pm_go.zret {x : Int32} (hi : pm_mi M pc = some .ireturn) (ht : pm_mt M = 2) (hx : x = 0 ∨ x = 1) : pm_go sc net P d M (pc, L, [.int x]) z (.inl (some (.int x)), z) := by
  refine pm_go.fin ⟨0, fun N _ d' _ => ?_⟩
  unfold pm_step
  rw [hi]
  show pm_hr M .ireturn [.int x] z = _
  unfold pm_hr
  rw [ht]
  simp only
  rw [if_pos hx]
end LFS
theorem lf_sw0_3 {x : Int32} (h0 : ¬ x = 0) (h1 : ¬ x = 1) (h2 : ¬ x = 2) (h3 : ¬ x = 3) : x.toInt < 0 ∨ 3 < x.toInt := by
  by_cases q1 : x.toInt < 0
  · exact Or.inl q1
  · by_cases q2 : 3 < x.toInt
    · exact Or.inr q2
    · exfalso
      have q3 : x.toInt = 0 ∨ x.toInt = 1 ∨ x.toInt = 2 ∨ x.toInt = 3 := by omega
      rcases q3 with e | e | e | e
      · exact h0 (Int32.toInt_inj.mp (by rw [e]; rfl))
      · exact h1 (Int32.toInt_inj.mp (by rw [e]; rfl))
      · exact h2 (Int32.toInt_inj.mp (by rw [e]; rfl))
      · exact h3 (Int32.toInt_inj.mp (by rw [e]; rfl))
theorem lf_sw0_4 {x : Int32} (h0 : ¬ x = 0) (h1 : ¬ x = 1) (h2 : ¬ x = 2) (h3 : ¬ x = 3) (h4 : ¬ x = 4) : x.toInt < 0 ∨ 4 < x.toInt := by
  rcases lf_sw0_3 h0 h1 h2 h3 with q | q
  · exact Or.inl q
  · by_cases q2 : 4 < x.toInt
    · exact Or.inr q2
    · exact absurd (Int32.toInt_inj.mp (show x.toInt = (4 : Int32).toInt by rw [show x.toInt = 4 by omega]; rfl)) h4
theorem lf_sw0_5 {x : Int32} (h0 : ¬ x = 0) (h1 : ¬ x = 1) (h2 : ¬ x = 2) (h3 : ¬ x = 3) (h4 : ¬ x = 4) (h5 : ¬ x = 5) : x.toInt < 0 ∨ 5 < x.toInt := by
  rcases lf_sw0_4 h0 h1 h2 h3 h4 with q | q
  · exact Or.inl q
  · by_cases q2 : 5 < x.toInt
    · exact Or.inr q2
    · exact absurd (Int32.toInt_inj.mp (show x.toInt = (5 : Int32).toInt by rw [show x.toInt = 5 by omega]; rfl)) h5
theorem pm_go.wkn {sc : Nat × (Nat → Int32)} {net : Nat} {P : Nat → Option pm_M} {d : Nat} {M : pm_M} {pc : Nat} {L0 L : List (Option Value)} {st : List Value} {z : pm_Z} {r : pm_O × pm_Z} (h : pm_go sc net P d M (pc, L0, st) z r) (hz : r.2.2.1 = z.2.1) (hx : pm_ext L0 L) : pm_go sc net P d M (pc, L, st) z r := pm_go.weak hx hz h
theorem pm_go.sub {sc : Nat × (Nat → Int32)} {net : Nat} {P : Nat → Option pm_M} {d : Nat} {M : pm_M} {pc : Nat} {L : List (Option Value)} {rest : List Value} {z : pm_Z} {r : pm_O × pm_Z} {x c : Int32} (hx : x = c) (k : pm_go sc net P d M (pc, L, .int c :: rest) z r) : pm_go sc net P d M (pc, L, .int x :: rest) z r := by
  rw [hx]
  exact k
