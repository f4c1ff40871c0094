/-! texts in lifted programs -/
def lf_tl (b : Nat) : Option Int32 := if 1000001 ≤ b ∧ b < 1000008 then some (nI (tx_len.getD (b - 1000001) 0)) else none
def lf_tc (b : Nat) (x : Int32) : Option Int32 := if 1000001 ≤ b ∧ b < 1000008 ∧ ¬ x < 0 ∧ x.toNatClampNeg < tx_len.getD (b - 1000001) 0 then some ((tx_byt.getD (b - 1000001) []).getD x.toNatClampNeg 0 &&& 255) else none
section LFT
variable {sc : Nat × (Nat → Int32)} {net : Nat} {P : Nat → Option pm_M} {d : Nat} {M : pm_M} {pc idx : Nat} {L : List (Option Value)} {rest : List Value} {z : pm_Z} {r : pm_O × pm_Z}
theorem lf_go.tl {b x1 x2 x3 : Nat} {v : Int32} (hi : pm_mi M pc = some (.invokevirtual idx)) (hm : pm_mm M idx = some (16, x1, x2, x3)) (h : lf_tl b = some v) (hc8 : pm_cat rest ≤ 8) (k : pm_go sc net P d M (pc + 3, L, .int v :: rest) z r) : pm_go sc net P d M (pc, L, .ref b :: rest) z r := by
  unfold lf_tl at h
  split at h
  · next hc =>
    have e9 := Option.some.inj h
    rw [← e9] at k
    refine pm_go.step ⟨0, fun N _ d' _ => pm_step_inv hi (Or.inr (Or.inl ⟨_, rfl⟩)) ?_⟩ k
    unfold pm_hi
    simp only [hm]
    rw [if_pos ⟨hc.1, hc.2, hc8⟩]
  · cases h
theorem lf_go.tc {b x1 x2 x3 : Nat} {x v : Int32} (hi : pm_mi M pc = some (.invokevirtual idx)) (hm : pm_mm M idx = some (17, x1, x2, x3)) (h : lf_tc b x = some v) (hc8 : pm_cat rest ≤ 8) (k : pm_go sc net P d M (pc + 3, L, .int v :: rest) z r) : pm_go sc net P d M (pc, L, .int x :: .ref b :: rest) z r := by
  unfold lf_tc at h
  split at h
  · next hc =>
    have e9 := Option.some.inj h
    rw [← e9] at k
    obtain ⟨c1, c2, c3, c4⟩ := hc
    refine pm_go.step ⟨0, fun N _ d' _ => pm_step_inv hi (Or.inr (Or.inl ⟨_, rfl⟩)) ?_⟩ k
    unfold pm_hi
    simp only [hm]
    rw [if_pos ⟨c1, c2, c3, c4, hc8⟩]
  · cases h
end LFT
