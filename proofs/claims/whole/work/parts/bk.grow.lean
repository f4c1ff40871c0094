section MK
variable {cs : Nat × Nat} {N m0 : Nat} {G : Nat → Int32}
/-- who has a partner keeps one -/
theorem m_mtc (hn : m0 ≤ 24) (hN : iv_N N) : ∀ (c x u : Nat) (mt : Nat → Nat) (D Z : Nat → Bool) (σ : hp_S), x + c = m0 → c < u → AI (fun a b => bt (G a) b) m0 x mt D Z → (∀ a, a < m0 → σ.1 110 a = G a) → RMt σ mt → ∃ τ mt' D' Z', fr [111, 112, 113] [] σ τ ∧ AI (fun a b => bt (G a) b) m0 m0 mt' D' Z' ∧ (∀ z, z ≠ 99 → (∃ s, s < 24 ∧ mt s = z) → ∃ s, s < 24 ∧ mt' s = z) ∧ g276_25 N u 72 (nI m0) (nI (mtn mt)) (nI x) (hp σ, cs) = some (.inl (some (.int (nI (mtn mt')))), (hp τ, cs)) := by
  intro c
  induction c with
  | zero =>
    intro x u mt D Z σ hx hu hA h110 hR
    obtain ⟨u, rfl⟩ : ∃ q, u = q + 1 := ⟨u - 1, by omega⟩
    have : x = m0 := by omega
    subst this
    refine ⟨σ, mt, D, Z, fr.rf, hA, fun _ _ h => h, ?_⟩
    unfold g276_25
    rw [if_pos (nI_le (by omega) (by omega))]
  | succ c ih =>
    intro x u mt D Z σ hx hu hA h110 hR
    obtain ⟨u, rfl⟩ : ∃ q, u = q + 1 := ⟨u - 1, by omega⟩
    have hA' := hA
    obtain ⟨a1, a2, a3, a4, a5, a6⟩ := hA'
    obtain ⟨σ1, b1, b2⟩ := m_im (N := N) (cs := cs) (n := m0) (x := x) (G := G) (mt := mt) (D := D) (Z := Z) (σ := σ) (y := nI m0) hn hN (by omega) (fun s h1 h2 => ⟨by have := (a1 s h1 h2).1; omega, (a1 s h1 h2).2⟩) a2 (fun x s h1 h2 h3 => a4 x s h1 h2 h3) a5 (fun s h1 h2 => by
      have := (a1 s h1 (by omega)).1
      omega) h110 hR
    rcases b2 with ⟨e1, e2, V, e3, e4⟩ | ⟨mt1, e1, e2, e3⟩
    · obtain ⟨D', Z', hA2⟩ := hA.fail (V := V) e3 e4
      obtain ⟨τ, mt', D2, Z2, p1, p2, p9, p3⟩ := ih (x + 1) u mt D' Z' σ1 (by omega) (by omega) hA2 (fun a ha => by rw [b1.r (by decide)]; exact h110 a ha) e2
      refine ⟨τ, mt', D2, Z2, b1.tr p1, p2, p9, ?_⟩
      unfold g276_25 g276_42
      rw [if_neg (nI_ge (by omega) (by omega)), o72, e1, lf_ci_r, if_pos rfl, nI_1]
      exact p3
    · have hA2 := hA.succ (show x < 24 by omega) (SV_cut (fun s z => by cases z) (fun s h1 h2 => (a1 s h1 h2).1) e3)
      have hcnt := e3.2.2.2.2.2.2.2.1
      obtain ⟨τ, mt', D2, Z2, p1, p2, p9, p3⟩ := ih (x + 1) u mt1 D Z σ1 (by omega) (by omega) hA2 (fun a ha => by rw [b1.r (by decide)]; exact h110 a ha) e2
      refine ⟨τ, mt', D2, Z2, b1.tr p1, p2, fun z hz h => p9 z hz (e3.2.2.2.2.2.2.1 z hz h), ?_⟩
      unfold g276_25 g276_42
      rw [if_neg (nI_ge (by omega) (by omega)), o72, e1, lf_ci_r, if_neg (by decide), nI_1, nI_1, ← hcnt]
      exact p3
/-- a matching that holds the first i of m0 grows to a greatest one that still holds them -/
theorem mt_grow {i : Nat} {mt : Nat → Nat} (hn : m0 ≤ 24) (hi : i ≤ m0) (hG : ∀ a b, bt (G a) b = true → a < m0) (hA : AI (fun a b => bt (G a) b) m0 i mt (fun _ => false) (fun _ => false)) : ∃ mt' D Z, AI (fun a b => bt (G a) b) m0 m0 mt' D Z ∧ VC (fun a b => bt (G a) b) (mtn mt') ∧ ∀ x, x < i → ∃ s, s < 24 ∧ mt' s = x := by
  have hN : iv_N 1000000000 := Nat.le_refl _
  obtain ⟨τ, mt', D, Z, -, p2, p9, -⟩ := m_mtc (N := 1000000000) (cs := (0, 0)) (G := G) hn hN (m0 - i) i 1000000000 mt (fun _ => false) (fun _ => false) ((fun r j => if r = 110 then G j else if r = 111 then (if mt j = 99 then -1 else nI (mt j)) else 0), fun _ _ => 0, fun _ _ => 0, fun _ _ => 0) (by omega) (by omega) hA (fun a _ => rfl) (fun s _ => rfl)
  refine ⟨mt', D, Z, p2, p2.vc hn (fun x y h => hG x y h), fun x hx => p9 x (by omega) ?_⟩
  rcases hA.2.2.2.2.2 x hx with h | h
  · exact h
  · cases h
end MK
