/-! levels of the model -/
section UX
variable {f : Nat → Int32} {n v a t N : Nat} {cs : Nat × Nat}
theorem rB_n (h : vH f n v a) {x : Nat} (hx : x < 48) (hr : rB (uPr f n v) (uDr f n v) a t x = true) : x % 24 < n := by
  obtain ⟨hn, hgw, hv, ha, hlt⟩ := h
  unfold rB at hr
  by_cases c : x < 24
  · rw [if_pos c] at hr
    rw [Nat.mod_eq_of_lt c]
    exact uU_in ha hn (fun j i z => uP_in hgw hn z) t x hr
  · rw [if_neg c] at hr
    rw [show x % 24 = x - 24 by omega]
    exact uDD_in (fun j i z => uD_in hgw hn z) t _ hr
theorem eB_n (h : vH f n v a) {x y : Nat} (he : eB (uPr f n v) (uDr f n v) x y = true) : (y < 24 ∧ y < n) ∨ (¬ y < 24 ∧ y - 24 < n) := by
  obtain ⟨hn, hgw, hv, ha, hlt⟩ := h
  unfold eB at he
  by_cases c : x < 24
  · rw [if_pos c] at he
    by_cases d : y < 24
    · rw [if_pos d] at he
      exact Or.inl ⟨d, uP_in hgw hn he⟩
    · rw [if_neg d] at he
      exact Or.inr ⟨d, uD_in hgw hn he⟩
  · rw [if_neg c] at he
    by_cases d : y < 24
    · rw [if_pos d] at he; cases he
    · rw [if_neg d] at he
      exact Or.inr ⟨d, uD_in hgw hn he⟩
theorem m_vX {k33 : Nat → Int32 → Int32 → Int32 → lf_W → lf_R} (h : vH f n v a) (hN : iv_N N) (ht : t ≤ 47) : ∀ (m x u : Nat) (x3 : Int32) (σ : hp_S), x + m = 48 → m < u → vC σ f n v → vL σ (uPr f n v) (uDr f n v) a t → vF σ (uPr f n v) (uDr f n v) a t x3 → ∃ (τ : hp_S) (x3' : Int32), fr [114] [] σ τ ∧ vL τ (uPr f n v) (uDr f n v) a t ∧ vF τ (uPr f n v) (uDr f n v) a t x3' ∧ vK σ τ ∧ (∀ x' y, x ≤ x' → x' < 48 → y < 48 → fB (uPr f n v) (uDr f n v) a x' = t → eB (uPr f n v) (uDr f n v) x' y = true → ¬ τ.1 114 y = -1) ∧ g281_42 N k33 u 72 (nI v) x3 (nI t) (nI x) (hp σ, cs) = k33 72 (nI v) x3' (nI (t + 1)) (hp τ, cs) := by
  have h' := h
  obtain ⟨hn, hgw, hv, ha, hlt⟩ := h'
  have fbi := fun (s y : Nat) (hs : s ≤ 48) => fB_iff (P := uPr f n v) (D := uDr f n v) (a := a) (t := s) (y := y) ha hn (fun j i z => uP_in hgw hn z) (fun j i z => uD_in hgw hn z) hs
  intro m
  induction m with
  | zero =>
    intro x u x3 σ hx hu hc hL hF
    obtain ⟨u, rfl⟩ : ∃ q, u = q + 1 := ⟨u - 1, by omega⟩
    refine ⟨σ, x3, fr.rf, hL, hF, fun _ _ q => q, fun x' y q1 q2 => by omega, ?_⟩
    unfold g281_42
    rw [if_pos (show (48 : Int32) ≤ nI x from nI_le (a := 48) (by omega) (by omega)), nI_1]
  | succ m ih =>
    intro x u x3 σ hx hu hc hL hF
    obtain ⟨u, rfl⟩ : ∃ q, u = q + 1 := ⟨u - 1, by omega⟩
    have iff0 : σ.1 114 x = nI t ↔ fB (uPr f n v) (uDr f n v) a x = t := by
      obtain ⟨l1, l2⟩ := hL x (by omega)
      by_cases c : rB (uPr f n v) (uDr f n v) a t x = true
      · have := (fbi t x (by omega)).mp c
        rw [l1 c, q_eq (by omega) (by omega)]
      · have nle : ¬ fB (uPr f n v) (uDr f n v) a x ≤ t := fun z => c ((fbi t x (by omega)).mpr z)
        constructor
        · intro z
          rcases l2 c with y | y
          · rw [y] at z
            exact absurd z.symm (by rw [q_ne1 (by omega)]; exact id)
          · rw [y.1, q_eq (by omega) (by omega)] at z
            omega
        · intro z; omega
    by_cases c : fB (uPr f n v) (uDr f n v) a x = t
    · have hr := (fbi t x (by omega)).mpr (by omega)
      obtain ⟨τ, x3', t1, t2, t3, t4, t5, t6⟩ := m_vW (cs := cs) (N := N) (k33 := k33) (k42 := g281_42 N k33 u) h ht (show x < 48 by omega) (rB_n h (by omega) hr) hr n 0 N x3 σ (by omega) (by unfold iv_N at hN; omega) hc hL hF
      obtain ⟨υ, x3'', v1, v2, v3, v4, v5, v6⟩ := ih (x + 1) u x3' τ (by omega) (by omega) (hc.fr t1) t2 t3
      refine ⟨υ, x3'', t1.tr v1, v2, v3, fun y hy q => v4 y hy (t4 y hy q), fun x' y q1 q2 q3 q4 q5 => ?_, ?_⟩
      · by_cases e : x' = x
        · subst e
          refine v4 y q3 ?_
          rcases eB_n h q5 with ⟨z1, z2⟩ | ⟨z1, z2⟩
          · exact t5 y y (Nat.zero_le _) (Or.inl rfl) z2 q5
          · exact t5 (y - 24) y (Nat.zero_le _) (Or.inr (by omega)) z2 q5
        · exact v5 x' y (by omega) q2 q3 q4 q5
      · rw [← v6, ← t6]
        conv => lhs; unfold g281_42
        rw [if_neg (show ¬ (48 : Int32) ≤ nI x from nI_ge (b := 48) (by omega) (by omega)), r72_72, a114 (by omega), if_pos (iff0.mpr c), show lf_rem (nI x) 24 = nI (x % 24) from rem_nI (b := 24) (by omega) (by omega) (by omega)]
        rfl
    · obtain ⟨υ, x3'', v1, v2, v3, v4, v5, v6⟩ := ih (x + 1) u x3 σ (by omega) (by omega) hc hL hF
      refine ⟨υ, x3'', v1, v2, v3, v4, fun x' y q1 q2 q3 q4 q5 => ?_, ?_⟩
      · by_cases e : x' = x
        · exact absurd (e ▸ q4) c
        · exact v5 x' y (by omega) q2 q3 q4 q5
      · rw [← v6]
        conv => lhs; unfold g281_42
        rw [if_neg (show ¬ (48 : Int32) ≤ nI x from nI_ge (b := 48) (by omega) (by omega)), r72_72, a114 (by omega), if_neg (fun z => c (iff0.mp z))]
        unfold g281_170
        rw [nI_1]
/-- a level is done -/
def vD (σ : hp_S) (P D : Nat → Int32) (a t : Nat) : Prop := ∀ y, y < 48 → (rB P D a t y = true → σ.1 114 y = nI (fB P D a y)) ∧ (¬ rB P D a t y = true → σ.1 114 y = -1)
theorem vD_next {σ : hp_S} (h : vH f n v a) (ht : t ≤ 47) (hL : vL σ (uPr f n v) (uDr f n v) a t) (hc : ∀ x' y, x' < 48 → y < 48 → fB (uPr f n v) (uDr f n v) a x' = t → eB (uPr f n v) (uDr f n v) x' y = true → ¬ σ.1 114 y = -1) : vD σ (uPr f n v) (uDr f n v) a (t + 1) := by
  obtain ⟨hn, hgw, hv, ha, hlt⟩ := h
  have hP : ∀ j i, bt (uPr f n v j) i = true → i < n := fun j i z => uP_in hgw hn z
  have hD : ∀ j i, bt (uDr f n v j) i = true → i < n := fun j i z => uD_in hgw hn z
  intro y hy
  obtain ⟨l1, l2⟩ := hL y hy
  constructor
  · intro z
    by_cases c : rB (uPr f n v) (uDr f n v) a t y = true
    · exact l1 c
    · have f1 := (fB_iff ha hn hP hD (show t + 1 ≤ 48 by omega)).mp z
      have f2 : ¬ fB (uPr f n v) (uDr f n v) a y ≤ t := fun q => c ((fB_iff ha hn hP hD (by omega)).mpr q)
      obtain ⟨x, x1, x2, x3⟩ := ((rB_s ha hn hP hD).mp z).resolve_left c
      have g1 := (fB_iff ha hn hP hD (show t ≤ 48 by omega)).mp x2
      have g2 : fB (uPr f n v) (uDr f n v) a x = t := by
        apply Classical.byContradiction
        intro q
        have r1 : rB (uPr f n v) (uDr f n v) a (t - 1) x = true := (fB_iff ha hn hP hD (by omega)).mpr (by omega)
        have r2 := (rB_s ha hn hP hD).mpr (Or.inr ⟨x, x1, r1, x3⟩)
        rw [show t - 1 + 1 = t by omega] at r2
        exact c r2
      rcases l2 c with q | q
      · exact absurd q (hc x y x1 hy g2 x3)
      · rw [q.1, show fB (uPr f n v) (uDr f n v) a y = t + 1 by omega]
  · intro z
    rcases l2 (fun q => z ((rB_s ha hn hP hD).mpr (Or.inl q))) with q | q
    · exact q
    · exact absurd q.2 z
theorem m_vT (h : vH f n v a) (hN : iv_N N) : ∀ (m t u : Nat) (x3 : Int32) (σ : hp_S), 48 ≤ i_pc (uU (uPr f n v) a t) + i_pc (uDD (uPr f n v) (uDr f n v) a t) + m → t + 1 ≤ i_pc (uU (uPr f n v) a t) + i_pc (uDD (uPr f n v) (uDr f n v) a t) → m + 1 < u → ¬ x3 = 0 → vC σ f n v → vD σ (uPr f n v) (uDr f n v) a t → ∃ τ, fr [114] [] σ τ ∧ vD τ (uPr f n v) (uDr f n v) a 48 ∧ g281_33 N u 72 (nI v) x3 (nI t) (hp σ, cs) = some (.inl none, (hp τ, cs)) := by
  have h' := h
  obtain ⟨hn, hgw, hv, ha, hlt⟩ := h'
  have hP : ∀ j i, bt (uPr f n v j) i = true → i < n := fun j i z => uP_in hgw hn z
  have hD : ∀ j i, bt (uDr f n v j) i = true → i < n := fun j i z => uD_in hgw hn z
  have pU : ∀ t, i_pc (uU (uPr f n v) a t) ≤ 24 := fun t => i_pc_max (by omega) (fun i hi => by have := uU_in ha hn hP t i hi; omega)
  have pD : ∀ t, i_pc (uDD (uPr f n v) (uDr f n v) a t) ≤ 24 := fun t => i_pc_max (by omega) (fun i hi => by have := uDD_in (P := uPr f n v) (a := a) hD t i hi; omega)
  have lvl : ∀ (t u : Nat) (x3 : Int32) (σ : hp_S), t + 1 ≤ i_pc (uU (uPr f n v) a t) + i_pc (uDD (uPr f n v) (uDr f n v) a t) → ¬ x3 = 0 → vC σ f n v → vD σ (uPr f n v) (uDr f n v) a t → ∃ (τ : hp_S) (x3' : Int32), fr [114] [] σ τ ∧ vD τ (uPr f n v) (uDr f n v) a (t + 1) ∧ ((x3' = 0 ∧ vD τ (uPr f n v) (uDr f n v) a 48) ∨ (x3' = 1 ∧ i_pc (uU (uPr f n v) a t) + i_pc (uDD (uPr f n v) (uDr f n v) a t) + 1 ≤ i_pc (uU (uPr f n v) a (t + 1)) + i_pc (uDD (uPr f n v) (uDr f n v) a (t + 1)))) ∧ g281_33 N (u + 1) 72 (nI v) x3 (nI t) (hp σ, cs) = g281_33 N u 72 (nI v) x3' (nI (t + 1)) (hp τ, cs) := by
    intro t u x3 σ ht h3 hc hd
    have ht47 : t ≤ 47 := by have := pU t; have := pD t; omega
    obtain ⟨τ, x3', t1, t2, t3, t4, t5, t6⟩ := m_vX (cs := cs) (N := N) (k33 := g281_33 N u) h hN ht47 48 0 N 0 σ (by omega) (by unfold iv_N at hN; omega) hc (fun y hy => ⟨(hd y hy).1, fun q => Or.inl ((hd y hy).2 q)⟩) ⟨Or.inl rfl, fun _ y hy q => (hd y hy).2 q, fun q => absurd q (by decide)⟩
    have hn1 := vD_next h ht47 t2 (fun x' y q1 q2 q3 q4 => t5 x' y (Nat.zero_le _) q1 q2 q3 q4)
    refine ⟨τ, x3', t1, hn1, ?_, ?_⟩
    · rcases t3.1 with z | z
      · refine Or.inl ⟨z, ?_⟩
        have st : ∀ y, y < 48 → rB (uPr f n v) (uDr f n v) a (t + 1) y = true → rB (uPr f n v) (uDr f n v) a t y = true := by
          intro y hy q
          apply Classical.byContradiction
          intro c
          have e1 := (hn1 y hy).1 q
          have e2 := t3.2.1 z y hy c
          have l := (fB_iff ha hn hP hD (show t + 1 ≤ 48 by omega)).mp q
          rw [e2] at e1
          exact absurd e1.symm (by rw [q_ne1 (by omega)]; exact id)
        have st2 : ∀ k y, y < 48 → rB (uPr f n v) (uDr f n v) a (t + k) y = true → rB (uPr f n v) (uDr f n v) a t y = true := by
          intro k
          induction k with
          | zero => exact fun y _ q => q
          | succ k ik =>
            intro y hy q
            rcases (rB_s ha hn hP hD).mp (show rB (uPr f n v) (uDr f n v) a ((t + k) + 1) y = true from q) with q | ⟨x, x1, x2, x3⟩
            · exact ik y hy q
            · exact st y hy ((rB_s ha hn hP hD).mpr (Or.inr ⟨x, x1, ik x x1 x2, x3⟩))
        intro y hy
        have eqv : rB (uPr f n v) (uDr f n v) a 48 y = true ↔ rB (uPr f n v) (uDr f n v) a (t + 1) y = true := by
          constructor
          · intro q
            have := st2 (48 - t) y hy (by rw [show t + (48 - t) = 48 by omega]; exact q)
            exact (rB_s ha hn hP hD).mpr (Or.inl this)
          · intro q
            have := rB_mono ha hn hP hD q (48 - (t + 1))
            rwa [show t + 1 + (48 - (t + 1)) = 48 by omega] at this
        exact ⟨fun q => (hn1 y hy).1 (eqv.mp q), fun q => (hn1 y hy).2 (fun w => q (eqv.mpr w))⟩
      · refine Or.inr ⟨z, ?_⟩
        obtain ⟨y, hy, y1, y2⟩ := t3.2.2 z
        have q1 : i_pc (uU (uPr f n v) a t) ≤ i_pc (uU (uPr f n v) a (t + 1)) := i_pc_le (fun i w => uU_s.mpr (Or.inl w))
        have q2 : i_pc (uDD (uPr f n v) (uDr f n v) a t) ≤ i_pc (uDD (uPr f n v) (uDr f n v) a (t + 1)) := i_pc_le (fun i w => uDD_s.mpr (Or.inl w))
        unfold rB at y1 y2
        by_cases c : y < 24
        · rw [if_pos c] at y1 y2
          have : i_pc (uU (uPr f n v) a t) < i_pc (uU (uPr f n v) a (t + 1)) := i_pc_lt (fun i w => uU_s.mpr (Or.inl w)) (i := y) (by simpa using y1) y2
          omega
        · rw [if_neg c] at y1 y2
          have : i_pc (uDD (uPr f n v) (uDr f n v) a t) < i_pc (uDD (uPr f n v) (uDr f n v) a (t + 1)) := i_pc_lt (fun i w => uDD_s.mpr (Or.inl w)) (i := y - 24) (by simpa using y1) y2
          omega
    · rw [← t6]
      conv => lhs; unfold g281_33
      rw [if_neg h3]
      rfl
  intro m
  induction m with
  | zero =>
    intro t u x3 σ hm ht hu h3 hc hd
    obtain ⟨u, rfl⟩ : ∃ q, u = q + 2 := ⟨u - 2, by omega⟩
    obtain ⟨τ, x3', t1, t2, t3, t4⟩ := lvl t (u + 1) x3 σ ht h3 hc hd
    rcases t3 with ⟨z, t5⟩ | ⟨z, t5⟩
    · refine ⟨τ, t1, t5, ?_⟩
      rw [t4]
      unfold g281_33
      rw [if_pos z]
    · have := pU (t + 1)
      have := pD (t + 1)
      omega
  | succ m ih =>
    intro t u x3 σ hm ht hu h3 hc hd
    obtain ⟨u, rfl⟩ : ∃ q, u = q + 2 := ⟨u - 2, by omega⟩
    obtain ⟨τ, x3', t1, t2, t3, t4⟩ := lvl t (u + 1) x3 σ ht h3 hc hd
    rcases t3 with ⟨z, t5⟩ | ⟨z, t5⟩
    · refine ⟨τ, t1, t5, ?_⟩
      rw [t4]
      unfold g281_33
      rw [if_pos z]
    · obtain ⟨υ, v1, v2, v3⟩ := ih (t + 1) (u + 1) x3' τ (by omega) (by omega) (by omega) (by rw [z]; decide) (hc.fr t1) t2
      exact ⟨υ, t1.tr v1, v2, by rw [t4, v3]⟩
end UX
