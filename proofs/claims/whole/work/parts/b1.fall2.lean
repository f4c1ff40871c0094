section FJ
variable {cs : Nat × Nat} {N n d s : Nat}
/-- the things that may fall are things -/
def okT (k T : Nat) (L : List (Nat × Nat)) : Prop := k = 0 → T = L.length ∧ L.length ≤ 96 ∧ ∀ i, i < L.length → (lp L i).1 < 24 ∧ (lp L i).2 < 24 ∧ (lp L i).1 ≠ (lp L i).2
def okA (c : fcf) : Prop := (∀ i, bt c.1 i = true → i < 24) ∧ ¬ c.1 = 0
theorem c_lj {k T i dp : Nat} {L : List (Nat × Nat)} {c1 : fcf} {v : Nat → Nat → Nat} (hs : s < 8) (hN : iv_N N) (hk : k = 0 ∨ k = 1) (hT : okT k T L) (hT9 : T ≤ 100) (hv : ∀ i j, v i j ≤ 101) (hc : ∀ j, i < j → j < T → okA (fp k L j c1) ∧ v i j = gv (fp k L j c1).2 (fp k L j c1).1) : ∀ (m j u : Nat) (q : fq) (σ : hp_S), j + m = T → i < j → m < u → q.1 ≤ 101 → CC k 2 T s L σ c1 → CQ 2 σ q → σ.1 55 0 = nI i → ∃ τ, fr fA fF σ τ ∧ CC k 2 T s L τ c1 ∧ CQ 2 τ (fin v i m j q) ∧ τ.1 55 0 = nI i ∧ g18_22 N (f18r N (dp + 1)) u 53 (2 + 2 * s) (nI 1) (nI j) (hp σ, cs) = some (.inl none, (hp τ, cs)) := by
  intro m
  induction m with
  | zero =>
    intro j u q σ hj hij hu hq hC hQ h0
    obtain ⟨u, rfl⟩ : ∃ q, u = q + 1 := ⟨u - 1, by omega⟩
    refine ⟨σ, fr.rf, hC, hQ, h0, ?_⟩
    unfold g18_22
    rw [i53_7, hC.2.2.1, if_pos (nI_le (by omega) (by omega))]
  | succ m ih =>
    intro j u q σ hj hij hu hq hC hQ h0
    obtain ⟨u, rfl⟩ : ∃ q, u = q + 1 := ⟨u - 1, by omega⟩
    have e100 : ((100 : Int32) ≤ iB q.1) = (101 ≤ q.1) := iB_le (c := 100) hq (by omega)
    by_cases c : 101 ≤ q.1
    · refine ⟨σ, fr.rf, hC, ?_, h0, ?_⟩
      · rw [fin_top hv _ _ q (by omega)]; exact hQ
      · unfold g18_22
        rw [i53_7, hC.2.2.1, if_neg (nI_ge (by omega) (by omega)), i53_9, hQ.1, if_pos (by rw [e100]; exact c)]
    · obtain ⟨hA, hvj⟩ := hc j hij (by omega)
      have w0 : fr fA fF σ (hp_wi σ 55 1 (nI j)) := fr.wi (by decide)
      have hC0 := hC.fr hs w0 hC.2.2.2.1 hC.2.2.2.2.2.2
      obtain ⟨τ, a1, a2, a3, a4, a5⟩ := c_both (N := N) (cs := cs) (i := j) (σ := hp_wi σ 55 1 (nI j)) (q := q) (q' := fb v i j q) (R := fun j' x => (j' = 0 → x = nI i) ∧ (j' = 1 → x = nI j)) (self := fun w => f18r N (dp + 1) 53 (2 + 2 * s) (nI 2) (nI (j + 1)) w) (K := fun w => g18_22 N (f18r N (dp + 1)) u 53 (2 + 2 * s) (nI 1) (nI (j + 1)) w) hs hk (fun z => by obtain ⟨t1, t2, t3⟩ := hT z; exact ⟨⟨by omega, t2⟩, t3 j (by omega)⟩) hC0 ⟨hQ.1, fun z => ⟨fun y => by rw [hp_wi_ne (by decide)]; exact (hQ.2 z).1 y, fun y => by rw [hp_wi_ne (by decide)]; exact (hQ.2 z).2 y⟩⟩ (fun j' => ⟨fun z => by rw [z, hp_wi_nj (by omega)]; exact h0, fun z => by rw [z, hp_wi_at]⟩) (fun σ1 k1 k2 k3 => by
          obtain ⟨σ2, b1, b2, b3, b4, b5⟩ := c_jdg (N := N) (cs := cs) (σ := σ1) (i := i) (j := j) (q := q) (v := v) hs hN hA.1 hA.2 k1 hq k2 hvj (fun _ => (k3 0).1 rfl) (fun _ => (k3 1).2 rfl)
          refine ⟨σ2, b1, b2, b4, fun j' => by rw [b3]; exact k3 j', ?_⟩
          show f18r N (dp + 1) 53 (2 + 2 * s) (nI 2) (nI (j + 1)) (hp σ1, cs) = _
          unfold f18r g18_13
          rw [i53_6, k1.2.1, if_pos (nI_le (by omega) (by omega)), o53, b5, lf_cv_r])
      obtain ⟨υ, p1, p2, p3, p4, p5⟩ := ih (j + 1) u (fb v i j q) τ (by omega) (by omega) (by omega) (fb_le hv hq) a2 a3 ((a4 0).1 rfl)
      refine ⟨υ, (w0.tr a1).tr p1, p2, p3, p4, ?_⟩
      unfold g18_22
      rw [i53_7, hC.2.2.1, if_neg (nI_ge (by omega) (by omega)), i53_9, hQ.1, if_neg (by rw [e100]; exact c), r53_2, b55 (by omega), o53, nI_1, nI_1]
      rw [a5]
      exact p5
theorem c_li {k M T dp : Nat} {L : List (Nat × Nat)} {c0 : fcf} {v : Nat → Nat → Nat} (hs : s < 8) (hN : iv_N N) (hk : k = 0 ∨ k = 1) (hM : M = 1 ∨ M = 2) (hT : okT k T L) (hT9 : T ≤ 100) (hv : ∀ i j, v i j ≤ 101) (hc1 : M = 1 → ∀ i, i < T → okA (fp k L i c0) ∧ v i i = gv (fp k L i c0).2 (fp k L i c0).1) (hc2 : M = 2 → ∀ i j, i < j → j < T → okA (fp k L j (fp k L i c0)) ∧ v i j = gv (fp k L j (fp k L i c0)).2 (fp k L j (fp k L i c0)).1) : ∀ (m i u : Nat) (q : fq) (σ : hp_S), i + m = T → m < u → q.1 ≤ 101 → CC k M T s L σ c0 → CQ M σ q → ∃ τ, fr fA fF σ τ ∧ CC k M T s L τ c0 ∧ CQ M τ (fout v M T m i q) ∧ g18_22 N (f18r N (dp + 1 + 1)) u 53 (2 + 2 * s) (nI 0) (nI i) (hp σ, cs) = some (.inl none, (hp τ, cs)) := by
  intro m
  induction m with
  | zero =>
    intro i u q σ hi hu hq hC hQ
    obtain ⟨u, rfl⟩ : ∃ q, u = q + 1 := ⟨u - 1, by omega⟩
    refine ⟨σ, fr.rf, hC, hQ, ?_⟩
    unfold g18_22
    rw [i53_7, hC.2.2.1, if_pos (nI_le (by omega) (by omega))]
  | succ m ih =>
    intro i u q σ hi hu hq hC hQ
    obtain ⟨u, rfl⟩ : ∃ q, u = q + 1 := ⟨u - 1, by omega⟩
    have e100 : ((100 : Int32) ≤ iB q.1) = (101 ≤ q.1) := iB_le (c := 100) hq (by omega)
    by_cases c : 101 ≤ q.1
    · refine ⟨σ, fr.rf, hC, ?_, ?_⟩
      · rw [fout_top hv _ _ q (by omega)]; exact hQ
      · unfold g18_22
        rw [i53_7, hC.2.2.1, if_neg (nI_ge (by omega) (by omega)), i53_9, hQ.1, if_pos (by rw [e100]; exact c)]
    · have w0 : fr fA fF σ (hp_wi σ 55 0 (nI i)) := fr.wi (by decide)
      have hC0 := hC.fr hs w0 hC.2.2.2.1 hC.2.2.2.2.2.2
      obtain ⟨τ, a1, a2, a3, a4, a5⟩ := c_both (N := N) (cs := cs) (i := i) (σ := hp_wi σ 55 0 (nI i)) (q := q) (q' := fbd v M T i q) (R := fun j' x => j' = 0 → x = nI i) (self := fun w => f18r N (dp + 1 + 1) 53 (2 + 2 * s) (nI 1) (nI (i + 1)) w) (K := fun w => g18_22 N (f18r N (dp + 1 + 1)) u 53 (2 + 2 * s) (nI 0) (nI (i + 1)) w) hs hk (fun z => by obtain ⟨t1, t2, t3⟩ := hT z; exact ⟨⟨by omega, t2⟩, t3 i (by omega)⟩) hC0 ⟨hQ.1, fun z => ⟨fun y => by rw [hp_wi_ne (by decide)]; exact (hQ.2 z).1 y, fun y => by rw [hp_wi_ne (by decide)]; exact (hQ.2 z).2 y⟩⟩ (fun j' z => by rw [z, hp_wi_at]) (fun σ1 k1 k2 k3 => by
          rcases hM with rfl | rfl
          · obtain ⟨hA, hvi⟩ := hc1 rfl i (by omega)
            obtain ⟨σ2, b1, b2, b3, b4, b5⟩ := c_jdg (N := N) (cs := cs) (σ := σ1) (i := i) (j := i) (q := q) (v := v) hs hN hA.1 hA.2 k1 hq k2 hvi (fun _ => k3 0 rfl) (fun z => absurd z (by decide))
            refine ⟨σ2, b1, b2, b4, fun j' => by rw [b3]; exact k3 j', ?_⟩
            show f18r N (dp + 1 + 1) 53 (2 + 2 * s) (nI 1) (nI (i + 1)) (hp σ1, cs) = _
            unfold f18r g18_13
            rw [i53_6, k1.2.1, if_pos (nI_le (by omega) (by omega)), o53, b5, lf_cv_r]
          · obtain ⟨σ2, b1, b2, b3, b4, b5⟩ := c_lj (N := N) (cs := cs) (i := i) (dp := dp) (c1 := fp k L i c0) (v := v) hs hN hk hT hT9 hv (fun j h1 h2 => hc2 rfl i j h1 h2) (T - (i + 1)) (i + 1) N q σ1 (by omega) (by omega) (by unfold iv_N at hN; omega) hq k1 k2 (k3 0 rfl)
            refine ⟨σ2, b1, b2, b3, fun j' z => by rw [z]; exact b4, ?_⟩
            show f18r N (dp + 1 + 1) 53 (2 + 2 * s) (nI 1) (nI (i + 1)) (hp σ1, cs) = _
            have : f18r N (dp + 1 + 1) 53 (2 + 2 * s) (nI 1) (nI (i + 1)) (hp σ1, cs) = g18_22 N (f18r N (dp + 1)) N 53 (2 + 2 * s) (nI 1) (nI (i + 1)) (hp σ1, cs) := by
              conv => lhs; unfold f18r
              rw [i53_6, k1.2.1, if_neg (nI_ge (by omega) (by omega)), if_pos (by decide)]
            rw [this]
            exact b5)
      obtain ⟨υ, p1, p2, p3, p4⟩ := ih (i + 1) u (fbd v M T i q) τ (by omega) (by omega) (fbd_le hv hq) a2 a3
      refine ⟨υ, (w0.tr a1).tr p1, p2, p3, ?_⟩
      unfold g18_22
      rw [i53_7, hC.2.2.1, if_neg (nI_ge (by omega) (by omega)), i53_9, hQ.1, if_neg (by rw [e100]; exact c), r53_2, b55 (by omega), o53, nI_1, nI_1]
      rw [a5]
      exact p4
/-- what is chosen -/
def fres (v : Nat → Nat → Nat) (M T : Nat) : fq := if M = 0 then fb v 0 0 (0, 0, 0) else fout v M T T 0 (0, 0, 0)
theorem c_chF {k M T : Nat} {L : List (Nat × Nat)} {c0 : fcf} {v : Nat → Nat → Nat} {σ : hp_S} (hs : s < 8) (hN : iv_N N) (hk : k = 0 ∨ k = 1) (hM : M ≤ 2) (hT : okT k T L) (hT9 : T ≤ 100) (hv : ∀ i j, v i j ≤ 101) (hc0 : M = 0 → okA c0 ∧ v 0 0 = gv c0.2 c0.1) (hc1 : M = 1 → ∀ i, i < T → okA (fp k L i c0) ∧ v i i = gv (fp k L i c0).2 (fp k L i c0).1) (hc2 : M = 2 → ∀ i j, i < j → j < T → okA (fp k L j (fp k L i c0)) ∧ v i j = gv (fp k L j (fp k L i c0)).2 (fp k L j (fp k L i c0)).1) (hC : CC k M T s L σ c0) (hQ : CQ M σ (0, 0, 0)) : ∃ τ, fr fA fF σ τ ∧ CC k M T s L τ c0 ∧ CQ M τ (fres v M T) ∧ f18 N 53 (2 + 2 * s) 0 0 (hp σ, cs) = some (.inl none, (hp τ, cs)) := by
  unfold fres
  by_cases c : M = 0
  · obtain ⟨hA, hv0⟩ := hc0 c
    obtain ⟨τ, b1, b2, b3, b4, b5⟩ := c_jdg (N := N) (cs := cs) (σ := σ) (i := 0) (j := 0) (q := (0, 0, 0)) (v := v) hs hN hA.1 hA.2 hC (by show 0 ≤ 101; omega) hQ hv0 (fun z => by omega) (fun z => by omega)
    refine ⟨τ, b1, b2, by rw [if_pos c]; exact b4, ?_⟩
    unfold f18 f18r g18_13
    rw [i53_6, hC.2.1, if_pos (show nI M ≤ 0 from by rw [c]; decide), o53, b5, lf_cv_r]
  · obtain ⟨τ, b1, b2, b3, b4⟩ := c_li (N := N) (cs := cs) (dp := 37) (v := v) hs hN hk (by omega) hT hT9 hv hc1 hc2 T 0 N (0, 0, 0) σ (by omega) (by unfold iv_N at hN; omega) (by show 0 ≤ 101; omega) hC hQ
    refine ⟨τ, b1, b2, by rw [if_neg c]; exact b3, ?_⟩
    have : f18 N 53 (2 + 2 * s) 0 0 (hp σ, cs) = g18_22 N (f18r N (37 + 1 + 1)) N 53 (2 + 2 * s) (nI 0) (nI 0) (hp σ, cs) := by
      unfold f18
      conv => lhs; unfold f18r
      rw [i53_6, hC.2.1, if_neg (show ¬ nI M ≤ 0 from nI_nle (by omega) (by omega)), if_pos (by decide)]
      rfl
    rw [this]
    exact b4
end FJ
