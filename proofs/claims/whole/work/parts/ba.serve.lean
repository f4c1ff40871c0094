/-! the class's serve -/
section SE
variable {cs : Nat × Nat} {N n : Nat} {g : Nat → Int32} {mt : Nat → Nat} {D Z : Nat → Bool}
def unT (T : Int32) : Nat := sm (fun s => if bt T s = true then 0 else 1) 24
theorem unT_add {T : Int32} {s : Nat} (hs : s < 24) (h : ¬ bt T s = true) : unT (T ||| lf_shl 1 (nI s)) + 1 = unT T := by
  unfold unT
  refine sm_upd (k0 := s) hs (fun k _ hk => ?_) ?_
  · have e : bt (T ||| lf_shl 1 (nI s)) k = true ↔ bt T k = true := by
      rw [b_or_iff, b_one (by omega)]
      exact ⟨fun z => z.resolve_right hk, Or.inl⟩
    by_cases c : bt T k = true
    · rw [if_pos c, if_pos (e.mpr c)]
    · rw [if_neg c, if_neg (fun z => c (e.mp z))]
  · rw [if_neg h, if_pos (b_or_iff.mpr (Or.inr ((b_one (by omega)).mpr rfl)))]
theorem unT_mono {T U : Int32} (h : ∀ s, bt T s = true → bt U s = true) : unT U ≤ unT T := by
  refine sm_le (fun s _ => ?_)
  by_cases c : bt T s = true
  · rw [if_pos (h s c)]; exact Nat.zero_le _
  · rw [if_neg c]; split <;> omega
def RWt (n : Nat) (σ : hp_S) (mt : Nat → Nat) : Prop := ∀ s, s < n → σ.1 69 s = if mt s = 99 then -1 else nI (mt s)
/-- what a search comes to -/
def SVr (g : Nat → Int32) (n t : Nat) (T : Int32) (mt : Nat → Nat) (D Z : Nat → Bool) (σ : hp_S) (cs : Nat × Nat) (r : lf_R) : Prop := ∃ (τ : hp_S) (U : Int32), fr [69] [(61, 10)] σ τ ∧ τ.2.2.1 61 10 = U ∧ (∀ s, bt T s = true → bt U s = true) ∧ (∀ s, bt U s = true → s < 24) ∧ ((r = some (.inl (some (.int 0)), (hp τ, cs)) ∧ RWt n τ mt ∧ (∀ s, s < 24 → bt (g t) s = true → bt U s = true) ∧ ∀ s, s < 24 → bt U s = true → ¬ bt T s = true → mt s ≠ 99 ∧ ∀ z, z < 24 → bt (g (mt s)) z = true → bt U z = true) ∨ ∃ mt', r = some (.inl (some (.int 1)), (hp τ, cs)) ∧ RWt n τ mt' ∧ SVo (fun x y => bt (g x) y) n t (fun s => bt T s) mt mt' D Z)
theorem c_sv (hn : n ≤ 24) (hN : iv_N N) (v1 : ∀ s, s < 24 → mt s ≠ 99 → mt s < n ∧ bt (g (mt s)) s = true) (v2 : ∀ s z, s < 24 → z < 24 → mt s ≠ 99 → mt s = mt z → s = z) (hD : ∀ x s, s < 24 → D x = true → bt (g x) s = true → Z s = true) (hZ : ∀ s, s < 24 → Z s = true → mt s ≠ 99 ∧ D (mt s) = true) (hg : ∀ t, t < n → ∀ s, bt (g t) s = true → s < n) : ∀ (k dp u t dep : Nat) (T : Int32) (σ : hp_S), unT T ≤ k → k ≤ dp → k < u → dep + k ≤ 24 → t < n → (∀ s, bt T s = true → s < 24) → (∀ s, s < 24 → mt s = t → bt T s = true) → (∀ x, x < n → σ.1 68 x = g x) → RWt n σ mt → σ.2.2.1 61 10 = T → SVr g n t T mt D Z σ cs (g125_14 N (f125r N dp) u 61 (nI t) (nI dep) (g t &&& (T ^^^ (-1))) (hp σ, cs)) := by
  have stop : ∀ (dp u t dep : Nat) (T : Int32) (σ : hp_S), (∀ s, bt T s = true → s < 24) → RWt n σ mt → σ.2.2.1 61 10 = T → g t &&& (T ^^^ (-1)) = 0 → SVr g n t T mt D Z σ cs (g125_14 N (f125r N dp) (u + 1) 61 (nI t) (nI dep) (g t &&& (T ^^^ (-1))) (hp σ, cs)) := by
    intro dp u t dep T σ hT hR eT h0
    refine ⟨σ, T, fr.rf, eT, fun _ h => h, hT, Or.inl ⟨?_, hR, fun s h1 h2 => ?_, fun s _ h1 h2 => absurd h1 h2⟩⟩
    · unfold g125_14
      rw [if_pos h0]
    · apply Classical.byContradiction
      intro c
      have := b_andn.mpr ⟨h2, c⟩
      rw [h0, b_0] at this
      cases this
  intro k
  induction k with
  | zero =>
    intro dp u t dep T σ hk hdp hu hdep ht hT htT h68 hR eT
    obtain ⟨u, rfl⟩ : ∃ q, u = q + 1 := ⟨u - 1, by omega⟩
    refine stop dp u t dep T σ hT hR eT ?_
    apply b_nothing.mpr
    intro i hi
    obtain ⟨h1, h2⟩ := b_andn.mp hi
    have h3 := sm_zero (show sm (fun s => if bt T s = true then 0 else 1) 24 = 0 from Nat.le_zero.mp hk) i (by have := hg t ht i h1; omega)
    rw [if_neg h2] at h3
    cases h3
  | succ k ih =>
    intro dp u t dep T σ hk hdp hu hdep ht hT htT h68 hR eT
    obtain ⟨u, rfl⟩ : ∃ q, u = q + 1 := ⟨u - 1, by omega⟩
    obtain ⟨dp, rfl⟩ : ∃ q, dp = q + 1 := ⟨dp - 1, by omega⟩
    by_cases h0 : g t &&& (T ^^^ (-1)) = 0
    · exact stop (dp + 1) u t dep T σ hT hR eT h0
    · obtain ⟨s1, l1, l2, l3, -, el⟩ := bl_low h0
      obtain ⟨hE, hnT⟩ := b_andn.mp l2
      have hs1n := hg t ht s1 hE
      have hs1 : s1 < 24 := by omega
      have hT2 : ∀ s, bt (T ||| lf_shl 1 (nI s1)) s = true ↔ bt T s = true ∨ s = s1 := fun s => by rw [b_or_iff, b_one (by omega)]
      have hun := unT_add hs1 hnT
      have w2 : fr [69] [(61, 10)] σ (hp_wf σ 61 10 (T ||| lf_shl 1 (nI s1))) := fr.wf (by decide)
      have hT2b : ∀ s, bt (T ||| lf_shl 1 (nI s1)) s = true → s < 24 := fun s h => by
        rcases (hT2 s).mp h with z | z
        · exact hT s z
        · omega
      by_cases c : mt s1 = 99
      · refine ⟨hp_wi (hp_wf σ 61 10 (T ||| lf_shl 1 (nI s1))) 69 s1 (nI t), T ||| lf_shl 1 (nI s1), w2.tr (fr.wi (by decide)), hp_wf_at, fun s h => (hT2 s).mpr (Or.inl h), hT2b, Or.inr ⟨svA mt s1 t, ?_, fun s h => ?_, SV_base hn ht hs1 hE hnT c v1 v2 hD hZ htT⟩⟩
        · unfold g125_14 g125_71
          rw [if_neg h0, if_neg (show ¬ (24 : Int32) < nI dep from nI_nlt (b := dep) (a := 24) (by omega) (by omega)), (el N _).1, lf_nest_r, lf_ci_r, i61_10, eT, w61_10, r61_9, a69 hs1, show (hp_wf σ 61 10 (T ||| lf_shl 1 (nI s1))).1 69 s1 = -1 from by show σ.1 69 s1 = -1; rw [hR s1 hs1n, if_pos c], if_pos rfl, r61_9, b69 hs1]
        · by_cases d : s = s1
          · rw [d, hp_wi_at, svA_at, if_neg (by omega)]
          · rw [hp_wi_nj d, svA_ne d]; exact hR s h
      · have hmn := v1 s1 hs1 c
        have hm2 : ∀ s, s < 24 → mt s = mt s1 → bt (T ||| lf_shl 1 (nI s1)) s = true := fun s h e => (hT2 s).mpr (Or.inr (v2 s s1 h hs1 (by rw [e]; exact c) e))
        have hrec := ih dp N (mt s1) (dep + 1) (T ||| lf_shl 1 (nI s1)) (hp_wf σ 61 10 (T ||| lf_shl 1 (nI s1))) (by omega) (by omega) (by unfold iv_N at hN; omega) (by omega) hmn.1 hT2b hm2 h68 hR hp_wf_at
        obtain ⟨σ3, T3, b1, b2, b3, b4, b5⟩ := hrec
        have ecall : f125r N (dp + 1) 61 (nI (mt s1)) (nI (dep + 1)) (hp (hp_wf σ 61 10 (T ||| lf_shl 1 (nI s1))), cs) = g125_14 N (f125r N dp) N 61 (nI (mt s1)) (nI (dep + 1)) (g (mt s1) &&& ((T ||| lf_shl 1 (nI s1)) ^^^ (-1))) (hp (hp_wf σ 61 10 (T ||| lf_shl 1 (nI s1))), cs) := by
          conv => lhs; unfold f125r
          rw [r61_8, a68 (by omega), show (hp_wf σ 61 10 (T ||| lf_shl 1 (nI s1))).1 68 (mt s1) = g (mt s1) from h68 _ hmn.1, i61_10, hp_wf_at]
        have epre : g125_14 N (f125r N (dp + 1)) (u + 1) 61 (nI t) (nI dep) (g t &&& (T ^^^ (-1))) (hp σ, cs) = lf_ci (f125r N (dp + 1) 61 (nI (mt s1)) (nI (dep + 1)) (hp (hp_wf σ 61 10 (T ||| lf_shl 1 (nI s1))), cs)) fun v26 w20 => if v26 = 0 then ((lf_fr w20 61 10 8).bind fun v28 => (lf_ri w20 v28 (nI t)).bind fun v30 => (lf_fi w20 61 10 10).bind fun v32 => g125_14 N (f125r N (dp + 1)) u 61 (nI t) (nI dep) (v30 &&& (v32 ^^^ (-1))) w20) else (g125_71 N (f125r N (dp + 1)) 61 (nI t) (nI s1) w20) := by
          conv => lhs; unfold g125_14
          rw [if_neg h0, if_neg (show ¬ (24 : Int32) < nI dep from nI_nlt (b := dep) (a := 24) (by omega) (by omega)), (el N _).1, lf_nest_r, lf_ci_r, i61_10, eT, w61_10, r61_9, a69 hs1, show (hp_wf σ 61 10 (T ||| lf_shl 1 (nI s1))).1 69 s1 = nI (mt s1) from by show σ.1 69 s1 = _; rw [hR s1 hs1n, if_neg c], if_neg (by rw [q_ne1 (by omega)]; exact id), r61_9, a69 hs1, show (hp_wf σ 61 10 (T ||| lf_shl 1 (nI s1))).1 69 s1 = nI (mt s1) from by show σ.1 69 s1 = _; rw [hR s1 hs1n, if_neg c], o61, nI_1]
        rcases b5 with ⟨e1, e2, e3, e4⟩ | ⟨mt2, e1, e2, e3⟩
        · -- that one finds no other
          have hTT3 : ∀ s, bt T s = true → bt T3 s = true := fun s h => b3 s ((hT2 s).mpr (Or.inl h))
          have hloop := ih (dp + 1) u t dep T3 σ3 (by have := unT_mono b3; omega) (by omega) (by omega) (by omega) ht b4 (fun s h e => hTT3 s (htT s h e)) (fun x hx => by rw [b1.r (by decide)]; exact h68 x hx) e2 b2
          obtain ⟨σ4, T4, d1, d2, d3, d4, d5⟩ := hloop
          have eq : g125_14 N (f125r N (dp + 1)) (u + 1) 61 (nI t) (nI dep) (g t &&& (T ^^^ (-1))) (hp σ, cs) = g125_14 N (f125r N (dp + 1)) u 61 (nI t) (nI dep) (g t &&& (T3 ^^^ (-1))) (hp σ3, cs) := by
            rw [epre, ecall, e1, lf_ci_r, if_pos rfl, r61_8, a68 (by omega), show σ3.1 68 t = g t from by rw [b1.r (by decide)]; exact h68 t ht, i61_10, b2]
          refine ⟨σ4, T4, (w2.tr b1).tr d1, d2, fun s h => d3 s (hTT3 s h), d4, ?_⟩
          rw [eq]
          rcases d5 with ⟨f1, f2, f3, f4⟩ | ⟨mt4, f1, f2, f3⟩
          · refine Or.inl ⟨f1, f2, f3, fun s h1 h2 h3 => ?_⟩
            by_cases c3 : bt T3 s = true
            · by_cases c2 : bt (T ||| lf_shl 1 (nI s1)) s = true
              · have : s = s1 := ((hT2 s).mp c2).resolve_left h3
                subst this
                exact ⟨c, fun z hz hb => d3 z (e3 z hz hb)⟩
              · obtain ⟨k1, k2⟩ := e4 s h1 c3 c2
                exact ⟨k1, fun z hz hb => d3 z (k2 z hz hb)⟩
            · exact f4 s h1 h2 c3
          · exact Or.inr ⟨mt4, f1, f2, SV_weak (T3 := fun s => bt T3 s) hTT3 htT f3⟩
        · -- that one finds another
          refine ⟨hp_wi σ3 69 s1 (nI t), T3, (w2.tr b1).tr (fr.wi (by decide)), b2, fun s h => b3 s ((hT2 s).mpr (Or.inl h)), b4, Or.inr ⟨svA mt2 s1 t, ?_, fun s h => ?_, SV_rec hn ht hs1 hE hnT c v2 hD hZ htT (fun s => bt (T ||| lf_shl 1 (nI s1)) s) hT2 e3⟩⟩
          · rw [epre, ecall, e1, lf_ci_r, if_neg (by decide)]
            unfold g125_71
            rw [r61_9, b69 hs1]
          · by_cases d : s = s1
            · rw [d, hp_wi_at, svA_at, if_neg (by omega)]
            · rw [hp_wi_nj d, svA_ne d]; exact e2 s h
end SE
