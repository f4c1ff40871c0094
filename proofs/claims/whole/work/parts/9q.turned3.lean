/-! case turned -/
section TW
variable {cs : Nat × Nat} {N K a b r : Nat} {M : Int32} {σ : hp_S}
def tSn (σ : hp_S) (K a b : Nat) (M : Int32) : Prop := ∀ k i, k < 24 → bt (σ.1 76 k) i = true → k < a * b ∧ tL K a b M k i
theorem tL_sym {x m : Nat} (h : gok K a b) (hm : gmv K a b M) (hx : x < a * b) (h1 : bt M m = true) : gop K a b x m < a * b ∧ x ≠ gop K a b x m ∧ tL K a b M (gop K a b x m) x := by
  have hml := hm.2.2.1 m h1
  obtain ⟨q1, q2, q3⟩ := g_op h hx hml
  refine ⟨q1, fun z => q3 (fun e => ?_) z.symm, ginv K a b m, hm.2.2.2 m h1, q2.symm⟩
  rw [e, hm.2.1] at h1
  cases h1
theorem m_tX {x : Nat} {x1 : Int32} {k64 : Nat → Int32 → Int32 → Int32 → Int32 → Int32 → Int32 → lf_W → lf_R} (h : gok K a b) (hm : gmv K a b M) (hx : x < a * b) : ∀ (c y u : Nat) (σ : hp_S), y + c = a * b → c < u → 1 ≤ y → tSn σ K a b M → ∃ τ, fr [76] [] σ τ ∧ tSn τ K a b M ∧ gLe σ τ ∧ (∀ m, y ≤ m → bt M m = true → bt (τ.1 76 x) (gop K a b x m) = true) ∧ g211_76 N k64 u 72 x1 (nI K) (nI a) (nI b) M (nI x) (nI y) (hp σ, cs) = k64 72 x1 (nI K) (nI a) (nI b) M (nI (x + 1)) (hp τ, cs) := by
  have h24 := h.2.2.1
  intro c
  induction c with
  | zero =>
    intro y u σ hy hu h1 hs
    obtain ⟨u, rfl⟩ : ∃ q, u = q + 1 := ⟨u - 1, by omega⟩
    refine ⟨σ, fr.rf, hs, fun _ _ z => z, fun m q1 q2 => ?_, ?_⟩
    · have := hm.2.2.1 m q2
      omega
    · unfold g211_76
      rw [pk_mul, if_pos (nI_le (by omega) (by omega)), nI_1]
  | succ c ih =>
    intro y u σ hy hu h1 hs
    obtain ⟨u, rfl⟩ : ∃ q, u = q + 1 := ⟨u - 1, by omega⟩
    by_cases c1 : bt M y = true
    · obtain ⟨q1, q2, q3⟩ := tL_sym h hm hx c1
      obtain ⟨τ, t1, t2, t3⟩ := m_jnX (σ := σ) (cs := cs) (N := N) (show x < 24 by omega) (show gop K a b x y < 24 by omega) q2
      obtain ⟨υ, v1, v2, v3, v4, v5⟩ := ih (y + 1) u τ (by omega) (by omega) (by omega) (fun k i hk z => by
        rcases (t2 k i).mp z with z | z | z
        · exact hs k i hk z
        · rw [z.1, z.2]; exact ⟨hx, y, c1, rfl⟩
        · rw [z.1, z.2]; exact ⟨q1, q3⟩)
      refine ⟨υ, t1.tr v1, v2, fun k i z => v3 k i ((t2 k i).mpr (Or.inl z)), fun m z1 z2 => ?_, ?_⟩
      · by_cases e : m = y
        · rw [e]
          exact v3 _ _ ((t2 _ _).mpr (Or.inr (Or.inl ⟨rfl, rfl⟩)))
        · exact v4 m (by omega) z2
      · rw [← v5]
        conv => lhs; unfold g211_76
        rw [pk_mul, if_neg (nI_ge (by omega) (by omega)), sh_bit (by omega), if_pos c1, if_neg (fun z => z rfl), m_op h (by omega) (by omega), lf_ci_r, o72, t3, lf_cv_r]
        unfold g211_113
        rw [nI_1]
    · obtain ⟨υ, v1, v2, v3, v4, v5⟩ := ih (y + 1) u σ (by omega) (by omega) (by omega) hs
      refine ⟨υ, v1, v2, v3, fun m z1 z2 => ?_, ?_⟩
      · by_cases e : m = y
        · exact absurd (e ▸ z2) c1
        · exact v4 m (by omega) z2
      · rw [← v5]
        conv => lhs; unfold g211_76
        rw [pk_mul, if_neg (nI_ge (by omega) (by omega)), sh_bit (by omega), if_neg c1, if_pos (by decide)]
        unfold g211_113
        rw [nI_1]
theorem m_tO {x1 : Int32} (h : gok K a b) (hN : iv_N N) (hm : gmv K a b M) : ∀ (c x u : Nat) (σ : hp_S), x + c = a * b → c < u → tSn σ K a b M → ∃ τ, fr [76] [] σ τ ∧ tSn τ K a b M ∧ gLe σ τ ∧ (∀ x' m, x ≤ x' → x' < a * b → bt M m = true → bt (τ.1 76 x') (gop K a b x' m) = true) ∧ g211_64 N u 72 x1 (nI K) (nI a) (nI b) M (nI x) (hp σ, cs) = lf_cv (f179 N 72 x1 (hp τ, cs)) fun w2 => some (.inl (some (.int 1)), w2) := by
  have h24 := h.2.2.1
  have hab : 1 ≤ a * b := Nat.mul_pos h.1 h.2.1
  intro c
  induction c with
  | zero =>
    intro x u σ hx hu hs
    obtain ⟨u, rfl⟩ : ∃ q, u = q + 1 := ⟨u - 1, by omega⟩
    refine ⟨σ, fr.rf, hs, fun _ _ z => z, fun x' m q1 q2 => by omega, ?_⟩
    unfold g211_64
    rw [pk_mul, if_pos (nI_le (by omega) (by omega)), o72]
  | succ c ih =>
    intro x u σ hx hu hs
    obtain ⟨u, rfl⟩ : ∃ q, u = q + 1 := ⟨u - 1, by omega⟩
    obtain ⟨τ, t1, t2, t3, t4, t5⟩ := m_tX (cs := cs) (N := N) (x1 := x1) (k64 := g211_64 N u) h hm (show x < a * b by omega) (a * b - 1) 1 N σ (by omega) (by unfold iv_N at hN; omega) (by omega) hs
    obtain ⟨υ, v1, v2, v3, v4, v5⟩ := ih (x + 1) u τ (by omega) (by omega) t2
    refine ⟨υ, t1.tr v1, v2, fun k i z => v3 k i (t3 k i z), fun x' m z1 z2 z3 => ?_, ?_⟩
    · by_cases e : x' = x
      · rw [e]
        refine v3 _ _ (t4 m ?_ z3)
        rcases Nat.eq_zero_or_pos m with e0 | e0
        · rw [e0, hm.2.1] at z3; cases z3
        · exact e0
      · exact v4 x' m (by omega) z2 z3
    · rw [← v5, ← t5]
      conv => lhs; unfold g211_64
      rw [pk_mul, if_neg (nI_ge (by omega) (by omega))]
      rfl
theorem m_trows {τ υ : hp_S} (h : gok K a b) (h1 : tSn υ K a b M) (h2 : ∀ x' m, x' < a * b → bt M m = true → bt (υ.1 76 x') (gop K a b x' m) = true) (h3 : tP τ r K a b M (a * b)) : ∀ k, k < 24 → υ.1 76 k = τ.1 (3 + 2 * r) k := by
  intro k hk
  apply b_ext
  intro i hi
  apply Bool.eq_iff_iff.mpr
  rw [(h3 k hk).1 i]
  constructor
  · exact fun z => h1 k i hk z
  · rintro ⟨z1, m, z2, z3⟩
    rw [z3]
    exact h2 k m z1 z2
theorem t_GW {τ : hp_S} (h : gok K a b) (hm : gmv K a b M) (h3 : tP τ r K a b M (a * b)) : GW (a * b) (if 1 < i_pc M then i_pc M else 1) (τ.1 (3 + 2 * r)) := by
  have h24 := h.2.2.1
  have hd : i_pc M ≤ (if 1 < i_pc M then i_pc M else 1) ∧ 1 ≤ (if 1 < i_pc M then i_pc M else 1) ∧ (if 1 < i_pc M then i_pc M else 1) ≤ 8 := by
    have := hm.1
    split <;> omega
  refine ⟨Nat.mul_pos h.1 h.2.1, h24, hd.2.1, hd.2.2, fun x hx i hi => ?_, fun x hx => Nat.le_trans (h3 x hx).2.1 hd.1⟩
  obtain ⟨z1, m, z2, z3⟩ := ((h3 x hx).1 i).mp hi
  obtain ⟨q1, q2, q3⟩ := tL_sym h hm z1 z2
  rw [← z3] at q1 q2 q3
  exact ⟨z1, q1, q2, ((h3 i (by omega)).1 x).mpr ⟨q1, q3⟩⟩
/-- choose -/
theorem grp_or (k a b : Int32) : (∃ K A B, gok K A B ∧ k = nI K ∧ a = nI A ∧ b = nI B) ∨ (∀ (N : Nat) (σ : hp_S) (cs : Nat × Nat), f39 N 25 k a b (hp σ, cs) = some (.inl (some (.int 0)), (hp σ, cs)) ∧ f207 N k a b (hp σ, cs) = some (.inl (some (.int 0)), (hp σ, cs))) := by
  by_cases c1 : a < 1
  · refine Or.inr (fun N σ cs => ⟨by unfold f39; rw [if_pos c1], ?_⟩)
    unfold f207 g207_9
    rw [if_pos c1]
    split
    · rfl
    · split <;> rfl
  by_cases c2 : b < 1
  · refine Or.inr (fun N σ cs => ⟨by unfold f39; rw [if_neg c1, if_pos c2], ?_⟩)
    unfold f207 g207_9
    rw [if_neg c1, if_pos c2]
    split
    · rfl
    · split <;> rfl
  by_cases c3 : 24 < a
  · refine Or.inr (fun N σ cs => ⟨by unfold f39; rw [if_neg c1, if_neg c2, if_pos c3], ?_⟩)
    unfold f207 g207_9
    rw [if_neg c1, if_neg c2, if_pos c3]
    split
    · rfl
    · split <;> rfl
  by_cases c4 : 24 < b
  · refine Or.inr (fun N σ cs => ⟨by unfold f39; rw [if_neg c1, if_neg c2, if_neg c3, if_pos c4], ?_⟩)
    unfold f207 g207_9
    rw [if_neg c1, if_neg c2, if_neg c3, if_pos c4]
    split
    · rfl
    · split <;> rfl
  have rng : ∀ x : Int32, ¬ x < 1 → ¬ 24 < x → ∃ A, 1 ≤ A ∧ A ≤ 24 ∧ x = nI A := by
    intro x h1 h2
    rw [fa_lt] at h1 h2
    have e1 : (1 : Int32).toInt = 1 := rfl
    have e24 : (24 : Int32).toInt = 24 := rfl
    have : ¬ x < 0 := by
      rw [fa_lt]
      have e0 : (0 : Int32).toInt = 0 := rfl
      omega
    obtain ⟨A, hA, rfl⟩ := nn_of this
    rw [nI_toInt hA] at h1 h2
    exact ⟨A, by omega, by omega, rfl⟩
  obtain ⟨A, a1, a2, rfl⟩ := rng a c1 c3
  obtain ⟨B, b1, b2, rfl⟩ := rng b c2 c4
  have hAB : A * B ≤ 24 * 24 := Nat.mul_le_mul a2 b2
  by_cases c5 : A * B ≤ 24
  · by_cases k0 : k = 0
    · exact Or.inl ⟨0, A, B, ⟨a1, b1, c5, Or.inl rfl⟩, k0, rfl, rfl⟩
    · by_cases k1 : k = 1
      · by_cases bb : B = 2
        · exact Or.inl ⟨1, A, B, ⟨a1, b1, c5, Or.inr ⟨rfl, bb⟩⟩, k1, rfl, rfl⟩
        · have nb : ¬ nI B = 2 := by
            rw [show (2 : Int32) = nI 2 from rfl, q_eq (by omega) (by omega)]
            exact bb
          refine Or.inr (fun N σ cs => ⟨?_, ?_⟩)
          · unfold f39
            rw [if_neg c1, if_neg c2, if_neg c3, if_neg c4, pk_mul, if_pos (show nI (A * B) ≤ (24 : Int32) from nI_le (b := 24) c5 (by omega)), if_neg k0, if_neg (fun z => z k1), if_neg nb]
          · unfold f207 g207_9
            rw [if_neg k0, if_neg (fun z => z k1), if_neg c1, if_neg c2, if_neg c3, if_neg c4, pk_mul, if_neg (show ¬ (24 : Int32) < nI (A * B) from nI_nlt (a := 24) c5 (by omega)), if_neg k0, if_pos nb]
      · refine Or.inr (fun N σ cs => ⟨?_, ?_⟩)
        · unfold f39
          rw [if_neg c1, if_neg c2, if_neg c3, if_neg c4, pk_mul, if_pos (show nI (A * B) ≤ (24 : Int32) from nI_le (b := 24) c5 (by omega)), if_neg k0, if_pos k1]
        · unfold f207
          rw [if_neg k0, if_pos k1]
  · refine Or.inr (fun N σ cs => ⟨?_, ?_⟩)
    · unfold f39
      rw [if_neg c1, if_neg c2, if_neg c3, if_neg c4, pk_mul, if_neg (show ¬ nI (A * B) ≤ (24 : Int32) from nI_ge (a := 24) (by omega) (by omega))]
    · unfold f207 g207_9
      rw [if_neg c1, if_neg c2, if_neg c3, if_neg c4, pk_mul, if_pos (show (24 : Int32) < nI (A * B) from nI_lt (a := 24) (by omega) (by omega))]
      split
      · rfl
      · split <;> rfl
def gch (σ : hp_S) (K a b : Nat) : hp_S := hp_wf (hp_wf (hp_wf σ 25 0 (nI K)) 25 1 (nI a)) 25 2 (nI b)
theorem c_choose (h : gok K a b) : f39 N 25 (nI K) (nI a) (nI b) (hp σ, cs) = some (.inl (some (.int 1)), (hp (gch σ K a b), cs)) := by
  obtain ⟨ha, hb⟩ := gok_b h
  obtain ⟨h1, h2, h4, h5⟩ := h
  have ef : g39_48 N 25 (nI K) (nI a) (nI b) (hp σ, cs) = some (.inl (some (.int 1)), (hp (gch σ K a b), cs)) := by
    unfold g39_48
    rw [w25_0, w25_1, w25_2]
    rfl
  unfold f39
  rw [if_neg (nI_nlt1 h1 (by omega)), if_neg (nI_nlt1 h2 (by omega)), if_neg (show ¬ (24 : Int32) < nI a from nI_nlt (a := 24) ha (by omega)), if_neg (show ¬ (24 : Int32) < nI b from nI_nlt (a := 24) hb (by omega)), pk_mul, if_pos (show nI (a * b) ≤ (24 : Int32) from nI_le (b := 24) h4 (by omega))]
  rcases h5 with rfl | ⟨rfl, rfl⟩
  · rw [if_pos (show nI 0 = 0 from rfl), ef]
  · rw [if_neg (by decide), if_neg (fun z => z rfl), if_pos (show nI 2 = 2 from rfl), ef]
theorem m_choose {w : lf_W} (h : gok K a b) : f207 N (nI K) (nI a) (nI b) w = some (.inl (some (.int 1)), w) := by
  obtain ⟨ha, hb⟩ := gok_b h
  obtain ⟨h1, h2, h4, h5⟩ := h
  unfold f207 g207_9 g207_48
  rw [if_neg (nI_nlt1 h1 (by omega)), if_neg (nI_nlt1 h2 (by omega)), if_neg (show ¬ (24 : Int32) < nI a from nI_nlt (a := 24) ha (by omega)), if_neg (show ¬ (24 : Int32) < nI b from nI_nlt (a := 24) hb (by omega)), pk_mul, if_neg (show ¬ (24 : Int32) < nI (a * b) from nI_nlt (a := 24) h4 (by omega))]
  rcases h5 with rfl | ⟨rfl, rfl⟩
  · rw [if_pos (show nI 0 = 0 from rfl), if_pos (show nI 0 = 0 from rfl)]
  · rw [if_neg (by decide), if_neg (fun z => z rfl), if_neg (by decide), if_neg (fun z => z rfl)]
end TW
theorem case_turned {J : iv_J} {rd : iv_rd} {N : Nat} (hN : iv_N N) : iv_caseN J rd N g327_585 := by
  intro sc i σ cs hs hi hI
  have key : ∃ (τ : hp_S), iv J τ ∧ ∃ (v : Int32) (σ1 : hp_S), f136 N 0 (sc.2 (i + 1)) (sc.2 (i + 2)) (sc.2 (i + 3)) (sc.2 (i + 4)) (sc.2 (i + 5)) (hp σ, cs) = some (.inl (some (.int v)), (hp σ1, cs)) ∧ f211 N 72 (sc.2 (i + 1)) (sc.2 (i + 2)) (sc.2 (i + 3)) (sc.2 (i + 4)) (sc.2 (i + 5)) (hp σ1, cs) = some (.inl (some (.int v)), (hp τ, cs)) := by
    generalize sc.2 (i + 1) = y
    generalize sc.2 (i + 2) = k
    generalize sc.2 (i + 3) = a
    generalize sc.2 (i + 4) = b
    generalize sc.2 (i + 5) = M
    rcases pk_ix y (n := 8) (by omega) with hy | hy | ⟨r, hr, rfl⟩
    · refine ⟨hp_wf σ 72 0 0, hI.kept iv_k0, 0, σ, ?_, ?_⟩
      · unfold f136
        rw [c_isS_lo hy, lf_ci_r, if_pos rfl]
      · unfold f211
        rw [w72_0, m_isS_lo hy, lf_ci_r, if_pos rfl]
    · refine ⟨hp_wf σ 72 0 0, hI.kept iv_k0, 0, σ, ?_, ?_⟩
      · unfold f136
        rw [c_isS_hi hy, lf_ci_r, if_pos rfl]
      · unfold f211
        rw [w72_0, m_isS_hi hy, lf_ci_r, if_pos rfl]
    rcases (grp_or k a b).symm with h | ⟨K, A, B, h, rfl, rfl, rfl⟩
    · refine ⟨hp_wf σ 72 0 0, hI.kept iv_k0, 0, σ, ?_, ?_⟩
      · unfold f136
        rw [c_isS_in hr, lf_ci_r, if_neg (by decide), r0_3, o25, (h N σ cs).1, lf_ci_r, if_pos rfl]
      · unfold f211
        rw [w72_0, m_isS_in hr, lf_ci_r, if_neg (by decide), (h N (hp_wf σ 72 0 0) cs).2, lf_ci_r, if_pos rfl]
    have wg : fr [] [(25, 0), (25, 1), (25, 2)] σ (gch σ K A B) := ((fr.wf (k := 0) (by decide)).tr (fr.wf (k := 1) (by decide))).tr (fr.wf (k := 2) (by decide))
    have kg : iv_kept σ (gch σ K A B) := wg.kept rfl rfl
    have h3 : gF3 (gch σ K A B) K A B := ⟨by unfold gch; rw [hp_wf_ne (by decide), hp_wf_ne (by decide), hp_wf_at], by unfold gch; rw [hp_wf_ne (by decide), hp_wf_at], by unfold gch; rw [hp_wf_at]⟩
    by_cases hm : gmv K A B M
    · obtain ⟨τ, t1, t2, t3, t4, t5⟩ := c_turnN (σ := gch σ K A B) (cs := cs) (N := N) hr h hN hm.2.2.1 hm.1 h3
      have h24 := h.2.2.1
      have hm8 := hm.1
      have w0 : fr [76] [(72, 0), (72, 4), (72, 5)] τ (m_cl (hp_wf τ 72 0 0) (nI (A * B)) (nI (if 1 < i_pc M then i_pc M else 1))) := (fr.wf (k := 0) (by decide)).tr (m_cl_fr.wk (fun _ z => z) (fun _ z => List.mem_cons_of_mem _ z))
      obtain ⟨υ, v1, v2, v3, v4, v5⟩ := m_tO (cs := cs) (N := N) (x1 := nI r) h hN hm (A * B) 0 N (m_cl (hp_wf τ 72 0 0) (nI (A * B)) (nI (if 1 < i_pc M then i_pc M else 1))) (by omega) (by unfold iv_N at hN; omega) (fun k i hk z => by
        rw [show (m_cl (hp_wf τ 72 0 0) (nI (A * B)) (nI (if 1 < i_pc M then i_pc M else 1))).1 76 k = 0 from hp_fill_at hk, b_0] at z
        cases z)
      have hrow := m_trows h v2 (fun x m q1 q2 => v4 x m (Nat.zero_le _) q1 q2) t4
      have w1 : fr [76] [(72, 0), (72, 4), (72, 5)] τ υ := w0.tr (v1.wk (fun _ z => z) (fun _ z => absurd z List.not_mem_nil))
      have hk2 : iv_kept τ υ := w1.kept rfl rfl
      have hgw := t_GW h hm t4
      have hcp : CP (gch σ K A B) τ r := CP.of (A := []) (F := []) t1 rfl rfl (fun h => ⟨by rw [t1.g (by simp <;> omega), t1.g (by simp <;> omega)]; exact h.1, by rw [t1.g (by simp <;> omega), t1.g (by simp <;> omega)]; exact h.2.1, by rw [t1.g (by simp <;> omega), t1.g (by simp <;> omega)]; exact h.2.2⟩)
      refine ⟨m_kp υ r, put_iv (y := 0) (hI.kept kg) hr hgw hcp ⟨t2, t3, fun k hk => rfl⟩ ?_ ⟨?_, ?_, ?_, hrow⟩, 1, τ, ?_, ?_⟩
      · exact hk2
      · rw [v1.f List.not_mem_nil]
        show (hp_wf (hp_wf (hp_wf τ 72 0 0) 72 4 (nI (A * B))) 72 5 (nI (if 1 < i_pc M then i_pc M else 1))).2.2.1 72 4 = _
        rw [hp_wf_ne (by decide), hp_wf_at]
      · rw [v1.f List.not_mem_nil]
        show (hp_wf (hp_wf (hp_wf τ 72 0 0) 72 4 (nI (A * B))) 72 5 (nI (if 1 < i_pc M then i_pc M else 1))).2.2.1 72 5 = _
        rw [hp_wf_at]
      · rw [v1.f List.not_mem_nil]
        show (hp_wf (hp_wf (hp_wf τ 72 0 0) 72 4 (nI (A * B))) 72 5 (nI (if 1 < i_pc M then i_pc M else 1))).2.2.1 72 0 = _
        rw [hp_wf_ne (by decide), hp_wf_ne (by decide), hp_wf_at]
      · unfold f136
        rw [c_isS_in hr, lf_ci_r, if_neg (by decide), r0_3, o25, c_choose h, lf_ci_r, if_neg (by decide), r0_3, o25, (c_moves h h3 hN).1 hm, lf_ci_r, if_pos (by decide), r0_3, c_slots, Option.bind_some, c_slot hr, Option.bind_some, o25, t5, lf_cv_r]
      · have fin : g211_58 N 72 (nI r) (nI K) (nI A) (nI B) M (nI (if 1 < i_pc M then i_pc M else 1)) (nI A * nI B) 72 (hp (hp_wf τ 72 0 0), cs) = some (.inl (some (.int 1)), (hp (m_kp υ r), cs)) := by
          unfold g211_58
          rw [pk_mul, o72, m_clears hN, lf_cv_r]
          rw [show (0 : Int32) = nI 0 from rfl] at *
          rw [v5, m_keeps hr hN, lf_cv_r]
        unfold f211
        rw [w72_0, m_isS_in hr, lf_ci_r, if_neg (by decide), m_choose h, lf_ci_r, if_neg (by decide), (m_moves h hN).1 hm, lf_ci_r, if_pos (by decide), m_pc hN, lf_ci_r]
        by_cases z : i_pc M = 0
        · rw [z, if_neg (fun q => q rfl)]
          rw [z, if_neg (by decide)] at fin
          exact fin
        · rw [if_pos (nI_ne0 (by omega) (by omega)), m_pc hN, lf_ci_r]
          by_cases z1 : 1 < i_pc M
          · rw [if_pos z1] at fin
            exact fin
          · rw [if_neg z1] at fin
            rw [show i_pc M = 1 by omega]
            exact fin
    · refine ⟨hp_wf (gch σ K A B) 72 0 0, (hI.kept kg).kept iv_k0, 0, gch σ K A B, ?_, ?_⟩
      · unfold f136
        rw [c_isS_in hr, lf_ci_r, if_neg (by decide), r0_3, o25, c_choose h, lf_ci_r, if_neg (by decide), r0_3, o25, (c_moves h h3 hN).2 hm, lf_ci_r, if_neg (fun z => z rfl)]
      · unfold f211
        rw [w72_0, m_isS_in hr, lf_ci_r, if_neg (by decide), m_choose h, lf_ci_r, if_neg (by decide), (m_moves h hN).2 hm, lf_ci_r, if_neg (fun z => z rfl)]
  obtain ⟨τ, q1, v, σ1, q3, q4⟩ := key
  refine ⟨τ, cs, q1, Nat.le_add_right _ _, Nat.le_add_right _ _, fun k23 => ?_⟩
  unfold g327_585
  simp only [iv_s1 hs hi, iv_s2 hs hi, iv_s3 hs hi, iv_s4 hs hi, iv_s5 hs hi, Option.bind_some]
  rw [if_pos hp_x, q3, lf_ci_r, if_pos hp_m, q4, lf_ci_r, if_pos rfl]
  rfl
