/-! cool -/
theorem swx_pc {f : Nat → Int32} {n e a b c d : Nat} (hg : GW n e f) (h : d4 a b c d) (hl1 : bt (f a) b = true) (hl2 : bt (f c) d = true) (h1 : bt (f a) c = false) (h2 : bt (f b) d = false) (k : Nat) : i_pc (swx f a b c d k) = i_pc (f k) := by
  obtain ⟨g1, g2, g3, g4, g5, g6⟩ := hg
  have h' := h
  obtain ⟨q1, q2, q3, q4, q5, q6, q7, q8, q9, q10⟩ := h
  obtain ⟨la, lb, -, lba⟩ := g5 a q1 b hl1
  obtain ⟨lc, ld, -, ldc⟩ := g5 c q3 d hl2
  have s1 : bt (f c) a = false := by
    cases e : bt (f c) a with
    | false => rfl
    | true => rw [(g5 c q3 a e).2.2.2] at h1; cases h1
  have s2 : bt (f d) b = false := by
    cases e : bt (f d) b with
    | false => rfl
    | true => rw [(g5 d q4 b e).2.2.2] at h2; cases h2
  rw [swx_row h']
  unfold swm
  by_cases ka : k = a
  · rw [if_pos ka, ka, pc_sw (by omega) (by omega) q9 hl1 h1]
  · rw [if_neg ka]
    by_cases kb : k = b
    · rw [if_pos kb, kb, pc_sw (by omega) (by omega) q8 lba h2]
    · rw [if_neg kb]
      by_cases kc : k = c
      · rw [if_pos kc, kc, pc_sw (by omega) (by omega) (fun q => q8 q.symm) hl2 s1]
      · rw [if_neg kc]
        by_cases kd : k = d
        · rw [if_pos kd, kd, pc_sw (by omega) (by omega) (fun q => q9 q.symm) ldc s2]
        · rw [if_neg kd, Int32.xor_zero]
theorem fS_len {f : Nat → Int32} {n d i j : Nat} {z : Int32} (hg : GW n d f) (hi : i < (lq f n 0 n).length) (hj : j < (lq f n 0 n).length) (hok : okS f (lq f n 0 n) i j z = true) : (lq (fS f (lq f n 0 n) i j z) n 0 n).length = (lq f n 0 n).length := by
  obtain ⟨⟨u1, u2, u3, u4, u5, u6⟩, ⟨l1, l2⟩, hk⟩ := two_lines (z := z) hg hi hj
  obtain ⟨h4, hg'⟩ := hk hok
  obtain ⟨_, _, _, _, w5, w6⟩ := swb_iff.mp hok
  have hl2 : bt (f (cx z (lp (lq f n 0 n) j).1 (lp (lq f n 0 n) j).2).1) (cx z (lp (lq f n 0 n) j).1 (lp (lq f n 0 n) j).2).2 = true := by
    unfold cx
    split
    · exact l2
    · exact (hg.2.2.2.2.1 _ u3 _ l2).2.2.2
  have e1 := lq_twice hg.2.1 hg.2.2.2.2.1
  have e2 := lq_twice hg'.2.1 hg'.2.2.2.2.1
  have e3 : sm (fun a => i_pc (fS f (lq f n 0 n) i j z a)) n = sm (fun a => i_pc (f a)) n := sm_congr (fun k _ => swx_pc hg h4 l1 hl2 w5 w6 k)
  omega
theorem bt_32767 : ∀ i, i < 32 → bt 32767 i = decide (i < 15) := by decide +kernel
/-- what is drawn -/
theorem draw (x : Int32) : ∃ r, r < 32768 ∧ lf_ushr x 16 &&& 32767 = nI r ∧ lf_shr x 16 &&& 32767 = nI r := by
  obtain ⟨m, hm, rfl⟩ := wb_of32 x
  have e1 : lf_ushr (nI m) 16 = nI (m / 2 ^ 16) := sh_u (k := 16) hm (by omega)
  have e2 : lf_ushr (nI m) 16 &&& 32767 = nI (m / 2 ^ 16 % 2 ^ 15) := by
    rw [e1]
    exact fa_mask (m / 2 ^ 16) 15
  refine ⟨m / 2 ^ 16 % 2 ^ 15, Nat.mod_lt _ (by decide), e2, ?_⟩
  rw [← e2]
  apply b_ext
  intro i hi
  rw [b_and, b_and, bt_32767 i hi]
  by_cases c : i < 15
  · have a1 : bt (lf_shr (nI m) 16) i = if 16 + i < 32 then bt (nI m) (16 + i) else bt (nI m) 31 := b_sshr 16 (by omega) (nI m) hi
    have a2 : bt (lf_ushr (nI m) 16) i = bt (nI m) (16 + i) := b_ushr 16 (by omega) (nI m) i
    rw [a1, a2, if_pos (by omega)]
  · rw [decide_eq_false c, Bool.and_false, Bool.and_false]
theorem rem_nI {a b : Nat} (ha : a < 2 ^ 31) (h0 : 0 < b) (hb : b < 2 ^ 31) : lf_rem (nI a) (nI b) = nI (a % b) := by
  unfold lf_rem
  exact pk_rem ha h0 hb
theorem min_nI {a b : Nat} (ha : a < 2 ^ 31) (hb : b < 2 ^ 31) : lf_min (nI a) (nI b) = nI (if b < a then b else a) := by
  unfold lf_min
  by_cases c : b < a
  · rw [if_pos c, if_pos (nI_lt c ha)]
  · rw [if_neg c, if_neg (nI_nlt (by omega) hb)]
theorem max_nI {a b : Nat} (ha : a < 2 ^ 31) (hb : b < 2 ^ 31) : lf_max (nI a) (nI b) = nI (if a < b then b else a) := by
  unfold lf_max
  by_cases c : a < b
  · rw [if_pos c, if_pos (nI_lt c hb)]
  · rw [if_neg c, if_neg (nI_nlt (by omega) ha)]
section CO
variable {σ : hp_S} {cs : Nat × Nat} {N s n d : Nat} {f : Nat → Int32}
/-- dare -/
theorem c_dare {i j M : Nat} {z : Int32} (hs : s < 8) (hg : GW n d f) (hN : iv_N N) (hv : NV σ s n d f) (hsw : σ.2.2.2 29 0 = σ.2.2.2 29 1) (hi : i < (lq f n 0 n).length) (hj : j < (lq f n 0 n).length) (hM : M ≤ 1100000) : ((i ≠ j ∧ okS f (lq f n 0 n) i j z = true ∧ gPr (fS f (lq f n 0 n) i j z) (al n) ≤ M) → ∃ τ, fr ((3 + 2 * s) :: [30, 31, 43]) F29 σ τ ∧ τ.2.2.2 29 0 = τ.2.2.2 29 1 ∧ NV τ s n d (fS f (lq f n 0 n) i j z) ∧ f10 N 42 (2 + 2 * s) (nI i) (nI j) z (nI M) (hp σ, cs) = some (.inl (some (.int (nI (gPr (fS f (lq f n 0 n) i j z) (al n))))), (hp τ, cs))) ∧ (¬ (i ≠ j ∧ okS f (lq f n 0 n) i j z = true ∧ gPr (fS f (lq f n 0 n) i j z) (al n) ≤ M) → ∃ (τ : hp_S) (r : Nat), M < r ∧ r ≤ 2000000 ∧ fr ((3 + 2 * s) :: [30, 31, 43]) F29 σ τ ∧ τ.2.2.2 29 0 = τ.2.2.2 29 1 ∧ NV τ s n d f ∧ f10 N 42 (2 + 2 * s) (nI i) (nI j) z (nI M) (hp σ, cs) = some (.inl (some (.int (nI r))), (hp τ, cs))) := by
  have h96 := hg.l96
  obtain ⟨⟨u1, u2, u3, u4, u5, u6⟩, -, hok⟩ := two_lines (z := z) hg hi hj
  have e1 := c_ends (cs := cs) hs hg.2.1 hN hv.1 hv.2.2 (fun a ha b hb => hg.bn ha hb) (i := i) (by omega)
  have e2 := c_ends (cs := cs) hs hg.2.1 hN hv.1 hv.2.2 (fun a ha b hb => hg.bn ha hb) (i := j) (by omega)
  rw [lp_get hi, show enc (some (lp (lq f n 0 n) i)) = nI (32 * (lp (lq f n 0 n) i).1 + (lp (lq f n 0 n) i).2) from rfl] at e1
  rw [lp_get hj, show enc (some (lp (lq f n 0 n) j)) = nI (32 * (lp (lq f n 0 n) j).1 + (lp (lq f n 0 n) j).2) from rfl] at e2
  have n1 : ¬ nI (32 * (lp (lq f n 0 n) i).1 + (lp (lq f n 0 n) i).2) = -1 := by rw [q_ne1 (by omega)]; exact id
  have n2 : ¬ nI (32 * (lp (lq f n 0 n) j).1 + (lp (lq f n 0 n) j).2) = -1 := by rw [q_ne1 (by omega)]; exact id
  obtain ⟨s1, s2⟩ := c_swap (σ := σ) (cs := cs) (N := N) (z := z) (lay_row hs) hv.2.2 u1 u2 u3 u4 u5 u6
  by_cases hij : i = j
  · refine ⟨fun q => absurd hij q.1, fun _ => ⟨σ, M + 1, by omega, by omega, fr.rf, hsw, hv, ?_⟩⟩
    unfold f10 g10_47
    rw [sN_o hs, e1, lf_ci_r, sN_o hs, e2, lf_ci_r, if_pos (by rw [hij]), nI_1]
  · have nij : ¬ nI i = nI j := by rw [q_eq (by omega) (by omega)]; exact hij
    cases hb : okS f (lq f n 0 n) i j z with
    | false =>
      refine ⟨fun q => absurd q.2.1 (by decide), fun _ => ⟨σ, M + 1, by omega, by omega, fr.rf, hsw, hv, ?_⟩⟩
      unfold f10 g10_47
      rw [sN_o hs, e1, lf_ci_r, sN_o hs, e2, lf_ci_r, if_neg nij, if_neg n1, if_neg n2, sN_r hs, s2 hb, lf_ci_r, if_neg (fun q => q rfl), nI_1]
    | true =>
      obtain ⟨h4, hg'⟩ := hok hb
      have ef2 : ∀ k, k < 24 → (tl4 σ (3 + 2 * s) (lp (lq f n 0 n) i).1 (lp (lq f n 0 n) i).2 (cx z (lp (lq f n 0 n) j).1 (lp (lq f n 0 n) j).2).1 (cx z (lp (lq f n 0 n) j).1 (lp (lq f n 0 n) j).2).2).1 (3 + 2 * s) k = fS f (lq f n 0 n) i j z k := fun k hk => by rw [tl4_at h4]; exact swx_congr h4 hv.2.2 k hk
      obtain ⟨τ, p, t1, t2, t3, t4, t5, t6⟩ := c_priceS (σ := tl4 σ (3 + 2 * s) (lp (lq f n 0 n) i).1 (lp (lq f n 0 n) i).2 (cx z (lp (lq f n 0 n) j).1 (lp (lq f n 0 n) j).2).1 (cx z (lp (lq f n 0 n) j).1 (lp (lq f n 0 n) j).2).2) (cs := cs) (N := N) (L := M + 1) hs hg.1 hg.2.1 hN (by omega) ef2 hsw
      have fk : ∀ q, q ∈ [(29, 0), (29, 1), (29, 3), (29, 4)] → q ∈ F29 := fun q h => by
        unfold F29
        simp only [List.mem_cons, List.not_mem_nil, or_false] at h ⊢
        rcases h with h | h | h | h <;> simp [h]
      have pre : f10 N 42 (2 + 2 * s) (nI i) (nI j) z (nI M) (hp σ, cs) = if nI p ≤ nI M then (some (.inl (some (.int (nI p))), (hp τ, cs))) else (lf_cv (f3 N (3 + 2 * s) (nI (32 * (lp (lq f n 0 n) i).1 + (lp (lq f n 0 n) i).2)) (nI (32 * (lp (lq f n 0 n) j).1 + (lp (lq f n 0 n) j).2)) z (hp τ, cs)) fun w46 => some (.inl (some (.int (nI p))), w46)) := by
        unfold f10
        rw [sN_o hs, e1, lf_ci_r, sN_o hs, e2, lf_ci_r, if_neg nij, if_neg n1, if_neg n2, sN_r hs, s1 hb, lf_ci_r, if_pos (by decide), r42_0, sN_r hs, sN_o hs, c_all (σ := tl4 σ (3 + 2 * s) (lp (lq f n 0 n) i).1 (lp (lq f n 0 n) i).2 (cx z (lp (lq f n 0 n) j).1 (lp (lq f n 0 n) j).2).1 (cx z (lp (lq f n 0 n) j).1 (lp (lq f n 0 n) j).2).2) hs (n := n) hv.1, lf_ci_r, o29, nI_1, t6, lf_ci_r, sN_r hs]
      by_cases g : gPr (fS f (lq f n 0 n) i j z) (al n) ≤ M
      · have hpp := (t3 (by omega)).1
        refine ⟨fun _ => ⟨τ, (tl4_fr List.mem_cons_self).tr (t1.wk (fun a h => by simp at h; rcases h with h | h <;> simp [h]) fk), t2, ⟨by rw [t1.f (by simp <;> omega)]; exact hv.1, by rw [t1.f (by simp <;> omega)]; exact hv.2.1, fun k hk => by rw [t1.r (by simp; omega)]; exact ef2 k hk⟩, ?_⟩, fun q => absurd ⟨hij, rfl, g⟩ q⟩
        rw [pre, hpp, if_pos (nI_le g (by omega))]
      · have hpp := t4 (by omega)
        have w1 := tl4_back h4 (by simp; omega) t1
        refine ⟨fun q => absurd q.2.2 g, fun _ => ⟨_, p, by omega, t5, w1.wk (fun a h => by simp at h; rcases h with h | h <;> simp [h]) fk, t2, hv.fr w1 (by simp; omega) (by simp <;> omega) (by simp <;> omega), ?_⟩⟩
        rw [pre, if_neg (nI_ge (by omega) (by omega)), c_unswap (lay_row hs) u1 u2 u3 u4 h4, lf_cv_r]
end CO
def nxt (x : Int32) : Int32 := x * 1103515245 + 12345
theorem lnM.fr {σ τ : hp_S} {A : List Nat} {F : List (Nat × Nat)} {L : List (Nat × Nat)} (h : lnM σ L) (k : fr A F σ τ) (h1 : 79 ∉ A) (h2 : 80 ∉ A) (h3 : (72, 20) ∉ F) : lnM τ L := ⟨by rw [k.f h3]; exact h.1, fun i a b e => by rw [k.r h1, k.r h2]; exact h.2 i a b e⟩
theorem m_roll {σ : hp_S} {cs : Nat × Nat} {N r : Nat} {x : Int32} (hx : σ.2.2.1 72 34 = x) (hr : lf_shr (nxt x) 16 &&& 32767 = nI r) : f243 N 72 (hp σ, cs) = some (.inl (some (.int (nI r))), (hp (hp_wf σ 72 34 (nxt x)), cs)) := by
  unfold f243
  rw [i72_34, hx, w72_34, i72_34, hp_wf_at]
  show some (Sum.inl (some (Value.int (lf_shr (nxt x) 16 &&& 32767))), _) = _
  rw [hr]
  rfl
def G76 : List Nat := [76, 79, 80, 81]
def G72 : List (Nat × Nat) := [(72, 20), (72, 24), (72, 25), (72, 34)]
theorem co_steps {cs : Nat × Nat} {N s n d S H : Nat} (hs : s < 8) (hN : iv_N N) (hS : S ≤ 500) (hH : H ≤ 10000) : ∀ (m t k u v ln : Nat) (f : Nat → Int32) (sd : Int32) (σ : hp_S), GW n d f → t + m = S → k ≤ t → m < u → m < v → (lq f n 0 n).length = ln → 1 ≤ ln → NV σ s n d f → σ.2.2.2 29 0 = σ.2.2.2 29 1 → ∃ (k' : Nat) (f' : Nat → Int32) (τ : hp_S), GW n d f' ∧ fr ((3 + 2 * s) :: [30, 31, 43]) F29 σ τ ∧ τ.2.2.2 29 0 = τ.2.2.2 29 1 ∧ NV τ s n d f' ∧ g7_42 N u 42 (2 + 2 * s) (nI S) (nI H) (nI ln) (nI k) (nI (gPr f (al n))) sd (nI t) (hp σ, cs) = some (.inl (some (.int (nI k'))), (hp τ, cs)) ∧ ∀ (μ : hp_S) (ds : Nat × Nat), MV μ n d f → lnM μ (lq f n 0 n) → μ.2.2.1 72 34 = sd → ∃ υ, fr G76 G72 μ υ ∧ MV υ n d f' ∧ g244_74 N v 72 (nI s) (nI S) (nI (H - t)) (nI k) (nI t) (hp μ, ds) = some (.inl (some (.int (nI k'))), (hp (m_kp υ s), ds)) := by
  intro m
  induction m with
  | zero =>
    intro t k u v ln f sd σ hg ht hk hu hv0 hln hl1 hv hsw
    obtain ⟨u, rfl⟩ : ∃ q, u = q + 1 := ⟨u - 1, by omega⟩
    obtain ⟨v, rfl⟩ : ∃ q, v = q + 1 := ⟨v - 1, by omega⟩
    refine ⟨k, f, σ, hg, fr.rf, hsw, hv, ?_, fun μ ds hm hL hsd => ⟨μ, fr.rf, hm, ?_⟩⟩
    · unfold g7_42
      rw [if_pos (nI_le (by omega) (by omega))]
    · unfold g244_74
      rw [if_pos (nI_le (by omega) (by omega)), o72, m_keeps hs hN, lf_cv_r]
  | succ m ih =>
    intro t k u v ln f sd σ hg ht hk hu hv0 hln hl1 hv hsw
    obtain ⟨u, rfl⟩ : ∃ q, u = q + 1 := ⟨u - 1, by omega⟩
    obtain ⟨v, rfl⟩ : ∃ q, v = q + 1 := ⟨v - 1, by omega⟩
    have h96 := hg.l96
    have hP := gPr_max (f := f) (A := al n)
    obtain ⟨r1, b1, c1, d1⟩ := draw (nxt sd)
    obtain ⟨r2, b2, c2, d2⟩ := draw (nxt (nxt sd))
    obtain ⟨r3, b3, c3, d3⟩ := draw (nxt (nxt (nxt sd)))
    have hln0 : ¬ nI ln = 0 := nI_ne0 (by omega) (by omega)
    obtain ⟨z, hz⟩ : ∃ z : Int32, (r3 % 2 ≠ 1 ∧ z = 0) ∨ (r3 % 2 = 1 ∧ z = 1) := by
      by_cases h : r3 % 2 = 1
      · exact ⟨1, Or.inr ⟨h, rfl⟩⟩
      · exact ⟨0, Or.inl ⟨h, rfl⟩⟩
    have m1 : r1 % ln < ln := Nat.mod_lt _ (by omega)
    have m2 : r2 % ln < ln := Nat.mod_lt _ (by omega)
    generalize hu1 : r1 % ln = p1 at m1
    generalize hu2 : r2 % ln = p2 at m2
    have hI : (if p2 < p1 then p2 else p1) < (lq f n 0 n).length := by split <;> omega
    have hJ : (if p1 < p2 then p2 else p1) < (lq f n 0 n).length := by split <;> omega
    generalize hi : (if p2 < p1 then p2 else p1) = i at hI
    generalize hj : (if p1 < p2 then p2 else p1) = j at hJ
    have hij : (i = j ↔ p1 = p2) := by
      constructor
      · intro q
        rw [← hi, ← hj] at q
        split at q <;> split at q <;> omega
      · intro q
        rw [← hi, ← hj, q]
    have e2 : lf_rem (nI r3) 2 = nI (r3 % 2) := rem_nI (b := 2) (by omega) (by omega) (by omega)
    have hmax : nI (gPr f (al n)) + lf_max (nI H - nI t) 0 = nI (gPr f (al n) + (H - t)) := by
      have e : lf_max (nI H - nI t) 0 = nI (H - t) := by
        unfold lf_max
        by_cases c : t ≤ H
        · rw [pk_sub c, if_neg (nI_pos (by omega))]
        · rw [if_pos, show H - t = 0 by omega]
          · rfl
          · rw [fa_lt, pk_sub_toInt (by omega) (by omega)]
            show (H : Int) - t < 0
            omega
      rw [e, nI_add]
    -- the class
    have preC : g7_42 N (u + 1) 42 (2 + 2 * s) (nI S) (nI H) (nI ln) (nI k) (nI (gPr f (al n))) sd (nI t) (hp σ, cs) = g7_135 N (g7_42 N u) 42 (2 + 2 * s) (nI S) (nI H) (nI ln) (nI k) (nI (gPr f (al n))) (nxt (nxt (nxt sd))) (nI t) (nI (gPr f (al n) + (H - t))) z (nI j) (nI i) (2 + 2 * s) 42 (hp σ, cs) := by
      rw [g7_42]
      unfold f8 f9
      rw [if_neg (nI_ge (by omega) (by omega)), lf_ci_r, lf_ci_r, if_neg hln0, lf_ci_r, lf_ci_r, if_neg hln0, lf_ci_r, lf_ci_r]
      rw [show sd * 1103515245 + 12345 = nxt sd from rfl, show nxt sd * 1103515245 + 12345 = nxt (nxt sd) from rfl, show nxt (nxt sd) * 1103515245 + 12345 = nxt (nxt (nxt sd)) from rfl, c1, c2, c3, rem_nI (by omega) (by omega) (by omega), rem_nI (by omega) (by omega) (by omega), e2, hu1, hu2, min_nI (by omega) (by omega), max_nI (by omega) (by omega), hi, hj, hmax]
      rcases hz with ⟨hz1, hz2⟩ | ⟨hz1, hz2⟩
      · rw [if_pos (by rw [show (1 : Int32) = nI 1 from rfl, q_eq (by omega) (by omega)]; exact hz1), hz2]
      · rw [if_neg (fun q => q (by rw [hz1]; rfl)), hz2]
    -- the model
    have preM : ∀ (μ : hp_S) (ds : Nat × Nat), MV μ n d f → lnM μ (lq f n 0 n) → μ.2.2.1 72 34 = sd → ∃ μ1, fr G76 G72 μ μ1 ∧ MV μ1 n d f ∧ lnM μ1 (lq f n 0 n) ∧ μ1.2.2.1 72 34 = nxt (nxt (nxt sd)) ∧ g244_74 N (v + 1) 72 (nI s) (nI S) (nI (H - t)) (nI k) (nI t) (hp μ, ds) = g244_155 N (g244_74 N v) 72 (nI s) (nI S) (nI (H - t)) (nI k) (nI t) (nI p1) (nI p2) z (nI (gPr f (al n))) (nI i) (nI j) (hp μ1, ds) := by
      intro μ ds hm hL hsd
      have q1 := m_roll (cs := ds) (N := N) hsd d1
      have q2 := m_roll (σ := hp_wf μ 72 34 (nxt sd)) (cs := ds) (N := N) hp_wf_at d2
      have q3 := m_roll (σ := hp_wf (hp_wf μ 72 34 (nxt sd)) 72 34 (nxt (nxt sd))) (cs := ds) (N := N) hp_wf_at d3
      have w0 : fr G76 G72 μ (hp_wf (hp_wf (hp_wf μ 72 34 (nxt sd)) 72 34 (nxt (nxt sd))) 72 34 (nxt (nxt (nxt sd)))) := ((fr.wf (by decide)).tr (fr.wf (by decide))).tr (fr.wf (by decide))
      have hm1 : MV (hp_wf (hp_wf (hp_wf μ 72 34 (nxt sd)) 72 34 (nxt (nxt sd))) 72 34 (nxt (nxt (nxt sd)))) n d f := ⟨by rw [w0.f (by decide)]; exact hm.1, by rw [w0.f (by decide)]; exact hm.2.1, by rw [w0.f (by decide)]; exact hm.2.2.1, hm.2.2.2⟩
      have w34 : fr [] [(72, 34)] μ (hp_wf (hp_wf (hp_wf μ 72 34 (nxt sd)) 72 34 (nxt (nxt sd))) 72 34 (nxt (nxt (nxt sd)))) := ((fr.wf (by decide)).tr (fr.wf (by decide))).tr (fr.wf (by decide))
      obtain ⟨υ, v1, v2⟩ := m_price2 (σ := hp_wf (hp_wf (hp_wf μ 72 34 (nxt sd)) 72 34 (nxt (nxt sd))) 72 34 (nxt (nxt (nxt sd)))) (cs := ds) (N := N) (f := f) hg.2.1 hN hg.2.2.2.2.1 hm1.1 hm1.2.2.2
      refine ⟨υ, w0.tr (v1.wk (fun _ h => by simp at h; simp [h, G76]) (fun _ h => by simp at h; rcases h with h | h <;> simp [h, G72])), hm1.kept v1 (by decide) (by decide) (by decide) (by decide), (hL.fr w34 (by decide) (by decide) (by decide)).fr v1 (by decide) (by decide) (by decide), by rw [v1.f (by decide)]; exact hp_wf_at, ?_⟩
      have l20 : ∀ x, (hp_wf μ 72 34 x).2.2.1 72 20 = nI ln := fun x => by rw [hp_wf_ne (by decide), hL.1, hln]
      have l20' : ∀ x y, (hp_wf (hp_wf μ 72 34 x) 72 34 y).2.2.1 72 20 = nI ln := fun x y => by rw [hp_wf_ne (by decide), l20]
      rw [g244_74]
      unfold g244_117 g244_139
      rw [if_neg (nI_ge (by omega) (by omega)), o72, q1, lf_ci_r, i72_20, l20, if_neg hln0, o72, q2, lf_ci_r, i72_20, l20', if_neg hln0, o72, q3, lf_ci_r, rem_nI (by omega) (by omega) (by omega), rem_nI (by omega) (by omega) (by omega), e2, hu1, hu2]
      have fin : ∀ z : Int32, (if lf_is (hp (hp_wf (hp_wf (hp_wf μ 72 34 (nxt sd)) 72 34 (nxt (nxt sd))) 72 34 (nxt (nxt (nxt sd)))), ds) 72 12 = true then (lf_ci (f223 N 72 (hp (hp_wf (hp_wf (hp_wf μ 72 34 (nxt sd)) 72 34 (nxt (nxt sd))) 72 34 (nxt (nxt (nxt sd)))), ds)) fun v7 w1 => if nI p2 ≤ nI p1 then (if nI p2 ≤ nI p1 then (g244_155 N (g244_74 N v) 72 (nI s) (nI S) (nI (H - t)) (nI k) (nI t) (nI p1) (nI p2) z v7 (nI p2) (nI p1) w1) else (g244_155 N (g244_74 N v) 72 (nI s) (nI S) (nI (H - t)) (nI k) (nI t) (nI p1) (nI p2) z v7 (nI p2) (nI p2) w1)) else (if nI p2 ≤ nI p1 then (g244_155 N (g244_74 N v) 72 (nI s) (nI S) (nI (H - t)) (nI k) (nI t) (nI p1) (nI p2) z v7 (nI p1) (nI p1) w1) else (g244_155 N (g244_74 N v) 72 (nI s) (nI S) (nI (H - t)) (nI k) (nI t) (nI p1) (nI p2) z v7 (nI p1) (nI p2) w1))) else none) = g244_155 N (g244_74 N v) 72 (nI s) (nI S) (nI (H - t)) (nI k) (nI t) (nI p1) (nI p2) z (nI (gPr f (al n))) (nI i) (nI j) (hp υ, ds) := by
        intro z
        rw [o72, v2, lf_ci_r]
        by_cases c : p2 ≤ p1
        · rw [if_pos (nI_le c (by omega)), if_pos (nI_le c (by omega))]
          rw [← hi, ← hj, if_neg (show ¬ p1 < p2 by omega)]
          by_cases c' : p2 < p1
          · rw [if_pos c']
          · rw [if_neg c', show p1 = p2 by omega]
        · rw [if_neg (nI_ge (by omega) (by omega)), if_neg (nI_ge (by omega) (by omega)), ← hi, ← hj, if_neg (by omega), if_pos (by omega)]
      rcases hz with ⟨hz1, hz2⟩ | ⟨hz1, hz2⟩
      · rw [if_pos (by rw [show (1 : Int32) = nI 1 from rfl, q_eq (by omega) (by omega)]; exact hz1), hz2]
        exact fin 0
      · rw [if_neg (fun q => q (by rw [hz1]; rfl)), hz2]
        exact fin 1
    have heat : ∀ (μ : hp_S) (ds : Nat × Nat) (k : Nat), g244_214 N (g244_74 N v) 72 (nI s) (nI S) (nI (H - t)) (nI k) (nI t) (hp μ, ds) = g244_74 N v 72 (nI s) (nI S) (nI (H - (t + 1))) (nI k) (nI (t + 1)) (hp μ, ds) := by
      intro μ ds k
      unfold g244_214 g244_227
      by_cases c : H ≤ t
      · rw [if_pos (by rw [show H - t = 0 by omega]; decide), nI_1, show H - (t + 1) = 0 by omega]
        rfl
      · rw [if_neg (show ¬ nI (H - t) ≤ 0 from nI_ge (a := 0) (by omega) (by omega)), nI_1, show nI (H - t) - 1 = nI (H - t - 1) from pk_sub (b := 1) (by omega), show H - t - 1 = H - (t + 1) by omega]
    obtain ⟨dY, dN⟩ := c_dare (σ := σ) (cs := cs) (N := N) (i := i) (j := j) (z := z) (M := gPr f (al n) + (H - t)) hs hg hN hv hsw hI hJ (by omega)
    by_cases good : i ≠ j ∧ okS f (lq f n 0 n) i j z = true ∧ gPr (fS f (lq f n 0 n) i j z) (al n) ≤ gPr f (al n) + (H - t)
    · obtain ⟨τ, t1, t2, t3, t4⟩ := dY good
      obtain ⟨⟨u1, u2, u3, u4, u5, u6⟩, ⟨l1, l2⟩, hok⟩ := two_lines (z := z) hg hI hJ
      obtain ⟨h4, hg'⟩ := hok good.2.1
      have hlen := fS_len hg hI hJ good.2.1
      obtain ⟨k', f', ω, r1, r2, r3, r4, r5, r6⟩ := ih (t + 1) (k + 1) u v ln (fS f (lq f n 0 n) i j z) (nxt (nxt (nxt sd))) τ hg' (by omega) (by omega) (by omega) (by omega) (hlen.trans hln) hl1 t3 t2
      refine ⟨k', f', ω, r1, t1.tr r2, r3, r4, ?_, fun μ ds hm hL hsd => ?_⟩
      · rw [preC]
        unfold g7_135 g7_156
        rw [o42, t4, lf_ci_r, if_neg (nI_nlt good.2.2 (by omega)), nI_1, nI_1]
        exact r5
      · obtain ⟨μ1, a1, a2, a3, a4, a5⟩ := preM μ ds hm hL hsd
        obtain ⟨μ2, b1', b2', b3', b4'⟩ := m_po (σ := μ1) (cs := ds) (N := N) (i := i) (j := j) (z := z) hg hN a2 a3 hI hJ
        obtain ⟨μ3, c1', c2', c3'⟩ := (m_chg (σ := μ2) (cs := ds) (N := N) (z := z) hg.2.1 hg.2.2.2.2.1 b2'.2.2.2 b3' h96 (lp_get hI) (lp_get hJ) u5 u6 l1 l2 u1 u2 u3 u4).1 good.2.1
        have hm3 : MV μ3 n d (fS f (lq f n 0 n) i j z) := ⟨by rw [c1'.f List.not_mem_nil]; exact b2'.1, by rw [c1'.f List.not_mem_nil]; exact b2'.2.1, by rw [c1'.f List.not_mem_nil]; exact b2'.2.2.1, c2'⟩
        obtain ⟨μ4, d1', d2', d3'⟩ := m_lists (N := N) (cs := ds) (f := fS f (lq f n 0 n) i j z) hg.2.1 hN hm3.1 (fun k hk => hm3.2.2.2 k (by have := hg.2.1; omega)) hg'.l96
        have hm4 := hm3.kept d1' (by decide) (by decide) (by decide) (by decide)
        have w12 : fr G76 G72 μ1 μ2 := b1'.wk (fun _ h => by simp at h; rcases h with h | h <;> simp [h, G76]) (fun _ h => by simp at h; rcases h with h | h <;> simp [h, G72])
        have w23 : fr G76 G72 μ2 μ3 := c1'.wk (fun _ h => by simp at h; simp [h, G76]) (fun _ h => absurd h List.not_mem_nil)
        have w34 : fr G76 G72 μ3 μ4 := d1'.wk (fun _ h => by simp at h; rcases h with h | h <;> simp [h, G76]) (fun _ h => by simp at h; simp [h, G72])
        have hs4 : μ4.2.2.1 72 34 = nxt (nxt (nxt sd)) := by rw [d1'.f (by decide), c1'.f List.not_mem_nil, b1'.f (by decide)]; exact a4
        obtain ⟨υ, z1, z2, z3⟩ := r6 μ4 ds hm4 d2' hs4
        refine ⟨υ, (((a1.tr w12).tr w23).tr w34).tr z1, z2, ?_⟩
        rw [a5]
        unfold g244_155 g244_178
        rw [if_pos (by rw [q_eq (by omega) (by omega)]; exact fun q => good.1 (hij.mpr q)), o72, b4', lf_ci_r, if_pos good.2.1, if_neg (by rw [q_ne1 (by omega)]; exact id), nI_add, if_neg (nI_nlt good.2.2 (by omega)), o72, c3', lf_ci_r, o72, d3', lf_cv_r, nI_1, heat]
        exact z3
    · obtain ⟨τ, r, t0, t0', t1, t2, t3, t4⟩ := dN good
      obtain ⟨k', f', ω, r1, r2, r3, r4, r5, r6⟩ := ih (t + 1) k u v ln f (nxt (nxt (nxt sd))) τ hg (by omega) (by omega) (by omega) (by omega) hln hl1 t3 t2
      refine ⟨k', f', ω, r1, t1.tr r2, r3, r4, ?_, fun μ ds hm hL hsd => ?_⟩
      · rw [preC]
        unfold g7_135 g7_156
        rw [o42, t4, lf_ci_r, if_pos (nI_lt t0 (by omega)), nI_1]
        exact r5
      · obtain ⟨μ1, a1, a2, a3, a4, a5⟩ := preM μ ds hm hL hsd
        rw [a5]
        unfold g244_155
        by_cases hne : i = j
        · obtain ⟨υ, z1, z2, z3⟩ := r6 μ1 ds a2 a3 a4
          refine ⟨υ, a1.tr z1, z2, ?_⟩
          unfold g244_178
          rw [if_neg (fun q => q (by rw [hij.mp hne])), if_pos rfl, heat]
          exact z3
        · obtain ⟨μ2, b1', b2', b3', b4'⟩ := m_po (σ := μ1) (cs := ds) (N := N) (i := i) (j := j) (z := z) hg hN a2 a3 hI hJ
          have w12 : fr G76 G72 μ1 μ2 := b1'.wk (fun _ h => by simp at h; rcases h with h | h <;> simp [h, G76]) (fun _ h => by simp at h; rcases h with h | h <;> simp [h, G72])
          obtain ⟨υ, z1, z2, z3⟩ := r6 μ2 ds b2' b3' (by rw [b1'.f (by decide)]; exact a4)
          refine ⟨υ, (a1.tr w12).tr z1, z2, ?_⟩
          unfold g244_178
          rw [if_pos (by rw [q_eq (by omega) (by omega)]; exact fun q => hne (hij.mpr q)), o72, b4', lf_ci_r]
          have hmx := gPr_max (f := fS f (lq f n 0 n) i j z) (A := al n)
          by_cases hok : okS f (lq f n 0 n) i j z = true
          · rw [if_pos hok, if_neg (by rw [q_ne1 (by omega)]; exact id), nI_add, if_pos (nI_lt (by
              apply Nat.lt_of_not_le
              intro q
              exact good ⟨hne, hok, q⟩) (by omega)), heat]
            exact z3
          · rw [if_neg hok, if_pos rfl, heat]
            exact z3
theorem case_cool {J : iv_J} {rd : iv_rd} {N : Nat} (hN : iv_N N) : iv_caseN J rd N g327_1569 := by
  intro sc i σ cs hs hi hI
  have key : ∃ (τ : hp_S) (ds : Nat × Nat), iv J τ ∧ ds.1 ≤ cs.1 + 1 ∧ ds.2 ≤ cs.2 + 6 ∧ ∀ k : lf_W → lf_R, tl_I (tc_I [("java/util/NoSuchElementException", 1), ("java/lang/IllegalArgumentException", 2)] (f149 N 0 (sc.2 (i + 1)) (sc.2 (i + 2)) (sc.2 (i + 3)) (sc.2 (i + 4)) (hp σ, cs))) (fun w => f244 N 72 (sc.2 (i + 1)) (sc.2 (i + 2)) (sc.2 (i + 3)) (sc.2 (i + 4)) w) k = k (hp τ, ds) := by
    generalize sc.2 (i + 1) = x
    generalize sc.2 (i + 2) = sd
    generalize sc.2 (i + 3) = y
    generalize sc.2 (i + 4) = y2
    refine putI (x := x) hI hN rfl (fun h => ?_) (fun σ' ds w h => ?_) (fun s n d f hs8 hx hg hv => ?_)
    · unfold f149
      rw [o0, c_held_no h]
      rfl
    · unfold f244
      rw [o72, h, lf_ci_r, if_pos rfl]
    · subst hx
      have hn1 := hg.1
      have hn := hg.2.1
      have h96 := hg.l96
      have hne : ¬ σ.2.2.1 (2 + 2 * s) 1 = 0 := by rw [hv.1]; exact nI_ne0 (by omega) (by omega)
      by_cases good : ¬ y < 0 ∧ ¬ 500 < y ∧ ¬ y2 < 0 ∧ ¬ 10000 < y2
      · obtain ⟨g1, g2, g3, g4⟩ := good
        have g5 : y2 ≤ 10000 := fa_of_nlt g4
        obtain ⟨S, hS, rfl⟩ := nn_of g1
        obtain ⟨H, hH, rfl⟩ := nn_of g3
        have hS5 : S ≤ 500 := by
          have : ¬ nI 500 < nI S := g2
          rw [q_lt (by omega) hS] at this
          omega
        have hH5 : H ≤ 10000 := by
          have : ¬ nI 10000 < nI H := g4
          rw [q_lt (by omega) hH] at this
          omega
        have hsw := hI.2.2.2.2.2.2.2
        have preC : f149 N 0 (nI s) sd (nI S) (nI H) (hp σ, cs) = lf_ci (f7 N 42 (2 + 2 * s) sd (nI S) (nI H) (hp σ, cs)) fun v20 w14 => some (.inl (some (.int v20)), w14) := by
          unfold f149
          rw [o0, c_held hs8 hne, lf_cr_r, if_neg g1, if_neg g2, if_neg g3, if_pos g5, r0_7, o42]
        have preM : ∀ (σ' μ τ : hp_S) (ds : Nat × Nat), MV μ n d f → f216 N 72 (hp μ, ds) = some (.inl none, (hp τ, ds)) → f178 N 72 (nI s) (hp σ', ds) = some (.inl (some (.int 1)), (hp μ, ds)) → f244 N 72 (nI s) sd (nI S) (nI H) (hp σ', ds) = (lf_fi (hp τ, ds) 72 12 20).bind fun v15 => if ¬ v15 = 0 then ((lf_wf (hp τ, ds) 72 12 34 0 (.int sd)).bind fun w18 => g244_74 N N 72 (nI s) (nI S) (nI H) 0 0 w18) else (some (.inl (some (.int 0)), (hp τ, ds))) := by
          intro σ' μ τ ds hm q3 hl
          unfold f244 g244_37
          rw [o72, hl, lf_ci_r, if_neg (by decide), m_within_in g1 g2, lf_ci_r, if_neg (by decide), m_within_in g3 g4, lf_ci_r, if_neg (by decide), o72, m_rt hm.2.2.1 (by decide), lf_ci_r, if_pos (by decide), o72, q3, lf_cv_r]
        by_cases hl0 : (lq f n 0 n).length = 0
        · refine Or.inl (Or.inl ⟨0, σ, iv_kept.rf σ, ?_, fun σ' μ ds hm hl => ?_⟩)
          · rw [preC]
            unfold f7
            rw [sN_o hs8, c_lines hs8 hg hv hN, lf_ci_r, hl0, if_neg (by decide), lf_ci_r]
          · obtain ⟨τ, q1, q2, q3⟩ := m_lists (N := N) (cs := ds) (f := f) hn hN hm.1 (fun k hk => hm.2.2.2 k (by omega)) h96
            have hm2 := hm.kept q1 (by decide) (by decide) (by decide) (by decide)
            refine ⟨τ, q1.kept rfl rfl, q1.l (by decide), hm2.2.2.1, ?_⟩
            show f244 N 72 (nI s) sd (nI S) (nI H) (hp σ', ds) = _
            rw [preM σ' μ τ ds hm q3 hl, i72_20, q2.1, hl0, if_neg (fun q => q rfl)]
        · have hmax := gPr_max (f := f) (A := al n)
          obtain ⟨τ, p, t1, t2, t3, t4, t5, t6⟩ := c_priceS (σ := σ) (cs := cs) (N := N) (L := 2000000) hs8 hn1 hn hN (by omega) hv.2.2 hsw.1
          have hpp := (t3 (by omega)).1
          have w1 : fr ((3 + 2 * s) :: [30, 31, 43]) F29 σ τ := t1.wk (fun a h => by simp at h; rcases h with h | h <;> simp [h]) (fun q h => by
            unfold F29
            simp only [List.mem_cons, List.not_mem_nil, or_false] at h ⊢
            rcases h with h | h | h | h <;> simp [h])
          have hv2 := hv.fr t1 (by simp; omega) (by simp <;> omega) (by simp <;> omega)
          obtain ⟨k', f', ω, r1, r2, r3, r4, r5, r6⟩ := co_steps (cs := cs) (N := N) (s := s) (n := n) (d := d) (S := S) (H := H) hs8 hN hS5 hH5 S 0 0 N N (lq f n 0 n).length f sd τ hg (by omega) (by omega) (by unfold iv_N at hN; omega) (by unfold iv_N at hN; omega) rfl (by omega) hv2 t2
          have w2 := w1.tr r2
          refine Or.inr ⟨nI k', ω, n, d, f', r1, CP.of (A := [30, 31, 43]) (F := F29) (w2.wk (fun _ h => h) (fun q h => List.mem_cons_of_mem _ (List.mem_cons_of_mem _ h))) rfl rfl (fun h => h.of w2 r3 (by decide) (by decide) (by decide) (by decide)), r4, ?_, fun σ' μ ds hm hl => ?_⟩
          · rw [preC]
            unfold f7
            rw [sN_o hs8, c_lines hs8 hg hv hN, lf_ci_r, if_pos (show (1 : Int32) ≤ nI (lq f n 0 n).length from nI_le (a := 1) (by omega) (by omega)), r42_0, sN_r hs8, sN_o hs8, c_all hs8 hv.1, lf_ci_r, o29, show (2000000 : Int32) = nI 2000000 from rfl, t6, lf_ci_r, hpp, show (0 : Int32) = nI 0 from rfl, r5, lf_ci_r]
          · obtain ⟨τ', q1, q2, q3⟩ := m_lists (N := N) (cs := ds) (f := f) hn hN hm.1 (fun k hk => hm.2.2.2 k (by omega)) h96
            have hm2 := hm.kept q1 (by decide) (by decide) (by decide) (by decide)
            have hm3 : MV (hp_wf τ' 72 34 sd) n d f := ⟨by rw [hp_wf_ne (by decide)]; exact hm2.1, by rw [hp_wf_ne (by decide)]; exact hm2.2.1, by rw [hp_wf_ne (by decide)]; exact hm2.2.2.1, hm2.2.2.2⟩
            obtain ⟨υ, z1, z2, z3⟩ := r6 (hp_wf τ' 72 34 sd) ds hm3 ⟨by rw [hp_wf_ne (by decide)]; exact q2.1, q2.2⟩ hp_wf_at
            have wz : fr G76 G72 μ υ := ((q1.wk (fun _ h => by simp at h; rcases h with h | h <;> simp [h, G76]) (fun _ h => by simp at h; simp [h, G72])).tr (fr.wf (by decide))).tr z1
            refine ⟨υ, wz.kept rfl rfl, wz.l (by decide), z2, ?_⟩
            show f244 N 72 (nI s) sd (nI S) (nI H) (hp σ', ds) = _
            rw [preM σ' μ τ' ds hm q3 hl, i72_20, q2.1, if_pos (nI_ne0 (by omega) (by omega)), w72_34]
            exact z3
      · refine Or.inl (Or.inr ⟨"java/lang/IllegalArgumentException", 2, σ, iv_kept.rf σ, by decide, rfl, ?_, fun σ' μ ds hm hl => ⟨hp_wf μ 72 0 2, 0, iv_kept.wm (by omega), hp_wf_at, ?_⟩⟩)
        · unfold f149
          rw [o0, c_held hs8 hne, lf_cr_r]
          by_cases c1 : y < 0
          · rw [if_pos c1]
          rw [if_neg c1]
          by_cases c2 : 500 < y
          · rw [if_pos c2]
          rw [if_neg c2]
          by_cases c3 : y2 < 0
          · rw [if_pos c3]
          rw [if_neg c3]
          by_cases c4 : 10000 < y2
          · rw [if_neg (fun q => by
              rw [fa_le] at q
              rw [fa_lt] at c4
              omega)]
          · exact absurd ⟨c1, c2, c3, c4⟩ good
        · have ef : g244_36 N 72 (nI s) sd y y2 72 (hp μ, ds) = some (.inl (some (.int 0)), (hp (hp_wf μ 72 0 2), ds)) := by
            unfold g244_36 g244_37
            rw [o72, m_rf hm.2.2.1 (by decide), lf_ci_r, if_neg (fun q => q rfl)]
          show f244 N 72 (nI s) sd y y2 (hp σ', ds) = _
          unfold f244
          rw [o72, hl, lf_ci_r, if_neg (by decide)]
          by_cases c1 : y < 0
          · rw [m_within_lo c1, lf_ci_r, if_pos rfl]; exact ef
          by_cases c2 : 500 < y
          · rw [m_within_hi c2, lf_ci_r, if_pos rfl]; exact ef
          rw [m_within_in c1 c2, lf_ci_r, if_neg (by decide)]
          by_cases c3 : y2 < 0
          · rw [m_within_lo c3, lf_ci_r, if_pos rfl]; exact ef
          by_cases c4 : 10000 < y2
          · rw [m_within_hi c4, lf_ci_r, if_pos rfl]; exact ef
          · exact absurd ⟨c1, c2, c3, c4⟩ good
  obtain ⟨τ, ds, q1, q2, q3, q4⟩ := key
  refine ⟨τ, ds, q1, q2, q3, fun k23 => ?_⟩
  rw [← q4 (k23 (nI i + 6))]
  unfold g327_1569 h308 f308
  simp only [iv_s1 hs hi, iv_s2 hs hi, iv_s3 hs hi, iv_s4 hs hi, Option.bind_some, if_pos hp_x]
  rfl
