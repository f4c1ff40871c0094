/-! read: the class reads a text, clauses and head -/
/-- a clause, z before it: what is wrong, where -/
def rdE (B : Nat → Nat) (n p kn e : Nat) (f : Nat → Int32) (z : Nat) : Nat × Nat := if 4 < tkX B n p then (1, tkA B n p) else if z = 20 then (2, tkA B n p) else if ¬ (rdQ B n p kn).1 = 0 then ((rdQ B n p kn).1, (rdQ B n p kn).2.1) else ((rdV B n p kn e f).1, (rdQ B n p kn).2.1)
section RDY
variable {cs : Nat × Nat} {N n p s kn e c sh z m : Nat} {B g : Nat → Nat} {f : Nat → Int32} {σ : hp_S}
theorem rdC_a (h : tkK B n p = 0) : rdC B n kn e (m + 1) p f = (0, 0, f) := by
  rw [rdC, if_pos h]
theorem rdC_b (hz : z + m = 20) (h : ¬ tkK B n p = 0) (h1 : ¬ (rdE B n p kn e f z).1 = 0) : (rdC B n kn e (m + 1) p f).1 = (rdE B n p kn e f z).1 ∧ (rdC B n kn e (m + 1) p f).2.1 = (rdE B n p kn e f z).2 := by
  unfold rdE at h1 ⊢
  rw [rdC, if_neg h]
  by_cases c1 : 4 < tkX B n p
  · rw [if_pos c1, if_pos c1]
    exact ⟨rfl, rfl⟩
  · rw [if_neg c1] at h1 ⊢
    rw [if_neg c1]
    by_cases c2 : z = 20
    · rw [if_pos c2, if_pos (show m = 0 by omega)]
      exact ⟨rfl, rfl⟩
    · rw [if_neg c2] at h1 ⊢
      rw [if_neg (show ¬ m = 0 by omega)]
      by_cases c3 : ¬ (rdQ B n p kn).1 = 0
      · rw [if_pos c3, if_pos c3]
        exact ⟨rfl, rfl⟩
      · rw [if_neg c3] at h1 ⊢
        rw [if_neg c3, if_pos h1]
        exact ⟨rfl, rfl⟩
theorem rdC_c (hz : z + m = 20) (h : ¬ tkK B n p = 0) (h1 : (rdE B n p kn e f z).1 = 0) : rdC B n kn e (m + 1) p f = rdC B n kn e m (rdQ B n p kn).2.2.2.2 (rdV B n p kn e f).2 ∧ tkX B n p ≤ 4 ∧ ¬ z = 20 ∧ (rdQ B n p kn).1 = 0 ∧ (rdV B n p kn e f).1 = 0 := by
  unfold rdE at h1
  by_cases c1 : 4 < tkX B n p
  · rw [if_pos c1] at h1
    exact nz1 h1
  rw [if_neg c1] at h1
  by_cases c2 : z = 20
  · rw [if_pos c2] at h1
    exact nz2 h1
  rw [if_neg c2] at h1
  by_cases c3 : ¬ (rdQ B n p kn).1 = 0
  · rw [if_pos c3] at h1
    exact absurd h1 c3
  rw [if_neg c3] at h1
  have h1 : (rdV B n p kn e f).1 = 0 := h1
  refine ⟨?_, by omega, c2, Decidable.not_not.mp c3, h1⟩
  rw [rdC, if_neg h, if_neg c1, if_neg (show ¬ m = 0 by omega), if_neg c3, if_neg (fun q => q h1)]
theorem rdE_le (hn : kn ≤ 24) (hq : p ≤ n) (h : rdG f kn e) : (rdE B n p kn e f z).1 ≤ 6 ∧ (rdE B n p kn e f z).2 ≤ n := by
  have ha := tkA_le (B := B) hq
  obtain ⟨k1, k2, k3, k4⟩ := rdQ_ok (B := B) (kn := kn) hq
  unfold rdE
  by_cases c1 : 4 < tkX B n p
  · rw [if_pos c1]
    exact ⟨by show 1 ≤ 6; omega, ha.2⟩
  rw [if_neg c1]
  by_cases c2 : z = 20
  · rw [if_pos c2]
    exact ⟨by show 2 ≤ 6; omega, ha.2⟩
  rw [if_neg c2]
  by_cases c3 : ¬ (rdQ B n p kn).1 = 0
  · rw [if_pos c3]
    exact ⟨k1, k2⟩
  rw [if_neg c3]
  exact ⟨(rdV_ok hn hq (Decidable.not_not.mp c3) h).1, k2⟩
/-- the class's shape -/
theorem c_shape (hN : iv_N N) (hB : TB B n) (hT : TC σ B n) (hC : CT σ B n p) (hq : p ≤ n) : f80 N 20 (hp σ, cs) = some (.inl (some (.int (if tkX B n p ≤ 4 then nI (tkX B n p) else -1))), (hp σ, cs)) := by
  unfold f80
  rw [o20, c_wd0 hN hB hT hC hq]
  by_cases c0 : tkI wd0 B n p
  · rw [if_pos c0, lf_ci_r, if_neg (by decide), show tkX B n p = 0 by unfold tkX; rw [if_pos c0], if_pos (show 0 ≤ 4 by omega)]
    rfl
  rw [if_neg c0, lf_ci_r, if_pos rfl, o20, c_wd1 hN hB hT hC hq]
  by_cases c1 : tkI wd1 B n p
  · rw [if_pos c1, lf_ci_r, if_neg (by decide), show tkX B n p = 1 by unfold tkX; rw [if_neg c0, if_pos c1], if_pos (show 1 ≤ 4 by omega)]
    rfl
  rw [if_neg c1, lf_ci_r, if_pos rfl, o20, c_wd2 hN hB hT hC hq]
  by_cases c2 : tkI wd2 B n p
  · rw [if_pos c2, lf_ci_r, if_neg (by decide), show tkX B n p = 2 by unfold tkX; rw [if_neg c0, if_neg c1, if_pos c2], if_pos (show 2 ≤ 4 by omega)]
    rfl
  rw [if_neg c2, lf_ci_r, if_pos rfl, o20, c_wd3 hN hB hT hC hq]
  by_cases c3 : tkI wd3 B n p
  · rw [if_pos c3, lf_ci_r, if_neg (by decide), show tkX B n p = 3 by unfold tkX; rw [if_neg c0, if_neg c1, if_neg c2, if_pos c3], if_pos (show 3 ≤ 4 by omega)]
    rfl
  rw [if_neg c3, lf_ci_r, if_pos rfl, o20, c_wd4 hN hB hT hC hq]
  by_cases c4 : tkI wd4 B n p
  · rw [if_pos c4, lf_ci_r, if_neg (by decide), show tkX B n p = 4 by unfold tkX; rw [if_neg c0, if_neg c1, if_neg c2, if_neg c3, if_pos c4], if_pos (show 4 ≤ 4 by omega)]
    rfl
  have x5 : ¬ tkX B n p ≤ 4 := by
    unfold tkX
    rw [if_neg c0, if_neg c1, if_neg c2, if_neg c3, if_neg c4]
    split
    · omega
    · split <;> omega
  rw [if_neg c4, lf_ci_r, if_pos rfl, if_neg x5]
theorem c_kn35 (hN : iv_N N) (hB : TB B n) (hkn : kn ≤ 24) (he : e ≤ 8) (hs : sh ≤ 4) (hG : rdG f kn e) : ∀ (m c : Nat) (g : Nat → Nat) (p u : Nat) (σ : hp_S), m + c = 13 → c ≤ 12 → m < u → p ≤ n → rdLs c g kn → (sh = 4 → c ≤ 2) → TC σ B n → σ.2.2.1 20 10 = nI p → CNr σ kn e f → CSn σ c g → ∃ τ, fr [22, 24] [(20, 3), (20, 4), (20, 8), (20, 9), (20, 10), (20, 11)] σ τ ∧ τ.2.2.1 20 9 = nI (rdP B n sh kn m c g p).2.1 ∧ ((rdP B n sh kn m c g p).1 = 0 → τ.2.2.1 20 10 = nI (rdP B n sh kn m c g p).2.2.2.2 ∧ CNr τ kn e (rdD e sh (rdP B n sh kn m c g p).2.2.2.1 (rdP B n sh kn m c g p).2.2.1 f).2) ∧ g79_35 N u 20 (nI sh) 0 (nI c) (hp σ, cs) = some (.inl (some (.int (nI (if (rdP B n sh kn m c g p).1 = 0 then (rdD e sh (rdP B n sh kn m c g p).2.2.2.1 (rdP B n sh kn m c g p).2.2.1 f).1 else (rdP B n sh kn m c g p).1)))), (hp τ, cs)) := by
  intro m
  induction m with
  | zero =>
    intro c g p u σ h1 h2
    omega
  | succ m ih =>
    intro c g p u σ h1 h2 hu hq hl h4 hT h10 hC hS
    have hn := hB.1
    obtain ⟨u, rfl⟩ : ∃ q, u = q + 1 := ⟨u - 1, by omega⟩
    obtain ⟨σ1, a1, a2, a3⟩ := c_adv (N := N) (cs := cs) hN hB hT hq h10
    have T1 := hT.fr a1 (by decide) (by decide)
    have C1 := hC.fr a1 (by decide) (by decide) (by decide)
    have S1 := hS.fr a1 (by decide) (by decide) (by decide)
    have W1 : fr [22, 24] [(20, 3), (20, 4), (20, 8), (20, 9), (20, 10), (20, 11)] σ σ1 := a1.wk (by decide) (by decide)
    have k4 := tkK_le (B := B) (n := n) (p := p)
    have hE := tkE_le (B := B) hq
    have pre : g79_35 N (u + 1) 20 (nI sh) 0 (nI c) (hp σ, cs) = if ¬ nI (tkK B n p) = 3 then (g79_72 N (g79_35 N u) 20 (nI sh) (nI c) (hp σ1, cs)) else ((lf_fi (hp σ1, cs) 20 7 3).bind fun v12 => if v12 < 2 then (g79_72 N (g79_35 N u) 20 (nI sh) (nI c) (hp σ1, cs)) else (if lf_is (hp σ1, cs) 20 7 = true then (lf_ci (f82 N 20 (nI sh) (hp σ1, cs)) fun v21 w15 => some (.inl (some (.int v21)), w15)) else none)) := by
      rw [g79_35, if_neg (show ¬ ¬ (0 : Int32) = 0 from fun z => z rfl), if_neg (show ¬ (12 : Int32) < nI c from nI_nlt (a := 12) (by omega) (by omega)), o20, a3, lf_cv_r, i20_8, a2.1]
    by_cases c1 : tkK B n p = 3 ∧ 2 ≤ c
    · have er : rdP B n sh kn (m + 1) c g p = (0, tkA B n p, c, g, tkE B n p) := by rw [rdP, if_pos c1]
      rw [er]
      obtain ⟨τ, q1, q2, q3⟩ := c_apply (N := N) (cs := cs) (sh := sh) hN hkn he hl c1.2 h2 hs hG C1 S1.1 S1.2.1
      refine ⟨τ, W1.tr (q1.wk (by decide) (by decide)), by rw [q1.f List.not_mem_nil]; exact a2.2.1, fun _ => ⟨by rw [q1.f List.not_mem_nil]; exact a2.2.2.1, by rw [q1.f List.not_mem_nil]; exact C1.1, by rw [q1.f List.not_mem_nil]; exact C1.2.1, q2⟩, ?_⟩
      show _ = (some (.inl (some (.int (nI (rdD e sh g c f).1))), (hp τ, cs)) : lf_R)
      rw [pre, if_neg (show ¬ ¬ nI (tkK B n p) = 3 from fun z => z (by rw [c1.1]; rfl)), i20_3, S1.1, if_neg (show ¬ nI c < 2 from nI_nlt (b := 2) c1.2 (by omega)), o20, q3, lf_ci_r]
    · have pre2 : g79_35 N (u + 1) 20 (nI sh) 0 (nI c) (hp σ, cs) = g79_72 N (g79_35 N u) 20 (nI sh) (nI c) (hp σ1, cs) := by
        rw [pre]
        by_cases d : tkK B n p = 3
        · rw [if_neg (show ¬ ¬ nI (tkK B n p) = 3 from fun z => z (by rw [d]; rfl)), i20_3, S1.1, if_pos (show nI c < 2 from nI_lt (b := 2) (by omega) (by omega))]
        · rw [if_pos (show ¬ nI (tkK B n p) = 3 from fun z => d ((nI_eq (b := 3) (by omega) (by omega)).mp z))]
      obtain ⟨σ2, b1, b2, b3⟩ := c_name (N := N) (cs := cs) (sh := sh) hB a2 hq hkn hs C1.1 S1 h2
      have W2 : fr [22, 24] [(20, 3), (20, 4), (20, 8), (20, 9), (20, 10), (20, 11)] σ σ2 := W1.tr (b1.wk (by decide) (by decide))
      by_cases c2 : rdK B n p sh kn c g = 0
      · have er : rdP B n sh kn (m + 1) c g p = rdP B n sh kn m (c + 1) (rdU g c (rdN B n p)) (tkE B n p) := by rw [rdP, if_neg c1, if_pos c2]
        rw [er]
        obtain ⟨k1, k2, k3, k5, k6, k7⟩ := rdK_0 c2
        obtain ⟨τ, q1, q2, q3, q4⟩ := ih (c + 1) (rdU g c (rdN B n p)) (tkE B n p) u σ2 (by omega) (by omega) (by omega) hE.2 (rdU_L hl k6 k7) (fun z => by have := h4 z; omega) (T1.fr b1 (by decide) (by decide)) (by rw [b1.f (by decide)]; exact a2.2.2.1) (C1.fr b1 (by decide) (by decide) (by decide)) (b2 c2)
        refine ⟨τ, W2.tr q1, q2, q3, ?_⟩
        rw [pre2]
        unfold g79_72
        rw [o20, b3, lf_ci_r, nI_1, c2]
        exact q4
      · have er : rdP B n sh kn (m + 1) c g p = (rdK B n p sh kn c g, tkA B n p, c, g, tkE B n p) := by rw [rdP, if_neg c1, if_neg c2]
        rw [er]
        refine ⟨σ2, W2, by rw [b1.f (by decide)]; exact a2.2.1, fun z => absurd z c2, ?_⟩
        show _ = (some (.inl (some (.int (nI (if rdK B n p sh kn c g = 0 then (rdD e sh g c f).1 else rdK B n p sh kn c g)))), (hp σ2, cs)) : lf_R)
        obtain ⟨u, rfl⟩ : ∃ q, u = q + 1 := ⟨u - 1, by omega⟩
        have kl := rdK_le (B := B) (n := n) (p := p) (sh := sh) (kn := kn) (c := c) (g := g)
        rw [pre2, if_neg c2]
        unfold g79_72
        rw [o20, b3, lf_ci_r, g79_35, if_pos (nI_z (by omega) c2)]
/-- the class's parseClause -/
theorem c_clause (hN : iv_N N) (hB : TB B n) (hkn : kn ≤ 24) (he : e ≤ 8) (hG : rdG f kn e) (hq : p ≤ n) (hz : z ≤ 20) (hT : TC σ B n) (hC : CT σ B n p) (hc : CNr σ kn e f) : ∃ τ, fr [22, 24] [(20, 3), (20, 4), (20, 8), (20, 9), (20, 10), (20, 11)] σ τ ∧ τ.2.2.1 20 9 = nI (rdE B n p kn e f z).2 ∧ ((rdE B n p kn e f z).1 = 0 → τ.2.2.1 20 10 = nI (rdQ B n p kn).2.2.2.2 ∧ CNr τ kn e (rdV B n p kn e f).2) ∧ f79 N 20 (nI z) (hp σ, cs) = some (.inl (some (.int (nI (rdE B n p kn e f z).1))), (hp τ, cs)) := by
  have hE := tkE_le (B := B) hq
  unfold rdE
  unfold f79
  rw [o20, c_shape hN hB hT hC hq, lf_ci_r]
  by_cases c1 : 4 < tkX B n p
  · rw [if_pos c1, if_neg (show ¬ tkX B n p ≤ 4 by omega)]
    refine ⟨σ, fr.rf, hC.2.1, fun z => nz1 z, ?_⟩
    rw [if_neg (fun z => z rfl)]
    rfl
  · rw [if_neg c1, if_pos (show tkX B n p ≤ 4 by omega), if_pos (show ¬ nI (tkX B n p) = -1 by rw [q_ne1 (by omega)]; exact id)]
    by_cases c2 : z = 20
    · rw [if_pos c2]
      refine ⟨σ, fr.rf, hC.2.1, fun z => nz2 z, ?_⟩
      rw [if_neg (show ¬ ¬ nI z = 20 from fun q => q (by rw [c2]; rfl))]
      rfl
    · rw [if_neg c2, if_pos (show ¬ nI z = 20 from fun q => c2 ((nI_eq (b := 20) (by omega) (by omega)).mp q)), w20_3, w20_4]
      have fw : fr [] [(20, 3), (20, 4)] σ (hp_wf (hp_wf σ 20 3 0) 20 4 0) := (fr.wf (by decide)).tr (fr.wf (by decide))
      have S0 : CSn (hp_wf (hp_wf σ 20 3 0) 20 4 0) 0 (fun _ => 0) := by
        refine ⟨by rw [hp_wf_ne (by decide), hp_wf_at]; rfl, fun k hk => absurd hk (Nat.not_lt_zero k), fun v hv => ?_⟩
        rw [hp_wf_at, b_0]
        constructor
        · intro z
          exact absurd z (by decide)
        · rintro ⟨k, k1, k2⟩
          exact absurd k1 (Nat.not_lt_zero k)
      have hNN : 13 < N := by
        unfold iv_N at hN
        omega
      obtain ⟨τ, q1, q2, q3, q4⟩ := c_kn35 (N := N) (cs := cs) (sh := tkX B n p) hN hB hkn he (by omega) hG 13 0 (fun _ => 0) (tkE B n p) N (hp_wf (hp_wf σ 20 3 0) 20 4 0) rfl (by omega) hNN hE.2 rdLs_0 (fun _ => Nat.zero_le _) (hT.fr fw (by decide) (by decide)) (by rw [fw.f (by decide)]; exact hC.2.2.1) (hc.fr fw (by decide) (by decide) (by decide)) S0
      have e1 : rdP B n (tkX B n p) kn 13 0 (fun _ => 0) (tkE B n p) = rdQ B n p kn := rfl
      rw [e1] at q2 q3 q4
      have e2 : rdD e (tkX B n p) (rdQ B n p kn).2.2.2.1 (rdQ B n p kn).2.2.1 f = rdV B n p kn e f := rfl
      rw [e2] at q3 q4
      have W : fr [22, 24] [(20, 3), (20, 4), (20, 8), (20, 9), (20, 10), (20, 11)] σ τ := (fw.wk (by decide) (by decide)).tr q1
      by_cases c3 : (rdQ B n p kn).1 = 0
      · rw [if_neg (show ¬ ¬ (rdQ B n p kn).1 = 0 from fun q => q c3)]
        rw [if_pos c3] at q4
        exact ⟨τ, W, q2, fun _ => q3 c3, q4⟩
      · rw [if_pos (show ¬ (rdQ B n p kn).1 = 0 from c3)]
        rw [if_neg c3] at q4
        exact ⟨τ, W, q2, fun z => absurd z c3, q4⟩
theorem c_l33 (hN : iv_N N) (hB : TB B n) (hkn : kn ≤ 24) (he : e ≤ 8) : ∀ (m z p u : Nat) (f : Nat → Int32) (σ : hp_S), z + m = 20 → m + 1 < u → p ≤ n → rdG f kn e → TC σ B n → σ.2.2.1 20 10 = nI p → CNr σ kn e f → σ.2.2.1 20 6 = -1 → ∃ τ, fr [22, 24] [(20, 3), (20, 4), (20, 6), (20, 8), (20, 9), (20, 10), (20, 11)] σ τ ∧ τ.2.2.1 20 6 = (if (rdC B n kn e (m + 1) p f).1 = 0 then -1 else nI (rdC B n kn e (m + 1) p f).2.1) ∧ ((rdC B n kn e (m + 1) p f).1 = 0 → CNr τ kn e (rdC B n kn e (m + 1) p f).2.2) ∧ g75_33 N u 20 0 (nI z) (hp σ, cs) = some (.inl (some (.int (nI (rdC B n kn e (m + 1) p f).1))), (hp τ, cs)) := by
  intro m
  induction m using Nat.strongRecOn with
  | ind m ih =>
    intro z p u f σ hz hu hq hG hT h10 hC h6
    have hn := hB.1
    obtain ⟨u, rfl⟩ : ∃ q, u = q + 1 := ⟨u - 1, by omega⟩
    obtain ⟨σ1, a1, a2, a3⟩ := c_adv (N := N) (cs := cs) hN hB hT hq h10
    have T1 := hT.fr a1 (by decide) (by decide)
    have C1 := hC.fr a1 (by decide) (by decide) (by decide)
    have W1 : fr [22, 24] [(20, 3), (20, 4), (20, 6), (20, 8), (20, 9), (20, 10), (20, 11)] σ σ1 := a1.wk (by decide) (by decide)
    have k4 := tkK_le (B := B) (n := n) (p := p)
    have s6 : σ1.2.2.1 20 6 = -1 := by rw [a1.f (by decide)]; exact h6
    by_cases k0 : tkK B n p = 0
    · rw [rdC_a k0]
      refine ⟨σ1, W1, s6, fun _ => C1, ?_⟩
      rw [g75_33, if_neg (show ¬ ¬ (0 : Int32) = 0 from fun q => q rfl), if_neg (show ¬ (20 : Int32) < nI z from nI_nlt (a := 20) (by omega) (by omega)), o20, a3, lf_cv_r, i20_8, a2.1, if_neg (show ¬ ¬ nI (tkK B n p) = 0 from fun q => q (by rw [k0]; rfl))]
      rfl
    · obtain ⟨τ1, b1, b2, b3, b4⟩ := c_clause (N := N) (cs := cs) (z := z) hN hB hkn he hG hq (by omega) T1 a2 C1
      have W2 : fr [22, 24] [(20, 3), (20, 4), (20, 6), (20, 8), (20, 9), (20, 10), (20, 11)] σ τ1 := W1.tr (b1.wk (by decide) (by decide))
      have le := rdE_le (B := B) (z := z) hkn hq hG
      have pre : g75_33 N (u + 1) 20 0 (nI z) (hp σ, cs) = g75_33 N u 20 (nI (rdE B n p kn e f z).1) (nI (z + 1)) (hp τ1, cs) := by
        rw [g75_33, if_neg (show ¬ ¬ (0 : Int32) = 0 from fun q => q rfl), if_neg (show ¬ (20 : Int32) < nI z from nI_nlt (a := 20) (by omega) (by omega)), o20, a3, lf_cv_r, i20_8, a2.1, if_pos (nI_z (by omega) k0), o20, b4, lf_ci_r, nI_1]
      rw [pre]
      by_cases c1 : (rdE B n p kn e f z).1 = 0
      · obtain ⟨d1, d2, d3, d4, d5⟩ := rdC_c hz k0 c1
        rw [d1]
        obtain ⟨x1, x2⟩ := b3 c1
        obtain ⟨m', rfl⟩ : ∃ q, m = q + 1 := ⟨m - 1, by omega⟩
        obtain ⟨τ, q1, q2, q3, q4⟩ := ih m' (by omega) (z + 1) (rdQ B n p kn).2.2.2.2 u (rdV B n p kn e f).2 τ1 (by omega) (by omega) (rdQ_ok hq).2.2.1 (rdV_ok hkn hq d4 hG).2 (T1.fr b1 (by decide) (by decide)) x1 x2 (by rw [b1.f (by decide)]; exact s6)
        refine ⟨τ, W2.tr q1, q2, q3, ?_⟩
        rw [c1]
        exact q4
      · obtain ⟨d1, d2⟩ := rdC_b hz k0 c1
        rw [d1, d2, if_neg c1]
        obtain ⟨u, rfl⟩ : ∃ q, u = q + 1 := ⟨u - 1, by omega⟩
        refine ⟨hp_wf τ1 20 6 (nI (rdE B n p kn e f z).2), W2.tr (fr.wf (by decide)), hp_wf_at, fun q => absurd q c1, ?_⟩
        rw [g75_33, if_pos (nI_z (by omega) c1)]
        unfold g75_68
        rw [i20_9, b2, w20_6]
/-- the reader's net begins -/
theorem c21_bl : ∀ (m k q : Nat), k + m = 24 → m < q → g51_12 N q 21 (nI k) (hp (hp_fill σ 22 k (fun _ => 0)), cs) = some (.inl none, (hp (hp_fill σ 22 24 (fun _ => 0)), cs)) := by
  intro m
  induction m with
  | zero =>
    intro k q hk hq
    obtain ⟨q, rfl⟩ : ∃ u, q = u + 1 := ⟨q - 1, by omega⟩
    unfold g51_12
    rw [show k = 24 by omega, if_pos (show (24 : Int32) ≤ nI 24 by decide)]
  | succ m ih =>
    intro k q hk hq
    obtain ⟨q, rfl⟩ : ∃ u, q = u + 1 := ⟨q - 1, by omega⟩
    unfold g51_12
    rw [if_neg (show ¬ (24 : Int32) ≤ nI k from nI_ge (b := 24) (by omega) (by omega)), r21_0, b22 (by omega), hp_fill_s (g := fun _ => 0), nI_1]
    exact ih (k + 1) q (by omega) (by omega)
theorem c21_begin {x y : Int32} (hN : iv_N N) : f51 N 21 x y (hp σ, cs) = some (.inl none, (hp (hp_fill (hp_wf (hp_wf σ 21 1 x) 21 2 y) 22 24 (fun _ => 0)), cs)) := by
  unfold f51
  rw [w21_1, w21_2]
  have e := c21_bl (σ := hp_wf (hp_wf σ 21 1 x) 21 2 y) (cs := cs) (N := N) 24 0 N rfl (by unfold iv_N at hN; omega)
  rw [hp_fill_0] at e
  exact e
theorem c_ex5 (hN : iv_N N) (hB : TB B n) (hT : TC σ B n) (hq : p ≤ n) (h10 : σ.2.2.1 20 10 = nI p) : ∃ τ, fr [] [(20, 8), (20, 9), (20, 10), (20, 11)] σ τ ∧ CT τ B n p ∧ f77 N 20 1000003 (hp σ, cs) = some (.inl (some (.int (if tkX B n p = 5 then 0 else 1))), (hp τ, cs)) := by
  obtain ⟨σ1, a1, a2, a3⟩ := c_adv (N := N) (cs := cs) hN hB hT hq h10
  refine ⟨σ1, a1, a2, ?_⟩
  unfold f77
  rw [o20, a3, lf_cv_r, o20, c_wd5 hN hB (hT.fr a1 (by decide) (by decide)) a2 hq, lf_ci_r]
  by_cases c : tkI wd5 B n p
  · rw [if_pos c, if_neg (by decide), if_pos (tkX_5.mpr c)]
  · rw [if_neg c, if_pos rfl, if_neg (fun z => c (tkX_5.mp z))]
theorem c_ex6 (hN : iv_N N) (hB : TB B n) (hT : TC σ B n) (hq : p ≤ n) (h10 : σ.2.2.1 20 10 = nI p) : ∃ τ, fr [] [(20, 8), (20, 9), (20, 10), (20, 11)] σ τ ∧ CT τ B n p ∧ f77 N 20 1000002 (hp σ, cs) = some (.inl (some (.int (if tkX B n p = 6 then 0 else 1))), (hp τ, cs)) := by
  obtain ⟨σ1, a1, a2, a3⟩ := c_adv (N := N) (cs := cs) hN hB hT hq h10
  refine ⟨σ1, a1, a2, ?_⟩
  unfold f77
  rw [o20, a3, lf_cv_r, o20, c_wd6 hN hB (hT.fr a1 (by decide) (by decide)) a2 hq, lf_ci_r]
  by_cases c : tkI wd6 B n p
  · rw [if_pos c, if_neg (by decide), if_pos (tkX_6.mpr c)]
  · rw [if_neg c, if_pos rfl, if_neg (fun z => c (tkX_6.mp z))]
theorem c_size {most : Nat} (hm : most ≤ 24) (hN : iv_N N) (hB : TB B n) (hT : TC σ B n) (hq : p ≤ n) (h10 : σ.2.2.1 20 10 = nI p) : ∃ τ, fr [] [(20, 8), (20, 9), (20, 10), (20, 11)] σ τ ∧ CT τ B n p ∧ (rdZ B n p most = 0 → τ.2.2.1 20 11 = nI (rdN B n p)) ∧ f78 N 20 (nI most) (hp σ, cs) = some (.inl (some (.int (nI (rdZ B n p most)))), (hp τ, cs)) := by
  have hn := hB.1
  obtain ⟨σ1, a1, a2, a3⟩ := c_adv (N := N) (cs := cs) hN hB hT hq h10
  obtain ⟨c8, c9, c10, c11⟩ := id a2
  have ha := tkA_le (B := B) hq
  have he := tkE_le (B := B) hq
  have k4 := tkK_le (B := B) (n := n) (p := p)
  have hv : rdN B n p ≤ 231088 := tkV_b (by omega) hB.2.1
  have e10 : σ1.2.2.1 20 10 = nI (tkA B n p + (tkE B n p - tkA B n p)) := by
    rw [c10]
    congr 1
    omega
  refine ⟨σ1, a1, a2, fun h => ?_, ?_⟩
  · obtain ⟨z1, z2, z3, z4⟩ := rdZ_0 h
    rw [c11 z1, tkV_eq _ z2]
    rfl
  · unfold f78 g78_37 rdZ
    rw [o20, a3, lf_cv_r, i20_8, c8]
    by_cases d1 : tkK B n p = 2
    · rw [if_pos (show nI (tkK B n p) = 2 by rw [d1]; rfl), if_neg (show ¬ ¬ tkK B n p = 2 from fun q => q d1), o20]
      by_cases d2 : 3 < tkE B n p - tkA B n p
      · rw [c_long1 c9 e10 d2 (by omega), lf_ci_r, if_pos (by decide), if_pos (Or.inl d2)]
        rfl
      · have v11 : σ1.2.2.1 20 11 = nI (rdN B n p) := by
          rw [c11 d1, tkV_eq _ (by omega)]
          rfl
        rw [c_long0 c9 e10 (by omega), lf_ci_r, if_neg (by decide), i20_11, v11]
        by_cases d3 : rdN B n p < 1
        · rw [if_pos (show nI (rdN B n p) < 1 from nI_lt (b := 1) d3 (by omega)), if_pos (Or.inr (Or.inl d3))]
          rfl
        · rw [if_neg (show ¬ nI (rdN B n p) < 1 from nI_nlt (b := 1) (by omega) (by omega)), i20_11, v11]
          by_cases d4 : most < rdN B n p
          · rw [if_neg (nI_ge d4 (by omega)), if_pos (Or.inr (Or.inr d4))]
            rfl
          · rw [if_pos (nI_le (by omega) (by omega)), if_neg (show ¬ (3 < tkE B n p - tkA B n p ∨ rdN B n p < 1 ∨ most < rdN B n p) by omega)]
            rfl
    · rw [if_neg (show ¬ nI (tkK B n p) = 2 from fun q => d1 ((nI_eq (b := 2) (by omega) (by omega)).mp q)), if_pos d1]
      rfl
theorem c_h45 {x y : Int32} (h : ¬ x = 0) : g76_45 N 20 x y (hp σ, cs) = some (.inl (some (.int x)), (hp σ, cs)) := by
  unfold g76_45
  rw [if_neg h]
theorem c_h34 {x y : Int32} (h : ¬ x = 0) : g76_34 N 20 x y (hp σ, cs) = some (.inl (some (.int x)), (hp σ, cs)) := by
  unfold g76_34
  rw [if_pos h, c_h45 h]
theorem c_h18 {x : Int32} (h : ¬ x = 0) : g76_18 N 20 x (hp σ, cs) = some (.inl (some (.int x)), (hp σ, cs)) := by
  unfold g76_18
  rw [i20_11, if_pos h, c_h34 h]
/-- the class's parseHead -/
theorem c_head (hN : iv_N N) (hB : TB B n) (hT : TC σ B n) (h10 : σ.2.2.1 20 10 = nI 0) : ∃ τ, fr [22] [(20, 8), (20, 9), (20, 10), (20, 11), (21, 1), (21, 2)] σ τ ∧ (¬ (rdH B n).1 = 0 → τ.2.2.1 20 9 = nI (rdH B n).2) ∧ ((rdH B n).1 = 0 → τ.2.2.1 20 10 = nI (rd5 B n) ∧ CNr τ (rdN B n (rd1 B n)) (rdN B n (rd3 B n)) (fun _ => 0)) ∧ f76 N 20 (hp σ, cs) = some (.inl (some (.int (nI (rdH B n).1))), (hp τ, cs)) := by
  obtain ⟨l1, l2, l3, l4, l5⟩ := rd_le (B := B) (n := n)
  obtain ⟨σ1, a1, a2, a3⟩ := c_ex5 (N := N) (cs := cs) hN hB hT (Nat.zero_le n) h10
  have W1 : fr [22] [(20, 8), (20, 9), (20, 10), (20, 11), (21, 1), (21, 2)] σ σ1 := a1.wk (by decide) (by decide)
  have T1 := hT.fr W1 (by decide) (by decide)
  unfold rdH f76
  rw [o20, a3, lf_ci_r]
  by_cases c1 : tkX B n 0 = 5
  case neg =>
    rw [if_neg c1, if_pos (show ¬ (1 : Int32) = 0 by decide), c_h18 (by decide), if_pos (show ¬ tkX B n 0 = 5 from c1)]
    exact ⟨σ1, W1, fun _ => a2.2.1, fun q => nz1 q, rfl⟩
  rw [if_pos c1, if_neg (show ¬ ¬ (0 : Int32) = 0 by decide), if_neg (show ¬ ¬ tkX B n 0 = 5 from fun q => q c1), o20]
  obtain ⟨σ2, b1, b2, b3, b4⟩ := c_size (N := N) (cs := cs) (most := 24) (by omega) hN hB T1 l1 a2.2.2.1
  have W2 : fr [22] [(20, 8), (20, 9), (20, 10), (20, 11), (21, 1), (21, 2)] σ σ2 := W1.tr (b1.wk (by decide) (by decide))
  have T2 := hT.fr W2 (by decide) (by decide)
  rw [show f78 N 20 24 (hp σ1, cs) = _ from b4, lf_ci_r]
  have zl := rdZ_le (B := B) (n := n) (p := rd1 B n) (most := 24)
  by_cases c2 : rdZ B n (rd1 B n) 24 = 0
  case neg =>
    rw [c_h18 (nI_z (by omega) c2), if_pos (show ¬ rdZ B n (rd1 B n) 24 = 0 from c2)]
    exact ⟨σ2, W2, fun _ => b2.2.1, fun q => absurd q c2, rfl⟩
  rw [c2, if_neg (show ¬ ¬ (0 : Nat) = 0 by decide)]
  have v1 := b3 c2
  unfold g76_18
  rw [i20_11, v1, if_neg (show ¬ ¬ nI 0 = 0 from fun q => q rfl), o20]
  obtain ⟨σ3, d1, d2, d3⟩ := c_ex6 (N := N) (cs := cs) hN hB T2 l2 b2.2.2.1
  have W3 : fr [22] [(20, 8), (20, 9), (20, 10), (20, 11), (21, 1), (21, 2)] σ σ3 := W2.tr (d1.wk (by decide) (by decide))
  have T3 := hT.fr W3 (by decide) (by decide)
  rw [d3, lf_ci_r]
  by_cases c3 : tkX B n (rd2 B n) = 6
  case neg =>
    rw [if_neg c3, c_h34 (by decide), if_pos (show ¬ tkX B n (rd2 B n) = 6 from c3)]
    exact ⟨σ3, W3, fun _ => d2.2.1, fun q => nz1 q, rfl⟩
  rw [if_pos c3, if_neg (show ¬ ¬ tkX B n (rd2 B n) = 6 from fun q => q c3)]
  unfold g76_34
  rw [if_neg (show ¬ ¬ (0 : Int32) = 0 by decide), o20]
  obtain ⟨σ4, e1, e2, e3, e4⟩ := c_size (N := N) (cs := cs) (most := 8) (by omega) hN hB T3 l3 d2.2.2.1
  have W4 : fr [22] [(20, 8), (20, 9), (20, 10), (20, 11), (21, 1), (21, 2)] σ σ4 := W3.tr (e1.wk (by decide) (by decide))
  have T4 := hT.fr W4 (by decide) (by decide)
  rw [show f78 N 20 8 (hp σ3, cs) = _ from e4, lf_ci_r]
  have zl2 := rdZ_le (B := B) (n := n) (p := rd3 B n) (most := 8)
  by_cases c4 : rdZ B n (rd3 B n) 8 = 0
  case neg =>
    rw [c_h45 (nI_z (by omega) c4), if_pos (show ¬ rdZ B n (rd3 B n) 8 = 0 from c4)]
    exact ⟨σ4, W4, fun _ => e2.2.1, fun q => absurd q c4, rfl⟩
  rw [c4, if_neg (show ¬ ¬ (0 : Nat) = 0 by decide)]
  have v3 := e3 c4
  unfold g76_45
  rw [if_pos (show nI 0 = 0 from rfl), r20_0, i20_11, v3, o21, c21_begin hN, lf_cv_r, o20]
  have fw : fr [22] [(20, 8), (20, 9), (20, 10), (20, 11), (21, 1), (21, 2)] σ4 (hp_fill (hp_wf (hp_wf σ4 21 1 (nI (rdN B n (rd1 B n)))) 21 2 (nI (rdN B n (rd3 B n)))) 22 24 (fun _ => 0)) := ((fr.wf (by decide)).tr (fr.wf (by decide))).tr (fr.fill (by decide))
  have W5 := W4.tr fw
  have C5 : CNr (hp_fill (hp_wf (hp_wf σ4 21 1 (nI (rdN B n (rd1 B n)))) 21 2 (nI (rdN B n (rd3 B n)))) 22 24 (fun _ => 0)) (rdN B n (rd1 B n)) (rdN B n (rd3 B n)) (fun _ => 0) := by
    refine ⟨?_, ?_, fun k hk => hp_fill_at hk⟩
    · show (hp_wf (hp_wf σ4 21 1 (nI (rdN B n (rd1 B n)))) 21 2 (nI (rdN B n (rd3 B n)))).2.2.1 21 1 = _
      rw [hp_wf_ne (by decide), hp_wf_at]
    · show (hp_wf (hp_wf σ4 21 1 (nI (rdN B n (rd1 B n)))) 21 2 (nI (rdN B n (rd3 B n)))).2.2.1 21 2 = _
      rw [hp_wf_at]
  have p5 : (hp_fill (hp_wf (hp_wf σ4 21 1 (nI (rdN B n (rd1 B n)))) 21 2 (nI (rdN B n (rd3 B n)))) 22 24 (fun _ => 0)).2.2.1 20 10 = nI (rd4 B n) := by
    show (hp_wf (hp_wf σ4 21 1 (nI (rdN B n (rd1 B n)))) 21 2 (nI (rdN B n (rd3 B n)))).2.2.1 20 10 = _
    rw [hp_wf_ne (by decide), hp_wf_ne (by decide)]
    exact e2.2.2.1
  generalize hp_fill (hp_wf (hp_wf σ4 21 1 (nI (rdN B n (rd1 B n)))) 21 2 (nI (rdN B n (rd3 B n)))) 22 24 (fun _ => 0) = σ5 at W5 C5 p5 ⊢
  obtain ⟨σ6, g1, g2, g3⟩ := c_adv (N := N) (cs := cs) hN hB (hT.fr W5 (by decide) (by decide)) l4 p5
  have W6 : fr [22] [(20, 8), (20, 9), (20, 10), (20, 11), (21, 1), (21, 2)] σ σ6 := W5.tr (g1.wk (by decide) (by decide))
  have k4 := tkK_le (B := B) (n := n) (p := rd4 B n)
  rw [g3, lf_cv_r, i20_8, g2.1]
  by_cases c5 : tkK B n (rd4 B n) = 3
  case neg =>
    rw [if_pos (show ¬ nI (tkK B n (rd4 B n)) = 3 from fun q => c5 ((nI_eq (b := 3) (by omega) (by omega)).mp q)), if_pos (show ¬ tkK B n (rd4 B n) = 3 from c5)]
    exact ⟨σ6, W6, fun _ => g2.2.1, fun q => nz1 q, rfl⟩
  rw [if_neg (show ¬ ¬ nI (tkK B n (rd4 B n)) = 3 from fun q => q (by rw [c5]; rfl)), if_neg (show ¬ ¬ tkK B n (rd4 B n) = 3 from fun q => q c5)]
  exact ⟨σ6, W6, fun q => absurd rfl q, fun _ => ⟨g2.2.2.1, C5.fr g1 (by decide) (by decide) (by decide)⟩, rfl⟩
/-- the class's parse -/
theorem c_parse (hN : iv_N N) (hB : TB B n) (h23 : ∀ j, j < n → σ.1 23 j = nI (B j)) : ∃ τ, fr [22, 24] [(20, 3), (20, 4), (20, 5), (20, 6), (20, 7), (20, 8), (20, 9), (20, 10), (20, 11), (21, 1), (21, 2)] σ τ ∧ τ.2.2.1 20 5 = 0 ∧ τ.2.2.1 20 6 = (if (rdT B n).1 = 0 then -1 else nI (rdT B n).2.1) ∧ ((rdT B n).1 = 0 → CNr τ (rdN B n (rd1 B n)) (rdN B n (rd3 B n)) (rdT B n).2.2) ∧ f75 N 20 (nI n) (hp σ, cs) = some (.inl (some (.int (nI (rdT B n).1))), (hp τ, cs)) := by
  have hn := hB.1
  have hmin : lf_min (nI n) 400 = nI n := by
    unfold lf_min
    rw [if_neg (show ¬ (400 : Int32) < nI n from nI_nlt (a := 400) (by omega) (by omega))]
  have fw : fr [22, 24] [(20, 3), (20, 4), (20, 5), (20, 6), (20, 7), (20, 8), (20, 9), (20, 10), (20, 11), (21, 1), (21, 2)] σ (hp_wf (hp_wf (hp_wf (hp_wf σ 20 7 (nI n)) 20 5 0) 20 10 0) 20 6 (-1)) := (((fr.wf (by decide)).tr (fr.wf (by decide))).tr (fr.wf (by decide))).tr (fr.wf (by decide))
  have T0 : TC (hp_wf (hp_wf (hp_wf (hp_wf σ 20 7 (nI n)) 20 5 0) 20 10 0) 20 6 (-1)) B n := ⟨by rw [hp_wf_ne (by decide), hp_wf_ne (by decide), hp_wf_ne (by decide), hp_wf_at], h23⟩
  have p10 : (hp_wf (hp_wf (hp_wf (hp_wf σ 20 7 (nI n)) 20 5 0) 20 10 0) 20 6 (-1)).2.2.1 20 10 = nI 0 := by
    rw [hp_wf_ne (by decide), hp_wf_at]
    rfl
  have p5 : (hp_wf (hp_wf (hp_wf (hp_wf σ 20 7 (nI n)) 20 5 0) 20 10 0) 20 6 (-1)).2.2.1 20 5 = 0 := by
    rw [hp_wf_ne (by decide), hp_wf_ne (by decide), hp_wf_at]
  have p6 : (hp_wf (hp_wf (hp_wf (hp_wf σ 20 7 (nI n)) 20 5 0) 20 10 0) 20 6 (-1)).2.2.1 20 6 = -1 := hp_wf_at
  have pre : f75 N 20 (nI n) (hp σ, cs) = lf_ci (f76 N 20 (hp (hp_wf (hp_wf (hp_wf (hp_wf σ 20 7 (nI n)) 20 5 0) 20 10 0) 20 6 (-1)), cs)) fun v15 w9 => g75_33 N N 20 v15 0 w9 := by
    unfold f75
    rw [hmin, w20_7, w20_5, w20_10, w20_6, o20]
  generalize hp_wf (hp_wf (hp_wf (hp_wf σ 20 7 (nI n)) 20 5 0) 20 10 0) 20 6 (-1) = σ0' at fw T0 p10 p5 p6 pre
  obtain ⟨σ1, a1, a2, a3, a4⟩ := c_head (N := N) (cs := cs) hN hB T0 p10
  have W1 : fr [22, 24] [(20, 3), (20, 4), (20, 5), (20, 6), (20, 7), (20, 8), (20, 9), (20, 10), (20, 11), (21, 1), (21, 2)] σ σ1 := fw.tr (a1.wk (by decide) (by decide))
  obtain ⟨hl1, hl2⟩ := rdH_le (B := B) (n := n)
  have hNN : 21 < N := by
    unfold iv_N at hN
    omega
  rw [pre, a4, lf_ci_r]
  unfold rdT
  by_cases c : (rdH B n).1 = 0
  · obtain ⟨b1, b2⟩ := a3 c
    obtain ⟨x1, x2, x3, x4, x5⟩ := rdH_0 c
    obtain ⟨y1, y2, y3, y4⟩ := rdZ_0 x2
    obtain ⟨v1, v2, v3, v4⟩ := rdZ_0 x4
    obtain ⟨τ, q1, q2, q3, q4⟩ := c_l33 (N := N) (cs := cs) (kn := rdN B n (rd1 B n)) (e := rdN B n (rd3 B n)) hN hB y4 v4 20 0 (rd5 B n) N (fun _ => 0) σ1 rfl hNN rd_le.2.2.2.2 rdG_0 (T0.fr a1 (by decide) (by decide)) b1 b2 (by rw [a1.f (by decide)]; exact p6)
    rw [if_neg (show ¬ ¬ (rdH B n).1 = 0 from fun q => q c), c]
    exact ⟨τ, W1.tr (q1.wk (by decide) (by decide)), by rw [q1.f (by decide), a1.f (by decide)]; exact p5, q2, q3, q4⟩
  · rw [if_pos (show ¬ (rdH B n).1 = 0 from c)]
    refine ⟨hp_wf σ1 20 6 (nI (rdH B n).2), W1.tr (fr.wf (by decide)), by rw [hp_wf_ne (by decide), a1.f (by decide)]; exact p5, ?_, fun q => absurd q c, ?_⟩
    · rw [hp_wf_at]
      exact (if_neg c).symm
    · obtain ⟨M, rfl⟩ : ∃ q, N = q + 1 := ⟨N - 1, by omega⟩
      rw [g75_33, if_pos (nI_z (by omega) c)]
      unfold g75_68
      rw [i20_9, a2 c, w20_6]
end RDY
