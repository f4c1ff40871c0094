/-! read: the model's goes and its known words, the class's isWord -/
section RDG
variable {cs : Nat × Nat} {N n p s : Nat} {B : Nat → Nat} {σ : hp_S}
/-- the model's goes: the token from its end on -/
theorem m_goes (hN : iv_N N) (hB : TB B n) (hT : TM σ B n) (hq : p ≤ n) (h12 : σ.2.2.1 72 12 = nI p) : ∃ τ, fr [] [(72, 12), (72, 13), (72, 14), (72, 15), (72, 16), (72, 17)] σ τ ∧ MK τ B n p ∧ f195 N 72 (hp σ, cs) = some (.inl none, (hp τ, cs)) := by
  have hn := hB.1
  have ha := tkA_le (B := B) hq
  obtain ⟨σ1, a1, a2, a3⟩ := m_sk (N := N) (cs := cs) hB (n - p) p N σ (by omega) (by unfold iv_N at hN; omega) hT h12
  have a2 : σ1.2.2.1 72 12 = nI (tkA B n p) := a2
  have fw2 : fr [] [(72, 12), (72, 13), (72, 14), (72, 15), (72, 16), (72, 17)] σ1 (hp_wf (hp_wg (hp_wf σ1 72 14 (nI (tkA B n p))) 72 17 0) 72 16 0) := ((fr.wf (by decide)).tr (fr.wg (by decide))).tr (fr.wf (by decide))
  have W2 : fr [] [(72, 12), (72, 13), (72, 14), (72, 15), (72, 16), (72, 17)] σ (hp_wf (hp_wg (hp_wf σ1 72 14 (nI (tkA B n p))) 72 17 0) 72 16 0) := (a1.wk (by decide) (by decide)).tr fw2
  have T2 := hT.fr W2 (by decide) (by decide)
  have e12 : (hp_wf (hp_wg (hp_wf σ1 72 14 (nI (tkA B n p))) 72 17 0) 72 16 0).2.2.1 72 12 = nI (tkA B n p) := by
    rw [hp_wf_ne (by decide)]
    show (hp_wf σ1 72 14 (nI (tkA B n p))).2.2.1 72 12 = _
    rw [hp_wf_ne (by decide)]
    exact a2
  have e14 : (hp_wf (hp_wg (hp_wf σ1 72 14 (nI (tkA B n p))) 72 17 0) 72 16 0).2.2.1 72 14 = nI (tkA B n p) := by
    rw [hp_wf_ne (by decide)]
    show (hp_wf σ1 72 14 (nI (tkA B n p))).2.2.1 72 14 = _
    exact hp_wf_at
  have e16 : (hp_wf (hp_wg (hp_wf σ1 72 14 (nI (tkA B n p))) 72 17 0) 72 16 0).2.2.1 72 16 = 0 := hp_wf_at
  have e17 : (hp_wf (hp_wg (hp_wf σ1 72 14 (nI (tkA B n p))) 72 17 0) 72 16 0).2.2.2 72 17 = 0 := show (hp_wg (hp_wf σ1 72 14 (nI (tkA B n p))) 72 17 0).2.2.2 72 17 = 0 from hp_wg_at
  have pre : f195 N 72 (hp σ, cs) = (lf_fi (hp (hp_wf (hp_wg (hp_wf σ1 72 14 (nI (tkA B n p))) 72 17 0) 72 16 0), cs) 72 12 12).bind fun v9 => if lf_is (hp (hp_wf (hp_wg (hp_wf σ1 72 14 (nI (tkA B n p))) 72 17 0) 72 16 0), cs) 72 12 = true then (lf_ci (f192 N 72 v9 (hp (hp_wf (hp_wg (hp_wf σ1 72 14 (nI (tkA B n p))) 72 17 0) 72 16 0), cs)) fun v17 w11 => (lf_fi w11 72 12 12).bind fun v18 => (lf_fi w11 72 12 11).bind fun v20 => if v18 < v20 then (lf_ci (f193 N v17 w11) fun v26 w23 => if v26 = 0 then (lf_ci (f194 N v17 w23) fun v31 w28 => if v31 = 0 then ((lf_fi w28 72 12 12).bind fun v33 => (lf_wf w28 72 12 12 0 (.int (v33 + 1))).bind fun w35 => if ¬ v17 = 59 then (g195_275 N 72 4 72 w35) else (g195_275 N 72 3 72 w35)) else (g195_182 N N 72 w28)) else (g195_103 N N 72 w23)) else ((lf_wf w11 72 12 13 0 (.int 0)).bind fun w38 => g195_278 N 72 w38)) else none := by
    unfold f195
    rw [a3]
    unfold g195_50
    rw [i72_12, a2, w72_14, w72_17, w72_16]
  generalize hp_wf (hp_wg (hp_wf σ1 72 14 (nI (tkA B n p))) 72 17 0) 72 16 0 = σ2 at fw2 W2 T2 e12 e14 e16 e17 pre
  rw [pre, i72_12, e12, o72, m_byte hB T2 (by omega), lf_ci_r, i72_12, i72_11, e12, T2.1]
  have b1 := hB.2.1 (tkA B n p)
  by_cases c : n ≤ tkA B n p
  · obtain ⟨k1, k2⟩ := tk_0 c
    refine ⟨hp_wf (hp_wf σ2 72 13 0) 72 15 (nI 0), W2.tr ((fr.wf (by decide)).tr (fr.wf (by decide))), ⟨by rw [k1, hp_wf_ne (by decide), hp_wf_at]; rfl, by rw [hp_wf_ne (by decide), hp_wf_ne (by decide)]; exact e14, by rw [k2, hp_wf_ne (by decide), hp_wf_ne (by decide)]; exact e12, by rw [k2, hp_wf_at, Nat.sub_self], fun z => by omega, fun z => by omega⟩, ?_⟩
    rw [if_neg (nI_nlt c (by omega)), w72_13, m_278 (s := tkA B n p) (i := 0) (by rw [hp_wf_ne (by decide)]; exact e12) (by rw [hp_wf_ne (by decide)]; exact e14)]
  · rw [if_pos (nI_lt (by omega) (by omega))]
    by_cases c1 : tkL (B (tkA B n p)) = true
    · obtain ⟨k1, k2⟩ := tk_1 c c1
      obtain ⟨τ, q1, q2, q3, q4, q5, q6⟩ := m_w103 (N := N) (cs := cs) (s := tkA B n p) hB (n - tkA B n p) 0 N σ2 (by omega) (by unfold iv_N at hN; omega) T2 e12 e14 (fun k hk => absurd hk (Nat.not_lt_zero k)) (fun _ => e17)
      rw [Nat.add_zero] at q2 q4 q5
      refine ⟨τ, W2.tr (q1.wk (by decide) (by decide)), ⟨by rw [k1]; exact q3, by rw [q1.f (by decide)]; exact e14, by rw [k2]; exact q2, by rw [k2]; exact q4, fun z => by omega, fun _ z => by rw [k2] at z ⊢; exact q5 (by omega)⟩, ?_⟩
      rw [m_let1 c1, lf_ci_r, if_neg (by decide)]
      exact q6
    · rw [m_let0 b1 c1, lf_ci_r, if_pos rfl]
      by_cases c2 : tkD (B (tkA B n p)) = true
      · obtain ⟨k1, k2⟩ := tk_2 c c1 c2
        obtain ⟨τ, q1, q2, q3, q4, q5, q6⟩ := m_d182 (N := N) (cs := cs) (s := tkA B n p) hB (n - tkA B n p) 0 N σ2 (by omega) (by unfold iv_N at hN; omega) T2 e12 e14 e16
        rw [Nat.add_zero] at q2 q4 q5
        refine ⟨τ, W2.tr (q1.wk (by decide) (by decide)), ⟨by rw [k1]; exact q3, by rw [q1.f (by decide)]; exact e14, by rw [k2]; exact q2, by rw [k2]; exact q4, fun _ => by rw [k2]; exact q5, fun z => by omega⟩, ?_⟩
        rw [m_dig1 c2, lf_ci_r, if_neg (by decide)]
        exact q6
      · obtain ⟨k1, k2⟩ := tk_3 c c1 c2
        rw [m_dig0 b1 c2, lf_ci_r, if_pos rfl, i72_12, e12, nI_1, w72_12]
        have fin : ∀ x : Int32, x = nI (tkK B n p) → ∃ τ, fr [] [(72, 12), (72, 13), (72, 14), (72, 15), (72, 16), (72, 17)] σ τ ∧ MK τ B n p ∧ g195_275 N 72 x 72 (hp (hp_wf σ2 72 12 (nI (tkA B n p + 1))), cs) = some (.inl none, (hp τ, cs)) := by
          intro x hx
          have k3 : ¬ tkK B n p = 2 ∧ ¬ tkK B n p = 1 := by
            rw [k1]
            split <;> omega
          refine ⟨hp_wf (hp_wf (hp_wf σ2 72 12 (nI (tkA B n p + 1))) 72 13 x) 72 15 (nI 1), W2.tr (((fr.wf (by decide)).tr (fr.wf (by decide))).tr (fr.wf (by decide))), ⟨by rw [hp_wf_ne (by decide), hp_wf_at]; exact hx, by rw [hp_wf_ne (by decide), hp_wf_ne (by decide), hp_wf_ne (by decide)]; exact e14, by rw [k2, hp_wf_ne (by decide), hp_wf_ne (by decide), hp_wf_at], by rw [k2, hp_wf_at, Nat.add_sub_cancel_left], fun z => absurd z k3.1, fun z => absurd z k3.2⟩, ?_⟩
          unfold g195_275
          rw [w72_13, m_278 (s := tkA B n p) (i := 1) (by rw [hp_wf_ne (by decide), hp_wf_at]) (by rw [hp_wf_ne (by decide), hp_wf_ne (by decide)]; exact e14)]
        by_cases c3 : B (tkA B n p) = 59
        · rw [if_neg (show ¬ ¬ nI (B (tkA B n p)) = 59 from fun z => z ((nI_eq (b := 59) (by omega) (by omega)).mpr c3))]
          exact fin 3 (by rw [k1, if_pos c3]; rfl)
        · rw [if_pos (show ¬ nI (B (tkA B n p)) = 59 from fun z => c3 ((nI_eq (b := 59) (by omega) (by omega)).mp z))]
          exact fin 4 (by rw [k1, if_neg c3]; rfl)
theorem sp_0 {w : lf_W} : f196 N 114 111 119 0 0 0 w = some (.inl (some (.long (lN 18935))), w) := rfl
theorem sp_1 {w : lf_W} : f196 N 114 105 110 103 0 0 w = some (.inl (some (.long (lN 599495))), w) := rfl
theorem sp_2 {w : lf_W} : f196 N 97 108 108 0 0 0 w = some (.inl (some (.long (lN 1420))), w) := rfl
theorem sp_3 {w : lf_W} : f196 N 115 116 97 114 0 0 w = some (.inl (some (.long (lN 643122))), w) := rfl
theorem sp_4 {w : lf_W} : f196 N 111 102 102 0 0 0 w = some (.inl (some (.long (lN 15558))), w) := rfl
theorem sp_5 {w : lf_W} : f196 N 107 110 111 116 115 0 w = some (.inl (some (.long (lN 12009107))), w) := rfl
theorem sp_6 {w : lf_W} : f196 N 100 101 103 114 101 101 w = some (.inl (some (.long (lN 139708581))), w) := rfl
/-- one word against the letters of a token -/
theorem m_cmp {l : List Nat} {v : Nat} (hl : ∀ k, k < l.length → tkL (l.getD k 0) = true) (hs : l.length ≤ 6) (hv : tkW (fun k => l.getD k 0) 0 l.length = v) (hk : tkK B n p = 1) (h6 : tkE B n p - tkA B n p ≤ 6) : lg_cmp (lN (tkW B (tkA B n p) (tkE B n p - tkA B n p))) (lN v) = 0 ↔ tkI l B n p := by
  have h0 : ∀ k, k < l.length → tkL ((fun k => l.getD k 0) (0 + k)) = true := by
    intro k hk
    show tkL (l.getD (0 + k) 0) = true
    rw [Nat.zero_add]
    exact hl k hk
  rw [lg_cmp_z, ← hv, lN_eq (tkW_30 h6 (tk_let hk)) (tkW_30 hs h0)]
  constructor
  · intro h
    obtain ⟨e1, e2⟩ := tkW_inj _ _ (tk_let hk) h0 h
    refine ⟨hk, e1, fun k hk' => ?_⟩
    have := e2 k (by omega)
    rw [this]
    show l.getD (0 + k) 0 = _
    rw [Nat.zero_add]
  · intro h
    obtain ⟨h1, h2, h3⟩ := h
    rw [h2]
    have g : ∀ m, m ≤ l.length → tkW B (tkA B n p) m = tkW (fun k => l.getD k 0) 0 m := by
      intro m
      induction m with
      | zero => exact fun _ => rfl
      | succ m ih =>
        intro hm
        rw [tkW, tkW, ih (by omega), h3 m (by omega)]
        show _ = 32 * tkW (fun k => l.getD k 0) 0 m + (l.getD (0 + m) 0 - 96)
        rw [Nat.zero_add]
    exact g _ (Nat.le_refl _)
/-- the model's knownWord -/
theorem m_known (hM : MK σ B n p) (hq : p ≤ n) (hn : n ≤ 400) : f197 N 72 (hp σ, cs) = some (.inl (some (.int (if tkX B n p = 7 then -1 else nI (tkX B n p)))), (hp σ, cs)) := by
  obtain ⟨m13, m14, m12, m15, m16, m17⟩ := hM
  have he := tkE_le (B := B) hq
  by_cases hk : tkK B n p = 1
  · by_cases h6 : tkE B n p - tkA B n p ≤ 6
    · have w := m17 hk h6
      have d0 := m_cmp (l := wd0) (v := 18935) (by decide) (by decide) (by decide) hk h6
      have d1 := m_cmp (l := wd1) (v := 599495) (by decide) (by decide) (by decide) hk h6
      have d2 := m_cmp (l := wd2) (v := 1420) (by decide) (by decide) (by decide) hk h6
      have d3 := m_cmp (l := wd3) (v := 643122) (by decide) (by decide) (by decide) hk h6
      have d4 := m_cmp (l := wd4) (v := 15558) (by decide) (by decide) (by decide) hk h6
      have d5 := m_cmp (l := wd5) (v := 12009107) (by decide) (by decide) (by decide) hk h6
      have d6 := m_cmp (l := wd6) (v := 139708581) (by decide) (by decide) (by decide) hk h6
      unfold f197
      rw [i72_13, m13, hk, if_neg (show ¬ ¬ nI 1 = 1 from fun z => z rfl), i72_15, m15, if_pos (show nI (tkE B n p - tkA B n p) ≤ 6 from nI_le (b := 6) h6 (by omega))]
      clear m13 m14 m12 m15 m16 m17
      rw [l72_17, w, sp_0, lf_cl_r]
      by_cases c0 : tkI wd0 B n p
      · rw [if_neg (fun z => z (d0.mpr c0)), show tkX B n p = 0 by unfold tkX; rw [if_pos c0], if_neg (by decide)]
        rfl
      rw [if_pos (fun z => c0 (d0.mp z))]
      rw [l72_17, w, sp_1, lf_cl_r]
      by_cases c1 : tkI wd1 B n p
      · rw [if_neg (fun z => z (d1.mpr c1)), show tkX B n p = 1 by unfold tkX; rw [if_neg c0, if_pos c1], if_neg (by decide)]
        rfl
      rw [if_pos (fun z => c1 (d1.mp z))]
      rw [l72_17, w, sp_2, lf_cl_r]
      by_cases c2 : tkI wd2 B n p
      · rw [if_neg (fun z => z (d2.mpr c2)), show tkX B n p = 2 by unfold tkX; rw [if_neg c0, if_neg c1, if_pos c2], if_neg (by decide)]
        rfl
      rw [if_pos (fun z => c2 (d2.mp z))]
      rw [l72_17, w, sp_3, lf_cl_r]
      by_cases c3 : tkI wd3 B n p
      · rw [if_neg (fun z => z (d3.mpr c3)), show tkX B n p = 3 by unfold tkX; rw [if_neg c0, if_neg c1, if_neg c2, if_pos c3], if_neg (by decide)]
        rfl
      rw [if_pos (fun z => c3 (d3.mp z))]
      rw [l72_17, w, sp_4, lf_cl_r]
      by_cases c4 : tkI wd4 B n p
      · rw [if_neg (fun z => z (d4.mpr c4)), show tkX B n p = 4 by unfold tkX; rw [if_neg c0, if_neg c1, if_neg c2, if_neg c3, if_pos c4], if_neg (by decide)]
        rfl
      rw [if_pos (fun z => c4 (d4.mp z))]
      rw [l72_17, w, sp_5, lf_cl_r]
      by_cases c5 : tkI wd5 B n p
      · rw [if_neg (fun z => z (d5.mpr c5)), show tkX B n p = 5 by unfold tkX; rw [if_neg c0, if_neg c1, if_neg c2, if_neg c3, if_neg c4, if_pos c5], if_neg (by decide)]
        rfl
      rw [if_pos (fun z => c5 (d5.mp z))]
      rw [l72_17, w, sp_6, lf_cl_r]
      by_cases c6 : tkI wd6 B n p
      · rw [if_neg (fun z => z (d6.mpr c6)), show tkX B n p = 6 by unfold tkX; rw [if_neg c0, if_neg c1, if_neg c2, if_neg c3, if_neg c4, if_neg c5, if_pos c6], if_neg (by decide)]
        rfl
      rw [if_pos (fun z => c6 (d6.mp z))]
      rw [show tkX B n p = 7 by unfold tkX; rw [if_neg c0, if_neg c1, if_neg c2, if_neg c3, if_neg c4, if_neg c5, if_neg c6], if_pos rfl]
    · have x7 : tkX B n p = 7 := by
        have z : ∀ l : List Nat, l.length ≤ 6 → ¬ tkI l B n p := fun l hl z => h6 (by have := z.2.1; omega)
        unfold tkX
        rw [if_neg (z wd0 (by decide)), if_neg (z wd1 (by decide)), if_neg (z wd2 (by decide)), if_neg (z wd3 (by decide)), if_neg (z wd4 (by decide)), if_neg (z wd5 (by decide)), if_neg (z wd6 (by decide))]
      unfold f197
      rw [i72_13, m13, hk, if_neg (show ¬ ¬ nI 1 = 1 from fun z => z rfl), i72_15, m15, if_neg (show ¬ nI (tkE B n p - tkA B n p) ≤ 6 from nI_ge (a := 6) (by omega) (by omega)), x7, if_pos rfl]
  · have x7 : tkX B n p = 7 := by
      by_cases c : tkX B n p < 7
      · exact absurd (tkX_K c) hk
      · have := tkX_le (B := B) (n := n) (p := p)
        omega
    have k4 := tkK_le (B := B) (n := n) (p := p)
    unfold f197
    rw [i72_13, m13, if_pos (show ¬ nI (tkK B n p) = 1 from fun z => hk ((nI_eq (b := 1) (by omega) (by omega)).mp z)), x7, if_pos rfl]
/-- whatever lies there, knownWord answers and changes nothing -/
theorem m_known_any : ∃ v : Int32, f197 N 72 (hp σ, cs) = some (.inl (some (.int v)), (hp σ, cs)) := by
  unfold f197
  rw [i72_13]
  by_cases c : ¬ σ.2.2.1 72 13 = 1
  · exact ⟨-1, by rw [if_pos c]⟩
  rw [if_neg c, i72_15]
  by_cases e : σ.2.2.1 72 15 ≤ 6
  · rw [if_pos e]
    rw [l72_17, sp_0, lf_cl_r]
    by_cases c0 : ¬ lg_cmp (σ.2.2.2 72 17) (lN 18935) = 0
    case neg => exact ⟨0, by rw [if_neg c0]⟩
    rw [if_pos c0]
    rw [l72_17, sp_1, lf_cl_r]
    by_cases c1 : ¬ lg_cmp (σ.2.2.2 72 17) (lN 599495) = 0
    case neg => exact ⟨1, by rw [if_neg c1]⟩
    rw [if_pos c1]
    rw [l72_17, sp_2, lf_cl_r]
    by_cases c2 : ¬ lg_cmp (σ.2.2.2 72 17) (lN 1420) = 0
    case neg => exact ⟨2, by rw [if_neg c2]⟩
    rw [if_pos c2]
    rw [l72_17, sp_3, lf_cl_r]
    by_cases c3 : ¬ lg_cmp (σ.2.2.2 72 17) (lN 643122) = 0
    case neg => exact ⟨3, by rw [if_neg c3]⟩
    rw [if_pos c3]
    rw [l72_17, sp_4, lf_cl_r]
    by_cases c4 : ¬ lg_cmp (σ.2.2.2 72 17) (lN 15558) = 0
    case neg => exact ⟨4, by rw [if_neg c4]⟩
    rw [if_pos c4]
    rw [l72_17, sp_5, lf_cl_r]
    by_cases c5 : ¬ lg_cmp (σ.2.2.2 72 17) (lN 12009107) = 0
    case neg => exact ⟨5, by rw [if_neg c5]⟩
    rw [if_pos c5]
    rw [l72_17, sp_6, lf_cl_r]
    by_cases c6 : ¬ lg_cmp (σ.2.2.2 72 17) (lN 139708581) = 0
    · exact ⟨-1, by rw [if_pos c6]⟩
    · exact ⟨6, by rw [if_neg c6]⟩
  · exact ⟨-1, by rw [if_neg e]⟩
/-- the class's isWord -/
theorem c_wl {T : Nat} {l : List Nat} (hl : lf_tl T = some (nI l.length)) (hc : ∀ i, i < l.length → lf_tc T (nI i) = some (nI (l.getD i 0))) (hs : l.length ≤ 6) (hb : ∀ i, i < l.length → l.getD i 0 < 256) (hB : TB B n) (hT : TC σ B n) (h9 : σ.2.2.1 20 9 = nI s) (hL : s + l.length ≤ n) : ∀ (m i u : Nat), i + m = l.length → m < u → g89_28 N u 20 T (nI i) (hp σ, cs) = some (.inl (some (.int (if ∀ k, k < m → B (s + (i + k)) = l.getD (i + k) 0 then 1 else 0))), (hp σ, cs)) := by
  have hn := hB.1
  intro m
  induction m with
  | zero =>
    intro i u hi hu
    obtain ⟨u, rfl⟩ : ∃ q, u = q + 1 := ⟨u - 1, by omega⟩
    unfold g89_28
    rw [hl, Option.bind_some, if_pos (nI_le (by omega) (by omega)), if_pos (fun k hk => absurd hk (Nat.not_lt_zero k))]
  | succ m ih =>
    intro i u hi hu
    obtain ⟨u, rfl⟩ : ∃ q, u = q + 1 := ⟨u - 1, by omega⟩
    have b1 := hB.2.1 (s + i)
    have b2 := hb i (by omega)
    unfold g89_28
    rw [hl, Option.bind_some, if_neg (nI_ge (by omega) (by omega)), r20_1, i20_9, h9, nI_add, a23 (by omega), hT.2 (s + i) (by omega), hc i (by omega), Option.bind_some]
    by_cases e : B (s + i) = l.getD i 0
    · have key : (∀ k, k < m + 1 → B (s + (i + k)) = l.getD (i + k) 0) ↔ (∀ k, k < m → B (s + (i + 1 + k)) = l.getD (i + 1 + k) 0) := by
        constructor
        · intro z k hk
          have := z (k + 1) (by omega)
          rw [show i + 1 + k = i + (k + 1) by omega]
          exact this
        · intro z k hk
          cases k with
          | zero => exact e
          | succ k =>
            have := z k (by omega)
            rw [show i + (k + 1) = i + 1 + k by omega]
            exact this
      rw [if_pos (show nI (B (s + i)) = nI (l.getD i 0) by rw [e]), nI_1, ih (i + 1) u (by omega) (by omega)]
      by_cases d : ∀ k, k < m → B (s + (i + 1 + k)) = l.getD (i + 1 + k) 0
      · rw [if_pos d, if_pos (key.mpr d)]
      · rw [if_neg d, if_neg (fun z => d (key.mp z))]
    · rw [if_neg (fun z => e ((nI_eq (by omega) (by omega)).mp z)), if_neg (fun z => e (z 0 (by omega)))]
theorem c_word {T : Nat} {l : List Nat} (hN : iv_N N) (hl : lf_tl T = some (nI l.length)) (hc : ∀ i, i < l.length → lf_tc T (nI i) = some (nI (l.getD i 0))) (hs : l.length ≤ 6) (hb : ∀ i, i < l.length → l.getD i 0 < 256) (hB : TB B n) (hT : TC σ B n) (hC : CT σ B n p) (hq : p ≤ n) : f89 N 20 T (hp σ, cs) = some (.inl (some (.int (if tkI l B n p then 1 else 0))), (hp σ, cs)) := by
  have hn := hB.1
  obtain ⟨c8, c9, c10, c11⟩ := hC
  have he := tkE_le (B := B) hq
  have k4 := tkK_le (B := B) (n := n) (p := p)
  unfold f89
  rw [i20_8, c8]
  by_cases hk : tkK B n p = 1
  · rw [if_neg (show ¬ ¬ nI (tkK B n p) = 1 from fun z => z ((nI_eq (b := 1) (by omega) (by omega)).mpr hk)), i20_10, i20_9, c9, c10, pk_sub he.1, hl, Option.bind_some]
    by_cases h : tkE B n p - tkA B n p = l.length
    · have hw := c_wl (N := N) (cs := cs) (σ := σ) (B := B) (n := n) (s := tkA B n p) hl hc hs hb hB hT c9 (by omega) l.length 0 N (by omega) (by unfold iv_N at hN; omega)
      rw [if_pos (by rw [h])]
      rw [show g89_28 N N 20 T 0 (hp σ, cs) = _ from hw]
      by_cases d : ∀ k, k < l.length → B (tkA B n p + (0 + k)) = l.getD (0 + k) 0
      · rw [if_pos d, if_pos ⟨hk, h, fun k hk => by have := d k hk; rw [Nat.zero_add] at this; exact this⟩]
      · rw [if_neg d, if_neg (fun z => d (fun k hk => by rw [Nat.zero_add]; exact z.2.2 k hk))]
    · rw [if_neg (fun z => h ((nI_eq (by omega) (by omega)).mp z)), if_neg (fun z => h z.2.1)]
  · rw [if_pos (show ¬ nI (tkK B n p) = 1 from fun z => hk ((nI_eq (b := 1) (by omega) (by omega)).mp z)), if_neg (fun z => hk z.1)]
theorem c_wd0 (hN : iv_N N) (hB : TB B n) (hT : TC σ B n) (hC : CT σ B n p) (hq : p ≤ n) : f89 N 20 1000006 (hp σ, cs) = some (.inl (some (.int (if tkI wd0 B n p then 1 else 0))), (hp σ, cs)) := c_word hN (by decide +kernel) (by decide +kernel) (by decide) (by decide) hB hT hC hq
theorem c_wd1 (hN : iv_N N) (hB : TB B n) (hT : TC σ B n) (hC : CT σ B n p) (hq : p ≤ n) : f89 N 20 1000005 (hp σ, cs) = some (.inl (some (.int (if tkI wd1 B n p then 1 else 0))), (hp σ, cs)) := c_word hN (by decide +kernel) (by decide +kernel) (by decide) (by decide) hB hT hC hq
theorem c_wd2 (hN : iv_N N) (hB : TB B n) (hT : TC σ B n) (hC : CT σ B n p) (hq : p ≤ n) : f89 N 20 1000001 (hp σ, cs) = some (.inl (some (.int (if tkI wd2 B n p then 1 else 0))), (hp σ, cs)) := c_word hN (by decide +kernel) (by decide +kernel) (by decide) (by decide) hB hT hC hq
theorem c_wd3 (hN : iv_N N) (hB : TB B n) (hT : TC σ B n) (hC : CT σ B n p) (hq : p ≤ n) : f89 N 20 1000007 (hp σ, cs) = some (.inl (some (.int (if tkI wd3 B n p then 1 else 0))), (hp σ, cs)) := c_word hN (by decide +kernel) (by decide +kernel) (by decide) (by decide) hB hT hC hq
theorem c_wd4 (hN : iv_N N) (hB : TB B n) (hT : TC σ B n) (hC : CT σ B n p) (hq : p ≤ n) : f89 N 20 1000004 (hp σ, cs) = some (.inl (some (.int (if tkI wd4 B n p then 1 else 0))), (hp σ, cs)) := c_word hN (by decide +kernel) (by decide +kernel) (by decide) (by decide) hB hT hC hq
theorem c_wd5 (hN : iv_N N) (hB : TB B n) (hT : TC σ B n) (hC : CT σ B n p) (hq : p ≤ n) : f89 N 20 1000003 (hp σ, cs) = some (.inl (some (.int (if tkI wd5 B n p then 1 else 0))), (hp σ, cs)) := c_word hN (by decide +kernel) (by decide +kernel) (by decide) (by decide) hB hT hC hq
theorem c_wd6 (hN : iv_N N) (hB : TB B n) (hT : TC σ B n) (hC : CT σ B n p) (hq : p ≤ n) : f89 N 20 1000002 (hp σ, cs) = some (.inl (some (.int (if tkI wd6 B n p then 1 else 0))), (hp σ, cs)) := c_word hN (by decide +kernel) (by decide +kernel) (by decide) (by decide) hB hT hC hq
end RDG
