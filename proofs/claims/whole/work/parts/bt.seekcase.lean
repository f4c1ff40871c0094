/-! case seek -/
theorem n_askJ {J : iv_J} {σ : hp_S} {cs : Nat × Nat} {rC : lf_R} {F : lf_W → lf_R} {c : List (String × Int32)} (hI : iv J σ)
    (H : (∃ (v : Int32) (σ1 : hp_S), iv_kept σ σ1 ∧ rC = some (.inl (some (.int v)), (hp σ1, cs)) ∧ ∀ σ', iv J σ' → iv_kept σ σ' → ∃ τ, iv J τ ∧ τ.2.1 117 = σ'.2.1 117 ∧ τ.2.2.1 72 0 = 0 ∧ F (hp σ', cs) = some (.inl (some (.int v)), (hp τ, cs)))
      ∨ ∃ (E : String) (x : Int32) (σ1 : hp_S), iv_kept σ σ1 ∧ ¬ x = 0 ∧ c.find? (fun q => decide (q.1 = E)) = some (E, x) ∧ rC = lf_thr E (hp σ1, cs) ∧ ∀ σ' (ds : Nat × Nat), iv J σ' → iv_kept σ σ' → ∃ (τ : hp_S) (b : Int32), iv J τ ∧ τ.2.2.1 72 0 = x ∧ F (hp σ', ds) = some (.inl (some (.int b)), (hp τ, ds))) :
    ∃ (τ : hp_S) (ds : Nat × Nat), iv J τ ∧ ds.1 ≤ cs.1 + 1 ∧ ds.2 ≤ cs.2 + 6 ∧ ∀ k : lf_W → lf_R, tl_I (tc_I c rC) F k = k (hp τ, ds) := by
  rcases H with ⟨v, σ1, h1, h2, h3⟩ | ⟨E, x, σ1, h1, h2, h3, h4, h5⟩
  · obtain ⟨τ, q1, q2, q3, q4⟩ := h3 (hp_wl σ1 117 0 v.toInt64) (hI.kept (h1.tr iv_kept.wl)) (h1.tr iv_kept.wl)
    refine ⟨τ, cs, q1, Nat.le_add_right _ _, Nat.le_add_right _ _, fun k => ?_⟩
    exact tl_I_ok (tc_I_ret h2) q4 q3 (fun _ => by rw [q2, tl_wl_at])
  · obtain ⟨τ, b, q1, q2, q3⟩ := h5 σ1 (cs.1 + 1, cs.2 + 6) (hI.kept h1) h1
    refine ⟨τ, (cs.1 + 1, cs.2 + 6), q1, Nat.le_refl _, Nat.le_refl _, fun k => ?_⟩
    exact tl_I_ok (tc_I_thr h4 h3) q3 q2 (fun h0 => absurd h0 h2)
def atS (K a b d : Nat) : Nat := 9 * (25 * (25 * K + a) + b) + d
theorem atS_lt {K a b d : Nat} (h : gok K a b) (hd : d ≤ 8) : atS K a b d < 11250 := by
  have hb := gok_b h
  have hK : K ≤ 1 := by rcases h.2.2.2 with z | z <;> omega
  unfold atS
  omega
theorem atS_inj {K a b d K' a' b' d' : Nat} (h : gok K a b) (hd : d ≤ 8) (h' : gok K' a' b') (hd' : d' ≤ 8) (e : atS K a b d = atS K' a' b' d') : K = K' ∧ a = a' ∧ b = b' ∧ d = d' := by
  have hb := gok_b h
  have hb' := gok_b h'
  unfold atS at e
  omega
/-- what the model remembers of seek -/
def jS (c : Nat → Nat → Int32) : Prop := ∀ K a b d, gok K a b → 1 ≤ d → d ≤ 8 → c 90 (atS K a b d) = 0 ∨ c 90 (atS K a b d) = skA K a b d + 2
theorem jS_w {c : Nat → Nat → Int32} {K a b d : Nat} (h : jS c) (hk : gok K a b) (hd : d ≤ 8) : jS (hp_up c 90 (atS K a b d) (skA K a b d + 2)) := by
  intro K' a' b' d' hk' h1' hd'
  unfold hp_up
  by_cases e : atS K' a' b' d' = atS K a b d
  · obtain ⟨rfl, rfl, rfl, rfl⟩ := atS_inj hk' hd' hk hd e
    exact Or.inr (if_pos ⟨rfl, rfl⟩)
  · rw [if_neg (fun z => e z.2)]
    exact h K' a' b' d' hk' h1' hd'
theorem iv_w90 {J : iv_J} {σ : hp_S} {i : Nat} {x : Int32} (h : iv J σ) (hJ : J (hp_up (iv_cs σ) 90 i x)) : iv J (hp_wi σ 90 i x) := by
  obtain ⟨h1, h2, h3, h4, h5, h6, h7, h8⟩ := h
  refine ⟨h1.fr (fun s hs => ⟨rfl, rfl, hp_wi_ne (by omega)⟩) (hp_wi_ne (by decide)) (hp_wi_ne (by decide)) (hp_wi_ne (by decide)), h2.fr rfl rfl (hp_wi_ne (by decide)) (hp_wi_ne (by decide)), h3.fr rfl rfl, h4.fr (fun _ _ => rfl) (fun _ _ _ => rfl), h5.fr rfl rfl (hp_wi_ne (by decide)) (hp_wi_ne (by decide)), h6.fr rfl rfl (hp_wi_ne (by decide)) (hp_wi_ne (by decide)), ?_, h8⟩
  have e : iv_cs (hp_wi σ 90 i x) = hp_up (iv_cs σ) 90 i x := by
    funext r j
    show (if r = 45 ∨ r = 46 ∨ r = 47 ∨ r = 90 ∨ r = 99 ∨ r = 100 ∨ r = 101 ∨ r = 102 ∨ r = 116 then (hp_wi σ 90 i x).1 r else fun _ => 0) j = (if r = 90 ∧ j = i then x else (if r = 45 ∨ r = 46 ∨ r = 47 ∨ r = 90 ∨ r = 99 ∨ r = 100 ∨ r = 101 ∨ r = 102 ∨ r = 116 then σ.1 r else fun _ => 0) j)
    by_cases c : r = 90
    · subst c
      have hd : (90 = 45 ∨ 90 = 46 ∨ 90 = 47 ∨ 90 = 90 ∨ 90 = 99 ∨ 90 = 100 ∨ 90 = 101 ∨ 90 = 102 ∨ 90 = 116) := by decide
      rw [if_pos hd, if_pos hd]
      by_cases e : j = i
      · rw [e, hp_wi_at, if_pos ⟨rfl, rfl⟩]
      · rw [hp_wi_nj e, if_neg (fun z => e z.2)]
    · by_cases d : r = 45 ∨ r = 46 ∨ r = 47 ∨ r = 90 ∨ r = 99 ∨ r = 100 ∨ r = 101 ∨ r = 102 ∨ r = 116
      · rw [if_pos d, if_pos d, hp_wi_ne c, if_neg (fun z => c z.1)]
      · rw [if_neg d, if_neg d, if_neg (fun z => c z.1)]
  rw [e]
  exact hJ
theorem case_seek {J : iv_J} {rd : iv_rd} {N : Nat} (hN : iv_N N) (hJ1 : ∀ c, J c → jS c) (hJ2 : ∀ c i x, J c → jS (hp_up c 90 i x) → J (hp_up c 90 i x)) : iv_caseN J rd N g327_1661 := by
  intro sc i σ cs hs hi hI
  have key : ∃ (τ : hp_S) (ds : Nat × Nat), iv J τ ∧ ds.1 ≤ cs.1 + 1 ∧ ds.2 ≤ cs.2 + 6 ∧ ∀ k : lf_W → lf_R, tl_I (tc_I [("java/lang/IllegalArgumentException", 1)] (f150 N 0 (sc.2 (i + 1)) (sc.2 (i + 2)) (sc.2 (i + 3)) (sc.2 (i + 4)) (hp σ, cs))) (fun w => f245 N 72 (sc.2 (i + 1)) (sc.2 (i + 2)) (sc.2 (i + 3)) (sc.2 (i + 4)) w) k = k (hp τ, ds) := by
    generalize sc.2 (i + 1) = k
    generalize sc.2 (i + 2) = a
    generalize sc.2 (i + 3) = b
    generalize sc.2 (i + 4) = d
    refine n_askJ hI ?_
    have hdeg : (d < 1 ∨ 8 < d) ∨ ∃ D, 1 ≤ D ∧ D ≤ 8 ∧ d = nI D := by
      rcases pk_ix d (n := 9) (by omega) with z | z | ⟨D, hD, rfl⟩
      · refine Or.inl (Or.inl ?_)
        rw [fa_lt] at *
        have : (1 : Int32).toInt = 1 := rfl
        have : (0 : Int32).toInt = 0 := rfl
        omega
      · refine Or.inl (Or.inr ?_)
        rw [fa_le] at z
        rw [fa_lt]
        have : (8 : Int32).toInt = 8 := rfl
        have : (nI 9).toInt = 9 := rfl
        omega
      · by_cases c : D = 0
        · subst c
          exact Or.inl (Or.inl (by decide))
        · exact Or.inr ⟨D, by omega, by omega, rfl⟩
    have mno : ∀ (σ' : hp_S) (ds : Nat × Nat), iv J σ' → (¬ ((∃ K A B, gok K A B ∧ k = nI K ∧ a = nI A ∧ b = nI B) ∧ ∃ D, 1 ≤ D ∧ D ≤ 8 ∧ d = nI D)) → ∃ (τ : hp_S) (b' : Int32), iv J τ ∧ τ.2.2.1 72 0 = 1 ∧ f245 N 72 k a b d (hp σ', ds) = some (.inl (some (.int b')), (hp τ, ds)) := by
      intro σ' ds hI' hno
      have e30 : g245_30 N 72 k a b d 72 (hp (hp_wf σ' 72 0 0), ds) = some (.inl (some (.int 0)), (hp (hp_wf (hp_wf σ' 72 0 0) 72 0 1), ds)) := by
        unfold g245_30 g245_31
        rw [o72, m_rf hp_wf_at (by decide), lf_ci_r, if_neg (fun z => z rfl)]
      refine ⟨hp_wf (hp_wf σ' 72 0 0) 72 0 1, 0, (hI'.kept iv_k0).kept iv_k0, hp_wf_at, ?_⟩
      unfold f245
      rw [w72_0]
      rcases grp_or k a b with ⟨K, A, B, hk, rfl, rfl, rfl⟩ | h
      · rw [m_choose hk, lf_ci_r, if_neg (by decide)]
        rcases hdeg with z | z
        · rcases z with z | z
          · rw [m_within_lo z, lf_ci_r, if_pos rfl, e30]
          · rw [m_within_hi z, lf_ci_r, if_pos rfl, e30]
        · exact absurd ⟨⟨K, A, B, hk, rfl, rfl, rfl⟩, z⟩ hno
      · rw [(h N (hp_wf σ' 72 0 0) ds).2, lf_ci_r, if_pos rfl, e30]
    by_cases hall : (∃ K A B, gok K A B ∧ k = nI K ∧ a = nI A ∧ b = nI B) ∧ ∃ D, 1 ≤ D ∧ D ≤ 8 ∧ d = nI D
    · obtain ⟨⟨K, A, B, hk, rfl, rfl, rfl⟩, D, hD1, hD8, rfl⟩ := hall
      have wg : fr [] [(25, 0), (25, 1), (25, 2)] σ (gch σ K A B) := ((fr.wf (k := 0) (by decide)).tr (fr.wf (k := 1) (by decide))).tr (fr.wf (k := 2) (by decide))
      have kg : iv_kept σ (gch σ K A B) := wg.kept rfl rfl
      have h3 : gF3 (gch σ K A B) K A B := ⟨by unfold gch; rw [hp_wf_ne (by decide), hp_wf_ne (by decide), hp_wf_at], by unfold gch; rw [hp_wf_ne (by decide), hp_wf_at], by unfold gch; rw [hp_wf_at]⟩
      obtain ⟨τ, t1, t2⟩ := c_seek (N := N) (cs := cs) (deg := D) hk hN hD8 h3
      have hlo : ¬ nI D < 1 := nI_nlt (a := D) (b := 1) (by omega) (by omega)
      have hhi : ¬ 8 < nI D := nI_nlt (b := D) (a := 8) (by omega) (by omega)
      refine Or.inl ⟨skA K A B D, τ, kg.tr (t1.kept rfl rfl), ?_, fun σ' hI' hk' => ?_⟩
      · unfold f150
        rw [if_neg hlo, if_neg hhi, r0_3, o25, c_choose hk, lf_ci_r, if_pos (by decide), r0_3, o25, t2, lf_ci_r]
      · have hlt := atS_lt hk hD8
        have e31 : f245 N 72 (nI K) (nI A) (nI B) (nI D) (hp σ', cs) = g245_31 N 72 (nI K) (nI A) (nI B) (nI D) 1 72 (hp (hp_wf σ' 72 0 0), cs) := by
          unfold f245
          rw [w72_0, m_choose hk, lf_ci_r, if_neg (by decide), m_within_in hlo hhi, lf_ci_r, if_neg (by decide)]
        have eat : (9 : Int32) * (25 * (25 * nI K + nI A) + nI B) + nI D = nI (atS K A B D) := by
          unfold atS
          rw [show (25 : Int32) = nI 25 from rfl, show (9 : Int32) = nI 9 from rfl, pk_mul, nI_add, pk_mul, nI_add, pk_mul, nI_add]
        have hI0 : iv J (hp_wf σ' 72 0 0) := hI'.kept iv_k0
        have hj := hJ1 _ hI0.2.2.2.2.2.2.1 K A B D hk hD1 hD8
        have e90 : iv_cs (hp_wf σ' 72 0 0) 90 (atS K A B D) = (hp_wf σ' 72 0 0).1 90 (atS K A B D) := by
          unfold iv_cs
          rw [if_pos (by decide)]
        rw [e90] at hj
        have esub : skA K A B D + 2 - 2 = skA K A B D := Int32.add_sub_cancel _ _
        by_cases c0 : (hp_wf σ' 72 0 0).1 90 (atS K A B D) = 0
        · obtain ⟨υ, v1, v2⟩ := m_seeks (N := N) (cs := cs) (σ := hp_wf σ' 72 0 0) (deg := D) hk hN hD8
          have hIu : iv J υ := hI0.kept (v1.kept rfl rfl)
          refine ⟨hp_wi υ 90 (atS K A B D) (skA K A B D + 2), iv_w90 hIu (hJ2 _ _ _ hIu.2.2.2.2.2.2.1 (jS_w (hJ1 _ hIu.2.2.2.2.2.2.1) hk hD8)), v1.l (by decide), by show υ.2.2.1 72 0 = 0; rw [v1.f (by decide), hp_wf_at], ?_⟩
          show f245 N 72 (nI K) (nI A) (nI B) (nI D) (hp σ', cs) = _
          rw [e31]
          unfold g245_31 g245_87
          rw [o72, m_rt hp_wf_at (by decide), lf_ci_r, if_pos (by decide), r72_35, eat, a90 hlt, c0, if_neg (fun z => z rfl), r72_35, o72, v2, lf_ci_r, b90 hlt, r72_35, a90 hlt, hp_wi_at, esub]
        · have c1 := hj.resolve_left c0
          refine ⟨hp_wf σ' 72 0 0, hI0, rfl, hp_wf_at, ?_⟩
          show f245 N 72 (nI K) (nI A) (nI B) (nI D) (hp σ', cs) = _
          rw [e31]
          unfold g245_31 g245_87
          rw [o72, m_rt hp_wf_at (by decide), lf_ci_r, if_pos (by decide), r72_35, eat, a90 hlt, if_pos c0, r72_35, a90 hlt, c1, esub]
    · refine Or.inr ⟨"java/lang/IllegalArgumentException", 1, ?_⟩
      rcases hdeg with z | z
      · refine ⟨σ, iv_kept.rf σ, by decide, rfl, ?_, fun σ' ds hI' _ => mno σ' ds hI' hall⟩
        unfold f150
        rcases z with z | z
        · rw [if_pos z]
        · by_cases y : d < 1
          · rw [if_pos y]
          · rw [if_neg y, if_pos z]
      · obtain ⟨D, hD1, hD8, rfl⟩ := z
        rcases grp_or k a b with ⟨K, A, B, hk, rfl, rfl, rfl⟩ | h
        · exact absurd ⟨⟨K, A, B, hk, rfl, rfl, rfl⟩, D, hD1, hD8, rfl⟩ hall
        · refine ⟨σ, iv_kept.rf σ, by decide, rfl, ?_, fun σ' ds hI' _ => mno σ' ds hI' hall⟩
          unfold f150
          rw [if_neg (show ¬ nI D < 1 from nI_nlt (a := D) (b := 1) (by omega) (by omega)), if_neg (show ¬ 8 < nI D from nI_nlt (a := 8) (b := D) (by omega) (by omega)), r0_3, o25, (h N σ cs).1, lf_ci_r, if_neg (fun z => z rfl)]
  obtain ⟨τ, ds, q1, q2, q3, q4⟩ := key
  refine ⟨τ, ds, q1, q2, q3, fun k23 => ?_⟩
  rw [← q4 (k23 (nI i + 6))]
  unfold g327_1661 h309 f309
  simp only [iv_s1 hs hi, iv_s2 hs hi, iv_s3 hs hi, iv_s4 hs hi, Option.bind_some, if_pos hp_x]
  rfl
