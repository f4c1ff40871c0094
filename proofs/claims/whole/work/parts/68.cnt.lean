def iv_cnt (f : Nat → Int32) : Nat → Nat → Int32 → Int32
  | _, 0, acc => acc
  | k, m + 1, acc => iv_cnt f (k + 1) m (acc + if f k ≤ 0 then 0 else 1)
theorem iv_cnt_congr {f g : Nat → Int32} : ∀ (m k : Nat) (acc : Int32), k + m = 8 → (∀ j, j < 8 → f j = g j) → iv_cnt f k m acc = iv_cnt g k m acc
  | 0, _, _, _, _ => rfl
  | m + 1, k, acc, h, e => by
    unfold iv_cnt
    rw [e k (by omega)]
    exact iv_cnt_congr m (k + 1) _ (by omega) e
section CT
variable {σ : hp_S} {cs : Nat × Nat} {N : Nat} {x : Int32}
theorem c_count_loop : ∀ (m k n : Nat) (acc : Int32), k + m = 8 → m < n → g167_34 N n 0 acc (nI k) (hp σ, cs) = some (.inl (some (.int (iv_cnt (fun s => σ.2.2.1 (2 + 2 * s) 1) k m acc))), (hp σ, cs)) := by
  intro m
  induction m with
  | zero =>
    intro k n acc hk hn
    obtain ⟨n, rfl⟩ : ∃ q, n = q + 1 := ⟨n - 1, by omega⟩
    unfold g167_34
    rw [show k = 8 by omega, if_pos (show (8 : Int32) ≤ nI 8 by decide)]
    rfl
  | succ m ih =>
    intro k n acc hk hn
    obtain ⟨n, rfl⟩ : ∃ q, n = q + 1 := ⟨n - 1, by omega⟩
    have hk8 : k < 8 := by omega
    unfold g167_34 iv_cnt
    rw [if_neg (show ¬ (8 : Int32) ≤ nI k from nI_ge (b := 8) hk8 (by omega)), c_slots, Option.bind_some, c_slot hk8, Option.bind_some, c_kn hk8, Option.bind_some]
    unfold g167_58
    rw [nI_1]
    by_cases h : σ.2.2.1 (2 + 2 * k) 1 ≤ 0
    · rw [if_pos h, if_pos h]
      exact ih (k + 1) n _ (by omega) (by omega)
    · rw [if_neg h, if_neg h]
      exact ih (k + 1) n _ (by omega) (by omega)
theorem m_count_loop : ∀ (m k n : Nat) (acc : Int32), k + m = 8 → m < n → g290_33 N n 72 x acc (nI k) (hp σ, cs) = some (.inl (some (.int (if ¬ x = 0 then σ.2.2.1 72 8 else iv_cnt (σ.1 73) k m acc))), (hp σ, cs)) := by
  intro m
  induction m with
  | zero =>
    intro k n acc hk hn
    obtain ⟨n, rfl⟩ : ∃ q, n = q + 1 := ⟨n - 1, by omega⟩
    unfold g290_33
    rw [show k = 8 by omega, if_pos (show (8 : Int32) ≤ nI 8 by decide), hp_fi (a := 72) (k := 8) rfl rfl, Option.bind_some]
    by_cases h : x = 0
    · rw [if_neg (fun q => q h), if_neg (fun q => q h)]
      rfl
    · rw [if_pos h, if_pos h]
  | succ m ih =>
    intro k n acc hk hn
    obtain ⟨n, rfl⟩ : ∃ q, n = q + 1 := ⟨n - 1, by omega⟩
    have hk8 : k < 8 := by omega
    unfold g290_33 iv_cnt
    rw [if_neg (show ¬ (8 : Int32) ≤ nI k from nI_ge (b := 8) hk8 (by omega)), hp_fr (a := 72) (k := 1) (b := 73) rfl rfl, Option.bind_some, hp_ri (a := 73) (n := 8) rfl (in_nI hk8 (by omega)), Option.bind_some, nI_clamp (by omega)]
    unfold g290_54
    rw [nI_1]
    by_cases h : σ.1 73 k ≤ 0
    · rw [if_pos h, if_pos h]
      exact ih (k + 1) n _ (by omega) (by omega)
    · rw [if_neg h, if_neg h]
      exact ih (k + 1) n _ (by omega) (by omega)
end CT
/-- case 37: count -/
theorem case_count {J : iv_J} {rd : iv_rd} : iv_case J rd g327_2836 := by
  intro sc i σ cs hs hi hI
  have key : ∃ (τ : hp_S) (ds : Nat × Nat), iv J τ ∧ ds.1 ≤ cs.1 + 1 ∧ ds.2 ≤ cs.2 + 6 ∧ ∀ N, iv_N N → ∀ k : lf_W → lf_R, tl_I (tc_I [("java/util/NoSuchElementException", 1)] (f167 N 0 (sc.2 (i + 1)) (hp σ, cs))) (fun w => f290 N 72 (sc.2 (i + 1)) w) k = k (hp τ, ds) := by
    refine iv_askI hI ?_
    generalize sc.2 (i + 1) = x
    by_cases h0 : x = 0
    · subst h0
      refine Or.inl ⟨iv_cnt (fun s => σ.2.2.1 (2 + 2 * s) 1) 0 8 0, σ, iv_kept.rf σ, fun N hN => ?_, fun σ' hI' hk => ⟨hp_wf σ' 72 0 0, iv_k0, rfl, hp_wf_at, fun N hN => ?_⟩⟩
      · unfold f167
        rw [if_neg (by decide), if_pos (by decide), if_pos (by decide)]
        exact c_count_loop 8 0 N 0 rfl (by unfold iv_N at hN; omega)
      · unfold f290 g290_15 g290_20
        rw [m_w0, Option.bind_some, if_pos rfl, if_pos hp_m, m_rt hp_wf_at (by decide), lf_ci_r, if_pos (by decide)]
        have e := m_count_loop (σ := hp_wf σ' 72 0 0) (cs := cs) (N := N) (x := 0) 8 0 N 0 rfl (by unfold iv_N at hN; omega)
        rw [if_neg (fun q => q rfl)] at e
        refine Eq.trans e ?_
        rw [iv_cnt_congr (f := (hp_wf σ' 72 0 0).1 73) (g := fun s => σ.2.2.1 (2 + 2 * s) 1) 8 0 0 rfl (fun j hj => ?_)]
        show σ'.1 73 j = _
        rw [hk.1 73 (by omega)]
        exact (hI.1 j hj).1.symm
    · by_cases h1 : x = 1
      · subst h1
        obtain ⟨t, t1, t2, t3, -⟩ := hI.2.1
        refine Or.inl ⟨σ.2.2.1 20 5, σ, iv_kept.rf σ, fun N hN => ?_, fun σ' hI' hk => ⟨hp_wf σ' 72 0 0, iv_k0, rfl, hp_wf_at, fun N hN => ?_⟩⟩
        · unfold f167
          rw [if_neg (by decide), if_pos (by decide), if_neg (fun q => q rfl), hp_fr (a := 0) (b := 20) rfl rfl, Option.bind_some, hp_fi (a := 20) rfl rfl, Option.bind_some]
        · unfold f290 g290_15 g290_20
          rw [m_w0, Option.bind_some, if_neg (by decide), if_neg (fun q => q rfl), if_pos hp_m, m_rt hp_wf_at (by decide), lf_ci_r, if_pos (by decide)]
          have e := m_count_loop (σ := hp_wf σ' 72 0 0) (cs := cs) (N := N) (x := 1) 8 0 N 0 rfl (by unfold iv_N at hN; omega)
          rw [if_pos (by decide), hp_wf_ne (by decide), hk.2.2.2.2.2.2.2.1 8 (by omega), t3, ← t2] at e
          exact e
      · refine Or.inr ⟨"java/util/NoSuchElementException", 1, σ, iv_kept.rf σ, by decide, rfl, fun N _ => ?_, fun σ' ds hI' hk => ⟨hp_wf (hp_wf σ' 72 0 0) 72 0 1, 0, iv_k0.tr iv_k0, hp_wf_at, fun N _ => ?_⟩⟩
        · unfold f167
          by_cases q1 : x < 0
          · rw [if_pos q1]
          · rw [if_neg q1, if_neg (fun q2 => ?_)]
            rcases pk_ix x (n := 2) (by omega) with q | q | ⟨j, hj, rfl⟩
            · exact q1 q
            · rw [fa_le, nI_toInt (by omega)] at q
              rw [fa_le] at q2
              have : (1 : Int32).toInt = 1 := rfl
              omega
            · rcases (show j = 0 ∨ j = 1 by omega) with rfl | rfl
              · exact h0 rfl
              · exact h1 rfl
        · unfold f290 g290_20
          rw [m_w0, Option.bind_some, if_neg h0, if_pos h1, if_pos hp_m, m_rf hp_wf_at (by decide), lf_ci_r, if_neg (fun q => q rfl)]
  obtain ⟨τ, ds, q1, q2, q3, q4⟩ := key
  refine ⟨τ, ds, q1, q2, q3, fun N hN k23 => ?_⟩
  rw [← q4 N hN (k23 (nI i + 6))]
  unfold g327_2836 h326 f326
  simp only [iv_s1 hs hi, Option.bind_some, if_pos hp_x]
  rfl
/-! bound: both loops are plain functions of two small numbers -/
def bdC : Nat → Int32 → Int32 → Int64 → Int64 → Int32 → Option Int32
  | 0, _, _, _, _, _ => none
  | n + 1, d, k, x3, x5, x7 => if k ≤ x7 then some (lf_lmin x3 1000000000).toInt32 else if 0 ≤ lg_cmp x3 1000000000 then some (lf_lmin x3 1000000000).toInt32 else bdC n d k (x3 + x5) (x5 * (d - 1).toInt64) (x7 + 1)
def bdM : Nat → Int32 → Int32 → Int64 → Int64 → Int32 → Option Int32
  | 0, _, _, _, _, _ => none
  | n + 1, d, k, x3, x5, x7 => if k ≤ x7 then some x3.toInt32 else bdM n d k (if lg_cmp (x3 + x5) 1000000000 ≤ 0 then x3 + x5 else 1000000000) (if lg_cmp (x5 * (d - 1).toInt64) 1000000000 ≤ 0 then x5 * (d - 1).toInt64 else 1000000000) (x7 + 1)
theorem bdC_ok {N : Nat} {d k : Int32} {w : lf_W} : ∀ (n q : Nat) (x3 x5 : Int64) (x7 v : Int32), n ≤ q → bdC n d k x3 x5 x7 = some v → g153_38 N q d k x3 x5 x7 w = some (.inl (some (.int v)), w) := by
  intro n
  induction n with
  | zero => intro q x3 x5 x7 v _ h; cases h
  | succ n ih =>
    intro q x3 x5 x7 v hq h
    obtain ⟨q, rfl⟩ : ∃ u, q = u + 1 := ⟨q - 1, by omega⟩
    unfold bdC at h
    unfold g153_38 g153_72
    by_cases c1 : k ≤ x7
    · rw [if_pos c1] at h ⊢
      cases h
      rfl
    · rw [if_neg c1] at h ⊢
      by_cases c2 : 0 ≤ lg_cmp x3 1000000000
      · rw [if_pos c2] at h ⊢
        cases h
        rfl
      · rw [if_neg c2] at h ⊢
        exact ih q _ _ _ _ (by omega) h
theorem bdM_ok {N : Nat} {d k : Int32} {w : lf_W} : ∀ (n q : Nat) (x3 x5 : Int64) (x7 v : Int32), n ≤ q → bdM n d k x3 x5 x7 = some v → g255_49 N q d k x3 x5 x7 w = some (.inl (some (.int v)), w) := by
  intro n
  induction n with
  | zero => intro q x3 x5 x7 v _ h; cases h
  | succ n ih =>
    intro q x3 x5 x7 v hq h
    obtain ⟨q, rfl⟩ : ∃ u, q = u + 1 := ⟨q - 1, by omega⟩
    unfold bdM at h
    unfold g255_49 g255_84 g255_102
    by_cases c1 : k ≤ x7
    · rw [if_pos c1] at h ⊢
      cases h
      rfl
    · rw [if_neg c1] at h ⊢
      by_cases c2 : lg_cmp (x3 + x5) 1000000000 ≤ 0
      · rw [if_pos c2] at h ⊢
        by_cases c3 : lg_cmp (x5 * (d - 1).toInt64) 1000000000 ≤ 0
        · rw [if_pos c3] at h ⊢
          exact ih q _ _ _ _ (by omega) h
        · rw [if_neg c3] at h ⊢
          exact ih q _ _ _ _ (by omega) h
      · rw [if_neg c2] at h ⊢
        by_cases c3 : lg_cmp (x5 * (d - 1).toInt64) 1000000000 ≤ 0
        · rw [if_pos c3] at h ⊢
          exact ih q _ _ _ _ (by omega) h
        · rw [if_neg c3] at h ⊢
          exact ih q _ _ _ _ (by omega) h
theorem bd_all : ∀ d, d < 8 → ∀ k, k < 25 → (bdC 30 (nI (d + 1)) (nI k) 1 (nI (d + 1)).toInt64 0).isSome = true ∧ bdC 30 (nI (d + 1)) (nI k) 1 (nI (d + 1)).toInt64 0 = bdM 30 (nI (d + 1)) (nI k) 1 (nI (d + 1)).toInt64 0 := by decide +kernel
