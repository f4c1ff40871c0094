/-! slots and nets on both sides -/
def hp_fill (σ : hp_S) (a k : Nat) (g : Nat → Int32) : hp_S := ((fun b j => if b = a ∧ j < k then g j else σ.1 b j), σ.2)
theorem hp_fill_0 {σ : hp_S} {a : Nat} {g : Nat → Int32} : hp_fill σ a 0 g = σ := by
  unfold hp_fill
  congr 1
  funext b j
  rw [if_neg (fun q => Nat.not_lt_zero _ q.2)]
theorem hp_fill_s {σ : hp_S} {a k : Nat} {g : Nat → Int32} : hp_wi (hp_fill σ a k g) a k (g k) = hp_fill σ a (k + 1) g := by
  unfold hp_wi hp_fill
  simp only
  congr 1
  funext b j
  unfold hp_up
  by_cases h : b = a ∧ j = k
  · rw [if_pos h, if_pos ⟨h.1, by omega⟩, h.2]
  · rw [if_neg h]
    show (if b = a ∧ j < k then g j else σ.1 b j) = _
    by_cases h2 : b = a ∧ j < k
    · rw [if_pos h2, if_pos ⟨h2.1, by omega⟩]
    · rw [if_neg h2, if_neg (fun q => by
        rcases Nat.lt_or_ge j k with q2 | q2
        · exact h2 ⟨q.1, q2⟩
        · exact h ⟨q.1, by omega⟩)]
theorem hp_fill_ne {σ : hp_S} {a b k : Nat} {g : Nat → Int32} (h : b ≠ a) : (hp_fill σ a k g).1 b = σ.1 b := by
  funext j
  show (if b = a ∧ j < k then g j else σ.1 b j) = _
  rw [if_neg (fun q => h q.1)]
theorem hp_fill_at {σ : hp_S} {a k j : Nat} {g : Nat → Int32} (h : j < k) : (hp_fill σ a k g).1 a j = g j := by
  show (if a = a ∧ j < k then g j else σ.1 a j) = _
  rw [if_pos ⟨rfl, h⟩]
theorem lay_net {s : Nat} (h : s < 8) : hp_lay[2 + 2 * s]? = some (4, 5, [], [.ref (3 + 2 * s), .int 0, .int 0]) := by
  rcases (show s = 0 ∨ s = 1 ∨ s = 2 ∨ s = 3 ∨ s = 4 ∨ s = 5 ∨ s = 6 ∨ s = 7 by omega) with rfl | rfl | rfl | rfl | rfl | rfl | rfl | rfl <;> rfl
theorem lay_row {s : Nat} (h : s < 8) : hp_lay[3 + 2 * s]? = some (0, 24, [], []) := by
  rcases (show s = 0 ∨ s = 1 ∨ s = 2 ∨ s = 3 ∨ s = 4 ∨ s = 5 ∨ s = 6 ∨ s = 7 by omega) with rfl | rfl | rfl | rfl | rfl | rfl | rfl | rfl <;> rfl
theorem in_nI {j n : Nat} (h : j < n) (hn : n < 2 ^ 31) : pm_in (nI j) n = true := pm_in_iff.mpr (vp_in_nI h hn)
section SL
variable {σ : hp_S} {cs : Nat × Nat} {N s : Nat} {x : Int32}
theorem c_slot (h : s < 8) : lf_ra (hp σ, cs) 1 (nI s) = some (2 + 2 * s) := by
  refine hp_ra (a := 1) (n := 8) (rs := [some 2, some 4, some 6, some 8, some 10, some 12, some 14, some 16]) (tp := []) rfl (in_nI (n := 8) h (by omega)) ?_
  rw [nI_clamp (by omega)]
  rcases (show s = 0 ∨ s = 1 ∨ s = 2 ∨ s = 3 ∨ s = 4 ∨ s = 5 ∨ s = 6 ∨ s = 7 by omega) with rfl | rfl | rfl | rfl | rfl | rfl | rfl | rfl <;> rfl
theorem c_slots : lf_fr (hp σ, cs) 0 11 0 = some 1 := hp_fr (a := 0) rfl rfl
theorem c_kn (h : s < 8) : lf_fi (hp σ, cs) (2 + 2 * s) 5 1 = some (σ.2.2.1 (2 + 2 * s) 1) := hp_fi (lay_net h) rfl
theorem c_dg (h : s < 8) : lf_fi (hp σ, cs) (2 + 2 * s) 5 2 = some (σ.2.2.1 (2 + 2 * s) 2) := hp_fi (lay_net h) rfl
theorem c_rw (h : s < 8) : lf_fr (hp σ, cs) (2 + 2 * s) 5 0 = some (3 + 2 * s) := hp_fr (lay_net h) rfl
theorem c_is (h : s < 8) : lf_is (hp σ, cs) (2 + 2 * s) 5 = true := hp_is (lay_net h)
theorem c_row {j : Nat} (h : s < 8) (hj : j < 24) : lf_ri (hp σ, cs) (3 + 2 * s) (nI j) = some (σ.1 (3 + 2 * s) j) := by
  rw [hp_ri (lay_row h) (in_nI hj (by omega)), nI_clamp (by omega)]
theorem c_isS_lo (h : x < 0) : f168 N x (hp σ, cs) = some (.inl (some (.int 0)), (hp σ, cs)) := by
  unfold f168
  rw [if_pos h]
theorem c_isS_hi (h : nI 8 ≤ x) : f168 N x (hp σ, cs) = some (.inl (some (.int 0)), (hp σ, cs)) := by
  unfold f168
  split
  · rfl
  · rw [if_pos (show (8 : Int32) ≤ x from h)]
theorem c_isS_in (h : s < 8) : f168 N (nI s) (hp σ, cs) = some (.inl (some (.int 1)), (hp σ, cs)) := by
  unfold f168
  rw [if_neg (nI_pos (by omega)), if_neg (show ¬ (8 : Int32) ≤ nI s from nI_ge (b := 8) h (by omega))]
theorem m_isS_lo (h : x < 0) : f177 N x (hp σ, cs) = some (.inl (some (.int 0)), (hp σ, cs)) := by
  unfold f177
  rw [if_pos h]
theorem m_isS_hi (h : nI 8 ≤ x) : f177 N x (hp σ, cs) = some (.inl (some (.int 0)), (hp σ, cs)) := by
  unfold f177
  split
  · rfl
  · rw [if_pos (show (8 : Int32) ≤ x from h)]
theorem m_isS_in (h : s < 8) : f177 N (nI s) (hp σ, cs) = some (.inl (some (.int 1)), (hp σ, cs)) := by
  unfold f177
  rw [if_neg (nI_pos (by omega)), if_neg (show ¬ (8 : Int32) ≤ nI s from nI_ge (b := 8) h (by omega))]
/-- no net lies there -/
def no_net (σ : hp_S) (x : Int32) : Prop := x < 0 ∨ nI 8 ≤ x ∨ ∃ s, s < 8 ∧ x = nI s ∧ σ.2.2.1 (2 + 2 * s) 1 = 0 ∧ σ.1 73 s = 0
theorem c_held_no (h : no_net σ x) : f169 N 0 x (hp σ, cs) = lf_thr "java/util/NoSuchElementException" (hp σ, cs) := by
  unfold f169
  rcases h with h | h | ⟨s, h, rfl, h1, -⟩
  · rw [c_isS_lo h, lf_ci_r, if_pos rfl]
  · rw [c_isS_hi h, lf_ci_r, if_pos rfl]
  · rw [c_isS_in h, lf_ci_r, if_neg (by decide), c_slots, Option.bind_some, c_slot h, Option.bind_some, c_kn h, Option.bind_some, h1, if_neg (fun q => q rfl)]
theorem c_held (h : s < 8) (h1 : ¬ σ.2.2.1 (2 + 2 * s) 1 = 0) : f169 N 0 (nI s) (hp σ, cs) = some (.inl (some (.ref (2 + 2 * s))), (hp σ, cs)) := by
  unfold f169
  rw [c_isS_in h, lf_ci_r, if_neg (by decide), c_slots, Option.bind_some, c_slot h, Option.bind_some, c_kn h, Option.bind_some, if_pos h1, Option.bind_some, c_slot h, Option.bind_some]
/-- the model's own place has the net -/
def m_laid (σ : hp_S) (s : Nat) : hp_S := hp_fill (hp_wf (hp_wf (hp_wf σ 72 0 0) 72 4 (σ.1 73 s)) 72 5 (σ.1 74 s)) 76 24 (fun j => σ.1 75 (24 * s + j))
theorem m_lays_no (h : no_net σ x) : f178 N 72 x (hp σ, cs) = some (.inl (some (.int 0)), (hp (hp_wf (hp_wf σ 72 0 0) 72 0 1), cs)) := by
  unfold f178 g178_26 g178_27
  rw [m_w0, Option.bind_some]
  rcases h with h | h | ⟨s, h, rfl, -, h1⟩
  · rw [m_isS_lo h, lf_ci_r, if_pos rfl, if_pos hp_m, m_rf hp_wf_at (by decide), lf_ci_r, if_neg (fun q => q rfl)]
  · rw [m_isS_hi h, lf_ci_r, if_pos rfl, if_pos hp_m, m_rf hp_wf_at (by decide), lf_ci_r, if_neg (fun q => q rfl)]
  · rw [m_isS_in h, lf_ci_r, if_neg (by decide), hp_fr (a := 72) (k := 1) (b := 73) rfl rfl, Option.bind_some, hp_ri (a := 73) (n := 8) rfl (in_nI h (by omega)), Option.bind_some, nI_clamp (by omega), show (hp_wf σ 72 0 0).1 73 s = 0 from h1, if_pos (by decide), if_pos hp_m, m_rf hp_wf_at (by decide), lf_ci_r, if_neg (fun q => q rfl)]
theorem m_lays_loop (h : s < 8) : ∀ (m k n : Nat), k + m = 24 → m < n → g178_58 N n 72 (nI s) (nI k) (hp (hp_fill σ 76 k (fun j => σ.1 75 (24 * s + j))), cs) = some (.inl (some (.int 1)), (hp (hp_fill σ 76 24 (fun j => σ.1 75 (24 * s + j))), cs)) := by
  intro m
  induction m with
  | zero =>
    intro k n hk hn
    obtain ⟨n, rfl⟩ : ∃ q, n = q + 1 := ⟨n - 1, by omega⟩
    unfold g178_58
    rw [show k = 24 by omega, if_pos (show (24 : Int32) ≤ nI 24 by decide)]
  | succ m ih =>
    intro k n hk hn
    obtain ⟨n, rfl⟩ : ∃ q, n = q + 1 := ⟨n - 1, by omega⟩
    unfold g178_58
    rw [if_neg (show ¬ (24 : Int32) ≤ nI k from nI_ge (b := 24) (by omega) (by omega)), hp_fr (a := 72) (k := 6) (b := 76) rfl rfl, Option.bind_some, hp_fr (a := 72) (k := 3) (b := 75) rfl rfl, Option.bind_some, show (24 : Int32) * nI s + nI k = nI (24 * s + k) by rw [show (24 : Int32) = nI 24 from rfl, pk_mul, nI_add], hp_ri (a := 75) (n := 192) rfl (in_nI (by omega) (by omega)), Option.bind_some, nI_clamp (by omega), hp_fill_ne (by decide), hp_swi (a := 76) (n := 24) rfl (in_nI (by omega) (by omega)), Option.bind_some, nI_clamp (by omega), hp_fill_s (g := fun j => σ.1 75 (24 * s + j)), nI_1]
    exact ih (k + 1) n (by omega) (by omega)
theorem m_lays (h : s < 8) (h1 : ¬ σ.1 73 s ≤ 0) (hN : iv_N N) : f178 N 72 (nI s) (hp σ, cs) = some (.inl (some (.int 1)), (hp (m_laid σ s), cs)) := by
  unfold f178 g178_27
  rw [m_w0, Option.bind_some, m_isS_in h, lf_ci_r, if_neg (by decide), hp_fr (a := 72) (k := 1) (b := 73) rfl rfl, Option.bind_some, hp_ri (a := 73) (n := 8) rfl (in_nI h (by omega)), Option.bind_some, nI_clamp (by omega), if_neg (show ¬ (hp_wf σ 72 0 0).1 73 s ≤ 0 from h1), if_pos hp_m, m_rt hp_wf_at (by decide), lf_ci_r, if_pos (by decide), hp_fr (a := 72) (k := 1) (b := 73) rfl rfl, Option.bind_some, hp_ri (a := 73) (n := 8) rfl (in_nI h (by omega)), Option.bind_some, nI_clamp (by omega), hp_swf (a := 72) (k := 4) rfl rfl rfl, Option.bind_some, hp_fr (a := 72) (k := 2) (b := 74) rfl rfl, Option.bind_some, hp_ri (a := 74) (n := 8) rfl (in_nI h (by omega)), Option.bind_some, nI_clamp (by omega), hp_swf (a := 72) (k := 5) rfl rfl rfl, Option.bind_some]
  have e := m_lays_loop (σ := hp_wf (hp_wf (hp_wf σ 72 0 0) 72 4 (σ.1 73 s)) 72 5 (σ.1 74 s)) (cs := cs) (N := N) h 24 0 N rfl (by unfold iv_N at hN; omega)
  rw [hp_fill_0] at e
  exact e
theorem m_laid_kept : iv_kept σ (m_laid σ s) := by
  refine (((iv_k0 (σ := σ) (x := 0)).tr (iv_kept.wm (k := 4) (x := σ.1 73 s) (by omega))).tr (iv_kept.wm (k := 5) (x := σ.1 74 s) (by omega))).tr ?_
  exact ⟨fun a q => hp_fill_ne (by omega), fun _ _ => rfl, rfl, rfl, fun _ _ => rfl, rfl, rfl, fun _ _ => rfl, id⟩
theorem m_laid_0 : (m_laid σ s).2.2.1 72 0 = 0 := by
  show (hp_wf (hp_wf (hp_wf σ 72 0 0) 72 4 (σ.1 73 s)) 72 5 (σ.1 74 s)).2.2.1 72 0 = 0
  rw [hp_wf_ne (by decide), hp_wf_ne (by decide), hp_wf_at]
theorem m_laid_k : (m_laid σ s).2.2.1 72 4 = σ.1 73 s := by
  show (hp_wf (hp_wf (hp_wf σ 72 0 0) 72 4 (σ.1 73 s)) 72 5 (σ.1 74 s)).2.2.1 72 4 = _
  rw [hp_wf_ne (by decide), hp_wf_at]
theorem m_laid_d : (m_laid σ s).2.2.1 72 5 = σ.1 74 s := by
  show (hp_wf (hp_wf (hp_wf σ 72 0 0) 72 4 (σ.1 73 s)) 72 5 (σ.1 74 s)).2.2.1 72 5 = _
  rw [hp_wf_at]
theorem m_laid_j {j : Nat} (h : j < 24) : (m_laid σ s).1 76 j = σ.1 75 (24 * s + j) := hp_fill_at h
theorem m_laid_l : (m_laid σ s).2.1 = σ.2.1 := rfl
/-- a slot: no net, or a net of so many knots -/
theorem iv_slot {J : iv_J} (hI : iv J σ) (x : Int32) : no_net σ x ∨ ∃ s m, s < 8 ∧ x = nI s ∧ 1 ≤ m ∧ m ≤ 24 ∧ σ.2.2.1 (2 + 2 * s) 1 = nI m ∧ σ.1 73 s = nI m := by
  rcases pk_ix x (n := 8) (by omega) with h | h | ⟨s, hs, rfl⟩
  · exact Or.inl (Or.inl h)
  · exact Or.inl (Or.inr (Or.inl h))
  · obtain ⟨h1, h2, h3, h4⟩ := hI.1 s hs
    rcases h4 with h4 | ⟨m, e, q1, q2, q3, -⟩
    · exact Or.inl (Or.inr (Or.inr ⟨s, hs, rfl, h1.trans h4, h4⟩))
    · exact Or.inr ⟨s, m, hs, rfl, q1, q2, h1.trans q3, q3⟩
theorem no_net.kept {τ : hp_S} (h : no_net σ x) (k : iv_kept σ τ) : no_net τ x := by
  rcases h with h | h | ⟨s, h, rfl, h1, h2⟩
  · exact Or.inl h
  · exact Or.inr (Or.inl h)
  · exact Or.inr (Or.inr ⟨s, h, rfl, by rw [k.2.1 _ (by omega)]; exact h1, by rw [k.1 73 (by omega)]; exact h2⟩)
end SL
