/-- a net as it lies: none, or so many knots, a degree, rows that are alike both ways, within the knots -/
def iv_wf (n dg : Int32) (f : Nat → Int32) : Prop := n = 0 ∨ ∃ m e : Nat, 1 ≤ m ∧ m ≤ 24 ∧ n = nI m ∧ 1 ≤ e ∧ e ≤ 8 ∧ dg = nI e ∧ (∀ a, a < 24 → ∀ b, bt (f a) b = true → a < m ∧ b < m ∧ a ≠ b ∧ bt (f b) a = true) ∧ ∀ a, a < 24 → i_pc (f a) ≤ e
def iv_net (σ : hp_S) : Prop := ∀ s, s < 8 → σ.2.2.1 (2 + 2 * s) 1 = σ.1 73 s ∧ σ.2.2.1 (2 + 2 * s) 2 = σ.1 74 s ∧ (∀ k, k < 24 → σ.1 (3 + 2 * s) k = σ.1 75 (24 * s + k)) ∧ iv_wf (σ.1 73 s) (σ.1 74 s) (σ.1 (3 + 2 * s))
def iv_tape (σ : hp_S) : Prop := ∃ t : Nat, t ≤ 400 ∧ σ.2.2.1 20 5 = nI t ∧ σ.2.2.1 72 8 = nI t ∧ ∀ j, j < t → σ.1 23 j = σ.1 77 j ∧ ∃ b : Nat, b < 256 ∧ σ.1 23 j = nI b
def iv_fault (σ : hp_S) : Prop := σ.2.2.1 20 6 = σ.2.2.1 72 10
/-- has any been gathered, how many, kinds, fewest, least -/
def iv_small (σ : hp_S) : Prop := (σ.2.2.1 44 0 = 0 ∨ σ.2.2.1 44 0 = 1) ∧ σ.2.2.1 44 0 = σ.2.2.1 72 45 ∧ (σ.2.2.1 44 0 = 1 → σ.2.2.1 44 1 = σ.2.2.1 72 46 ∧ σ.2.2.1 44 2 = σ.2.2.1 72 47 ∧ σ.2.2.1 44 3 = σ.2.2.1 72 48 ∧ σ.2.2.1 44 4 = σ.2.2.1 72 49)
def iv_fall (σ : hp_S) : Prop := ∃ m : Nat, m ≤ 2 ∧ σ.2.2.1 53 4 = nI m ∧ σ.2.2.1 72 58 = nI m ∧ ∀ j, j < m → σ.1 56 j = σ.1 103 j
def iv_laid (σ : hp_S) : Prop := ∃ m : Nat, m ≤ 24 ∧ σ.2.2.1 57 1 = nI m ∧ σ.2.2.1 72 60 = nI m ∧ ∀ j, j < m → σ.1 58 j = σ.1 104 j
/-- what both keep for themselves of small nets -/
def iv_cs (σ : hp_S) : Nat → Nat → Int32 := fun a => if a = 45 ∨ a = 46 ∨ a = 47 ∨ a = 90 ∨ a = 99 ∨ a = 100 ∨ a = 101 ∨ a = 102 ∨ a = 116 then σ.1 a else fun _ => 0
abbrev iv_J : Type := (Nat → Nat → Int32) → Prop
/-- the rows that change places are two -/
def iv_sw (σ : hp_S) : Prop := σ.2.2.2 29 0 = σ.2.2.2 29 1 ∧ σ.2.2.2 37 0 = σ.2.2.2 37 1 ∧ σ.2.2.2 61 4 = σ.2.2.2 61 5
def iv (J : iv_J) (σ : hp_S) : Prop := iv_net σ ∧ iv_tape σ ∧ iv_fault σ ∧ iv_small σ ∧ iv_fall σ ∧ iv_laid σ ∧ J (iv_cs σ) ∧ iv_sw σ
theorem iv_net.fr {σ τ : hp_S} (h : iv_net σ) (e1 : ∀ s, s < 8 → τ.2.2.1 (2 + 2 * s) 1 = σ.2.2.1 (2 + 2 * s) 1 ∧ τ.2.2.1 (2 + 2 * s) 2 = σ.2.2.1 (2 + 2 * s) 2 ∧ τ.1 (3 + 2 * s) = σ.1 (3 + 2 * s)) (e2 : τ.1 73 = σ.1 73) (e3 : τ.1 74 = σ.1 74) (e4 : τ.1 75 = σ.1 75) : iv_net τ := by
  intro s hs
  obtain ⟨q1, q2, q3⟩ := e1 s hs
  rw [q1, q2, q3, e2, e3, e4]
  exact h s hs
theorem iv_tape.fr {σ τ : hp_S} (h : iv_tape σ) (e1 : τ.2.2.1 20 5 = σ.2.2.1 20 5) (e2 : τ.2.2.1 72 8 = σ.2.2.1 72 8) (e3 : τ.1 23 = σ.1 23) (e4 : τ.1 77 = σ.1 77) : iv_tape τ := by
  unfold iv_tape
  rw [e1, e2, e3, e4]
  exact h
theorem iv_fault.fr {σ τ : hp_S} (h : iv_fault σ) (e1 : τ.2.2.1 20 6 = σ.2.2.1 20 6) (e2 : τ.2.2.1 72 10 = σ.2.2.1 72 10) : iv_fault τ := by
  unfold iv_fault
  rw [e1, e2]
  exact h
theorem iv_small.fr {σ τ : hp_S} (h : iv_small σ) (e1 : ∀ k, k < 5 → τ.2.2.1 44 k = σ.2.2.1 44 k) (e2 : ∀ k, 45 ≤ k → k < 50 → τ.2.2.1 72 k = σ.2.2.1 72 k) : iv_small τ := by
  unfold iv_small
  rw [e1 0 (by omega), e1 1 (by omega), e1 2 (by omega), e1 3 (by omega), e1 4 (by omega), e2 45 (by omega) (by omega), e2 46 (by omega) (by omega), e2 47 (by omega) (by omega), e2 48 (by omega) (by omega), e2 49 (by omega) (by omega)]
  exact h
theorem iv_fall.fr {σ τ : hp_S} (h : iv_fall σ) (e1 : τ.2.2.1 53 4 = σ.2.2.1 53 4) (e2 : τ.2.2.1 72 58 = σ.2.2.1 72 58) (e3 : τ.1 56 = σ.1 56) (e4 : τ.1 103 = σ.1 103) : iv_fall τ := by
  unfold iv_fall
  rw [e1, e2, e3, e4]
  exact h
theorem iv_laid.fr {σ τ : hp_S} (h : iv_laid σ) (e1 : τ.2.2.1 57 1 = σ.2.2.1 57 1) (e2 : τ.2.2.1 72 60 = σ.2.2.1 72 60) (e3 : τ.1 58 = σ.1 58) (e4 : τ.1 104 = σ.1 104) : iv_laid τ := by
  unfold iv_laid
  rw [e1, e2, e3, e4]
  exact h
theorem iv_cs.fr {σ τ : hp_S} (e : ∀ a, a = 45 ∨ a = 46 ∨ a = 47 ∨ a = 90 ∨ a = 99 ∨ a = 100 ∨ a = 101 ∨ a = 102 ∨ a = 116 → τ.1 a = σ.1 a) : iv_cs τ = iv_cs σ := by
  funext a
  unfold iv_cs
  split
  · next h => exact e a h
  · rfl
/-- only scratch is changed: fields of the model but for those that are kept, rows but for those that are kept -/
def iv_kept (σ τ : hp_S) : Prop := (∀ a, (a < 25 ∧ a ≠ 19 ∧ a ≠ 22 ∧ a ≠ 24) ∨ a = 45 ∨ a = 46 ∨ a = 47 ∨ a = 56 ∨ a = 58 ∨ a = 73 ∨ a = 74 ∨ a = 75 ∨ a = 77 ∨ a = 90 ∨ a = 99 ∨ a = 100 ∨ a = 101 ∨ a = 102 ∨ a = 103 ∨ a = 104 ∨ a = 116 → τ.1 a = σ.1 a) ∧ (∀ a, a < 18 → τ.2.2.1 a = σ.2.2.1 a) ∧ τ.2.2.1 20 5 = σ.2.2.1 20 5 ∧ τ.2.2.1 20 6 = σ.2.2.1 20 6 ∧ (∀ k, k < 5 → τ.2.2.1 44 k = σ.2.2.1 44 k) ∧ τ.2.2.1 53 4 = σ.2.2.1 53 4 ∧ τ.2.2.1 57 1 = σ.2.2.1 57 1 ∧ (∀ k, k = 8 ∨ k = 10 ∨ (45 ≤ k ∧ k < 50) ∨ k = 58 ∨ k = 60 → τ.2.2.1 72 k = σ.2.2.1 72 k) ∧ (iv_sw σ → iv_sw τ)
theorem iv_kept.rf (σ : hp_S) : iv_kept σ σ := ⟨fun _ _ => rfl, fun _ _ => rfl, rfl, rfl, fun _ _ => rfl, rfl, rfl, fun _ _ => rfl, id⟩
theorem iv_kept.tr {σ τ υ : hp_S} (h : iv_kept σ τ) (k : iv_kept τ υ) : iv_kept σ υ := by
  obtain ⟨a1, a2, a3, a4, a5, a6, a7, a8, a9⟩ := h
  obtain ⟨b1, b2, b3, b4, b5, b6, b7, b8, b9⟩ := k
  exact ⟨fun a q => (b1 a q).trans (a1 a q), fun a q => (b2 a q).trans (a2 a q), b3.trans a3, b4.trans a4, fun k q => (b5 k q).trans (a5 k q), b6.trans a6, b7.trans a7, fun k q => (b8 k q).trans (a8 k q), fun q => b9 (a9 q)⟩
theorem iv.kept {J : iv_J} {σ τ : hp_S} (h : iv J σ) (k : iv_kept σ τ) : iv J τ := by
  obtain ⟨h1, h2, h3, h4, h5, h6, h7⟩ := h
  obtain ⟨a1, a2, a3, a4, a5, a6, a7, a8, a9⟩ := k
  refine ⟨h1.fr (fun s hs => ⟨by rw [a2 _ (by omega)], by rw [a2 _ (by omega)], a1 _ (by omega)⟩) (a1 73 (by omega)) (a1 74 (by omega)) (a1 75 (by omega)), h2.fr a3 (a8 8 (by omega)) (a1 23 (by omega)) (a1 77 (by omega)), h3.fr a4 (a8 10 (by omega)), h4.fr a5 (fun k q1 q2 => a8 k (by omega)), h5.fr a6 (a8 58 (by omega)) (a1 56 (by omega)) (a1 103 (by omega)), h6.fr a7 (a8 60 (by omega)) (a1 58 (by omega)) (a1 104 (by omega)), ?_⟩
  rw [iv_cs.fr (fun a q => a1 a (by omega))]
  exact ⟨h7.1, a9 h7.2⟩
/-- a field of the model that isn't kept is written -/
theorem iv_kept.wm {σ : hp_S} {k : Nat} {x : Int32} (h : k ≠ 8 ∧ k ≠ 10 ∧ ¬ (45 ≤ k ∧ k < 50) ∧ k ≠ 58 ∧ k ≠ 60) : iv_kept σ (hp_wf σ 72 k x) := by
  have e : ∀ b j, ¬ (b = 72 ∧ j = k) → hp_up σ.2.2.1 72 k x b j = σ.2.2.1 b j := fun b j q => by unfold hp_up; rw [if_neg q]
  exact ⟨fun _ _ => rfl, fun b q => hp_up_ne (by omega), e 20 5 (by omega), e 20 6 (by omega), fun j q => e 44 j (by omega), e 53 4 (by omega), e 57 1 (by omega), fun j q => e 72 j (by omega), id⟩
/-- a row that isn't kept is written -/
theorem iv_kept.wi {σ : hp_S} {a i : Nat} {x : Int32} (h : ¬ ((a < 25 ∧ a ≠ 19 ∧ a ≠ 22 ∧ a ≠ 24) ∨ a = 45 ∨ a = 46 ∨ a = 47 ∨ a = 56 ∨ a = 58 ∨ a = 73 ∨ a = 74 ∨ a = 75 ∨ a = 77 ∨ a = 90 ∨ a = 99 ∨ a = 100 ∨ a = 101 ∨ a = 102 ∨ a = 103 ∨ a = 104 ∨ a = 116)) : iv_kept σ (hp_wi σ a i x) := ⟨fun b q => hp_up_ne (by omega), fun _ _ => rfl, rfl, rfl, fun _ _ => rfl, rfl, rfl, fun _ _ => rfl, id⟩
/-- a field of a part of the class that isn't kept is written -/
theorem iv_kept.wc {σ : hp_S} {a k : Nat} {x : Int32} (h : 18 ≤ a ∧ a ≠ 72 ∧ ¬ (a = 20 ∧ (k = 5 ∨ k = 6)) ∧ ¬ (a = 44 ∧ k < 5) ∧ ¬ (a = 53 ∧ k = 4) ∧ ¬ (a = 57 ∧ k = 1)) : iv_kept σ (hp_wf σ a k x) := by
  have e : ∀ b j, ¬ (b = a ∧ j = k) → hp_up σ.2.2.1 a k x b j = σ.2.2.1 b j := fun b j q => by unfold hp_up; rw [if_neg q]
  exact ⟨fun _ _ => rfl, fun b q => hp_up_ne (by omega), e 20 5 (by omega), e 20 6 (by omega), fun j q => e 44 j (by omega), e 53 4 (by omega), e 57 1 (by omega), fun j q => e 72 j (by omega), id⟩
abbrev iv_rd : Type := Nat → Int32 → Int32 → Nat → lf_W → lf_R
/-- a case of the law's switch: class and model agree, and go on agreeing -/
def iv_case (J : iv_J) (rd : iv_rd) (g : (Nat × (Nat → Int32)) → iv_rd → Nat → (Int32 → lf_W → lf_R) → Int32 → lf_W → lf_R) : Prop := ∀ (sc : Nat × (Nat → Int32)) (i : Nat) (σ : hp_S) (cs : Nat × Nat), sc.1 ≤ 3072 → i + 6 ≤ sc.1 → iv J σ → ∃ (τ : hp_S) (ds : Nat × Nat), iv J τ ∧ ds.1 ≤ cs.1 + 1 ∧ ds.2 ≤ cs.2 + 6 ∧ ∀ N, 1000000000 ≤ N → ∀ k23 : Int32 → lf_W → lf_R, g sc rd N k23 (nI i) (hp σ, cs) = k23 (nI i + 6) (hp τ, ds)
/-- the same, for one measure of fuel -/
def iv_caseN (J : iv_J) (rd : iv_rd) (N : Nat) (g : (Nat × (Nat → Int32)) → iv_rd → Nat → (Int32 → lf_W → lf_R) → Int32 → lf_W → lf_R) : Prop := ∀ (sc : Nat × (Nat → Int32)) (i : Nat) (σ : hp_S) (cs : Nat × Nat), sc.1 ≤ 3072 → i + 6 ≤ sc.1 → iv J σ → ∃ (τ : hp_S) (ds : Nat × Nat), iv J τ ∧ ds.1 ≤ cs.1 + 1 ∧ ds.2 ≤ cs.2 + 6 ∧ ∀ k23 : Int32 → lf_W → lf_R, g sc rd N k23 (nI i) (hp σ, cs) = k23 (nI i + 6) (hp τ, ds)
theorem iv_case.to {J : iv_J} {rd : iv_rd} {N : Nat} {g : (Nat × (Nat → Int32)) → iv_rd → Nat → (Int32 → lf_W → lf_R) → Int32 → lf_W → lf_R} (h : iv_case J rd g) (hN : 1000000000 ≤ N) : iv_caseN J rd N g := by
  intro sc i σ cs hs hi hI
  obtain ⟨τ, ds, q1, q2, q3, q4⟩ := h sc i σ cs hs hi hI
  exact ⟨τ, ds, q1, q2, q3, q4 N hN⟩
theorem iv_sc {sc : Nat × (Nat → Int32)} {j : Nat} (h : j < sc.1) (hs : sc.1 ≤ 3072) : lf_sc sc (nI j) = some (sc.2 j) := by
  unfold lf_sc
  rw [if_pos (pm_in_iff.mpr (vp_in_nI h (by omega))), nI_clamp (by omega)]
theorem iv_stop {L i : Nat} (hL : L ≤ 3072) (hi : i ≤ 3100) : (Int32.ofNat L - 6 < nI i) ↔ L < i + 6 := by
  rw [fa_lt, show Int32.ofNat L - 6 = nI L - nI 6 from rfl, pk_sub_toInt (by omega) (by omega), nI_toInt (by omega)]
  omega
set_option maxHeartbeats 4000000 in
theorem iv_loop {J : iv_J} {rd : iv_rd} {N : Nat} (h0 : iv_caseN J rd N g327_208) (h1 : iv_caseN J rd N g327_257) (h2 : iv_caseN J rd N g327_344) (h3 : iv_caseN J rd N g327_431) (h4 : iv_caseN J rd N g327_504) (h5 : iv_caseN J rd N g327_572) (h6 : iv_caseN J rd N g327_585) (h7 : iv_caseN J rd N g327_658) (h8 : iv_caseN J rd N g327_757) (h9 : iv_caseN J rd N g327_832) (h10 : iv_caseN J rd N g327_900) (h11 : iv_caseN J rd N g327_968) (h12 : iv_caseN J rd N g327_1048) (h13 : iv_caseN J rd N g327_1116) (h14 : iv_caseN J rd N g327_1196) (h15 : iv_caseN J rd N g327_1263) (h16 : iv_caseN J rd N g327_1331) (h17 : iv_caseN J rd N g327_1398) (h18 : iv_caseN J rd N g327_1513) (h19 : iv_caseN J rd N g327_1569) (h20 : iv_caseN J rd N g327_1661) (h21 : iv_caseN J rd N g327_1753) (h22 : iv_caseN J rd N g327_1833) (h23 : iv_caseN J rd N g327_1889) (h24 : iv_caseN J rd N g327_1957) (h25 : iv_caseN J rd N g327_2037) (h26 : iv_caseN J rd N g327_2093) (h27 : iv_caseN J rd N g327_2149) (h28 : iv_caseN J rd N g327_2217) (h29 : iv_caseN J rd N g327_2273) (h30 : iv_caseN J rd N g327_2353) (h31 : iv_caseN J rd N g327_2416) (h32 : iv_caseN J rd N g327_2496) (h33 : iv_caseN J rd N g327_2564) (h34 : iv_caseN J rd N g327_2644) (h35 : iv_caseN J rd N g327_2712) (h36 : iv_caseN J rd N g327_2780) (h37 : iv_caseN J rd N g327_2836) {sc : Nat × (Nat → Int32)} (hs : sc.1 ≤ 3072) (hN : 1000000000 ≤ N) : ∀ (m i n : Nat) (σ : hp_S) (cs : Nat × Nat), iv J σ → i ≤ 3080 → sc.1 < i + 6 * m + 6 → m < n → ∃ w : lf_W, g327_23 sc rd N n (nI i) (hp σ, cs) = some (.inl (some (.int 1)), w) ∧ w.2.1 ≤ cs.1 + m ∧ w.2.2 ≤ cs.2 + 6 * m := by
  intro m
  induction m with
  | zero =>
    intro i n σ cs _ hi hb hn
    obtain ⟨n, rfl⟩ : ∃ q, n = q + 1 := ⟨n - 1, by omega⟩
    refine ⟨(hp σ, cs), ?_, Nat.le_refl _, Nat.le_refl _⟩
    unfold g327_23
    rw [if_pos ((iv_stop hs (by omega)).mpr (by omega))]
  | succ m ih =>
    intro i n σ cs hI hi hb hn
    obtain ⟨n, rfl⟩ : ∃ q, n = q + 1 := ⟨n - 1, by omega⟩
    unfold g327_23
    by_cases hst : sc.1 < i + 6
    · rw [if_pos ((iv_stop hs (by omega)).mpr hst)]
      exact ⟨(hp σ, cs), rfl, Nat.le_add_right _ _, Nat.le_add_right _ _⟩
    rw [if_neg (fun q => hst ((iv_stop hs (by omega)).mp q)), iv_sc (by omega) hs, Option.bind_some]
    have fin : ∀ (τ : hp_S) (ds : Nat × Nat), iv J τ → ds.1 ≤ cs.1 + 1 → ds.2 ≤ cs.2 + 6 → ∃ w : lf_W, g327_23 sc rd N n (nI i + 6) (hp τ, ds) = some (.inl (some (.int 1)), w) ∧ w.2.1 ≤ cs.1 + (m + 1) ∧ w.2.2 ≤ cs.2 + 6 * (m + 1) := by
      intro τ ds hτ d1 d2
      obtain ⟨w, q1, q2, q3⟩ := ih (i + 6) n τ ds hτ (by omega) (by omega) (by omega)
      exact ⟨w, by rw [show nI i + 6 = nI (i + 6) from nI_add i 6]; exact q1, by omega, by omega⟩
    by_cases c0 : (sc.2 i &&& 63) = 0
    · rw [if_pos c0]
      obtain ⟨τ, ds, q1, q2, q3, q4⟩ := h0 sc i σ cs hs (by omega) hI
      rw [q4]
      exact fin τ ds q1 q2 q3
    rw [if_neg c0]
    by_cases c1 : (sc.2 i &&& 63) = 1
    · rw [if_pos c1]
      obtain ⟨τ, ds, q1, q2, q3, q4⟩ := h1 sc i σ cs hs (by omega) hI
      rw [q4]
      exact fin τ ds q1 q2 q3
    rw [if_neg c1]
    by_cases c2 : (sc.2 i &&& 63) = 2
    · rw [if_pos c2]
      obtain ⟨τ, ds, q1, q2, q3, q4⟩ := h2 sc i σ cs hs (by omega) hI
      rw [q4]
      exact fin τ ds q1 q2 q3
    rw [if_neg c2]
    by_cases c3 : (sc.2 i &&& 63) = 3
    · rw [if_pos c3]
      obtain ⟨τ, ds, q1, q2, q3, q4⟩ := h3 sc i σ cs hs (by omega) hI
      rw [q4]
      exact fin τ ds q1 q2 q3
    rw [if_neg c3]
    by_cases c4 : (sc.2 i &&& 63) = 4
    · rw [if_pos c4]
      obtain ⟨τ, ds, q1, q2, q3, q4⟩ := h4 sc i σ cs hs (by omega) hI
      rw [q4]
      exact fin τ ds q1 q2 q3
    rw [if_neg c4]
    by_cases c5 : (sc.2 i &&& 63) = 5
    · rw [if_pos c5]
      obtain ⟨τ, ds, q1, q2, q3, q4⟩ := h5 sc i σ cs hs (by omega) hI
      rw [q4]
      exact fin τ ds q1 q2 q3
    rw [if_neg c5]
    by_cases c6 : (sc.2 i &&& 63) = 6
    · rw [if_pos c6]
      obtain ⟨τ, ds, q1, q2, q3, q4⟩ := h6 sc i σ cs hs (by omega) hI
      rw [q4]
      exact fin τ ds q1 q2 q3
    rw [if_neg c6]
    by_cases c7 : (sc.2 i &&& 63) = 7
    · rw [if_pos c7]
      obtain ⟨τ, ds, q1, q2, q3, q4⟩ := h7 sc i σ cs hs (by omega) hI
      rw [q4]
      exact fin τ ds q1 q2 q3
    rw [if_neg c7]
    by_cases c8 : (sc.2 i &&& 63) = 8
    · rw [if_pos c8]
      obtain ⟨τ, ds, q1, q2, q3, q4⟩ := h8 sc i σ cs hs (by omega) hI
      rw [q4]
      exact fin τ ds q1 q2 q3
    rw [if_neg c8]
    by_cases c9 : (sc.2 i &&& 63) = 9
    · rw [if_pos c9]
      obtain ⟨τ, ds, q1, q2, q3, q4⟩ := h9 sc i σ cs hs (by omega) hI
      rw [q4]
      exact fin τ ds q1 q2 q3
    rw [if_neg c9]
    by_cases c10 : (sc.2 i &&& 63) = 10
    · rw [if_pos c10]
      obtain ⟨τ, ds, q1, q2, q3, q4⟩ := h10 sc i σ cs hs (by omega) hI
      rw [q4]
      exact fin τ ds q1 q2 q3
    rw [if_neg c10]
    by_cases c11 : (sc.2 i &&& 63) = 11
    · rw [if_pos c11]
      obtain ⟨τ, ds, q1, q2, q3, q4⟩ := h11 sc i σ cs hs (by omega) hI
      rw [q4]
      exact fin τ ds q1 q2 q3
    rw [if_neg c11]
    by_cases c12 : (sc.2 i &&& 63) = 12
    · rw [if_pos c12]
      obtain ⟨τ, ds, q1, q2, q3, q4⟩ := h12 sc i σ cs hs (by omega) hI
      rw [q4]
      exact fin τ ds q1 q2 q3
    rw [if_neg c12]
    by_cases c13 : (sc.2 i &&& 63) = 13
    · rw [if_pos c13]
      obtain ⟨τ, ds, q1, q2, q3, q4⟩ := h13 sc i σ cs hs (by omega) hI
      rw [q4]
      exact fin τ ds q1 q2 q3
    rw [if_neg c13]
    by_cases c14 : (sc.2 i &&& 63) = 14
    · rw [if_pos c14]
      obtain ⟨τ, ds, q1, q2, q3, q4⟩ := h14 sc i σ cs hs (by omega) hI
      rw [q4]
      exact fin τ ds q1 q2 q3
    rw [if_neg c14]
    by_cases c15 : (sc.2 i &&& 63) = 15
    · rw [if_pos c15]
      obtain ⟨τ, ds, q1, q2, q3, q4⟩ := h15 sc i σ cs hs (by omega) hI
      rw [q4]
      exact fin τ ds q1 q2 q3
    rw [if_neg c15]
    by_cases c16 : (sc.2 i &&& 63) = 16
    · rw [if_pos c16]
      obtain ⟨τ, ds, q1, q2, q3, q4⟩ := h16 sc i σ cs hs (by omega) hI
      rw [q4]
      exact fin τ ds q1 q2 q3
    rw [if_neg c16]
    by_cases c17 : (sc.2 i &&& 63) = 17
    · rw [if_pos c17]
      obtain ⟨τ, ds, q1, q2, q3, q4⟩ := h17 sc i σ cs hs (by omega) hI
      rw [q4]
      exact fin τ ds q1 q2 q3
    rw [if_neg c17]
    by_cases c18 : (sc.2 i &&& 63) = 18
    · rw [if_pos c18]
      obtain ⟨τ, ds, q1, q2, q3, q4⟩ := h18 sc i σ cs hs (by omega) hI
      rw [q4]
      exact fin τ ds q1 q2 q3
    rw [if_neg c18]
    by_cases c19 : (sc.2 i &&& 63) = 19
    · rw [if_pos c19]
      obtain ⟨τ, ds, q1, q2, q3, q4⟩ := h19 sc i σ cs hs (by omega) hI
      rw [q4]
      exact fin τ ds q1 q2 q3
    rw [if_neg c19]
    by_cases c20 : (sc.2 i &&& 63) = 20
    · rw [if_pos c20]
      obtain ⟨τ, ds, q1, q2, q3, q4⟩ := h20 sc i σ cs hs (by omega) hI
      rw [q4]
      exact fin τ ds q1 q2 q3
    rw [if_neg c20]
    by_cases c21 : (sc.2 i &&& 63) = 21
    · rw [if_pos c21]
      obtain ⟨τ, ds, q1, q2, q3, q4⟩ := h21 sc i σ cs hs (by omega) hI
      rw [q4]
      exact fin τ ds q1 q2 q3
    rw [if_neg c21]
    by_cases c22 : (sc.2 i &&& 63) = 22
    · rw [if_pos c22]
      obtain ⟨τ, ds, q1, q2, q3, q4⟩ := h22 sc i σ cs hs (by omega) hI
      rw [q4]
      exact fin τ ds q1 q2 q3
    rw [if_neg c22]
    by_cases c23 : (sc.2 i &&& 63) = 23
    · rw [if_pos c23]
      obtain ⟨τ, ds, q1, q2, q3, q4⟩ := h23 sc i σ cs hs (by omega) hI
      rw [q4]
      exact fin τ ds q1 q2 q3
    rw [if_neg c23]
    by_cases c24 : (sc.2 i &&& 63) = 24
    · rw [if_pos c24]
      obtain ⟨τ, ds, q1, q2, q3, q4⟩ := h24 sc i σ cs hs (by omega) hI
      rw [q4]
      exact fin τ ds q1 q2 q3
    rw [if_neg c24]
    by_cases c25 : (sc.2 i &&& 63) = 25
    · rw [if_pos c25]
      obtain ⟨τ, ds, q1, q2, q3, q4⟩ := h25 sc i σ cs hs (by omega) hI
      rw [q4]
      exact fin τ ds q1 q2 q3
    rw [if_neg c25]
    by_cases c26 : (sc.2 i &&& 63) = 26
    · rw [if_pos c26]
      obtain ⟨τ, ds, q1, q2, q3, q4⟩ := h26 sc i σ cs hs (by omega) hI
      rw [q4]
      exact fin τ ds q1 q2 q3
    rw [if_neg c26]
    by_cases c27 : (sc.2 i &&& 63) = 27
    · rw [if_pos c27]
      obtain ⟨τ, ds, q1, q2, q3, q4⟩ := h27 sc i σ cs hs (by omega) hI
      rw [q4]
      exact fin τ ds q1 q2 q3
    rw [if_neg c27]
    by_cases c28 : (sc.2 i &&& 63) = 28
    · rw [if_pos c28]
      obtain ⟨τ, ds, q1, q2, q3, q4⟩ := h28 sc i σ cs hs (by omega) hI
      rw [q4]
      exact fin τ ds q1 q2 q3
    rw [if_neg c28]
    by_cases c29 : (sc.2 i &&& 63) = 29
    · rw [if_pos c29]
      obtain ⟨τ, ds, q1, q2, q3, q4⟩ := h29 sc i σ cs hs (by omega) hI
      rw [q4]
      exact fin τ ds q1 q2 q3
    rw [if_neg c29]
    by_cases c30 : (sc.2 i &&& 63) = 30
    · rw [if_pos c30]
      obtain ⟨τ, ds, q1, q2, q3, q4⟩ := h30 sc i σ cs hs (by omega) hI
      rw [q4]
      exact fin τ ds q1 q2 q3
    rw [if_neg c30]
    by_cases c31 : (sc.2 i &&& 63) = 31
    · rw [if_pos c31]
      obtain ⟨τ, ds, q1, q2, q3, q4⟩ := h31 sc i σ cs hs (by omega) hI
      rw [q4]
      exact fin τ ds q1 q2 q3
    rw [if_neg c31]
    by_cases c32 : (sc.2 i &&& 63) = 32
    · rw [if_pos c32]
      obtain ⟨τ, ds, q1, q2, q3, q4⟩ := h32 sc i σ cs hs (by omega) hI
      rw [q4]
      exact fin τ ds q1 q2 q3
    rw [if_neg c32]
    by_cases c33 : (sc.2 i &&& 63) = 33
    · rw [if_pos c33]
      obtain ⟨τ, ds, q1, q2, q3, q4⟩ := h33 sc i σ cs hs (by omega) hI
      rw [q4]
      exact fin τ ds q1 q2 q3
    rw [if_neg c33]
    by_cases c34 : (sc.2 i &&& 63) = 34
    · rw [if_pos c34]
      obtain ⟨τ, ds, q1, q2, q3, q4⟩ := h34 sc i σ cs hs (by omega) hI
      rw [q4]
      exact fin τ ds q1 q2 q3
    rw [if_neg c34]
    by_cases c35 : (sc.2 i &&& 63) = 35
    · rw [if_pos c35]
      obtain ⟨τ, ds, q1, q2, q3, q4⟩ := h35 sc i σ cs hs (by omega) hI
      rw [q4]
      exact fin τ ds q1 q2 q3
    rw [if_neg c35]
    by_cases c36 : (sc.2 i &&& 63) = 36
    · rw [if_pos c36]
      obtain ⟨τ, ds, q1, q2, q3, q4⟩ := h36 sc i σ cs hs (by omega) hI
      rw [q4]
      exact fin τ ds q1 q2 q3
    rw [if_neg c36]
    by_cases c37 : (sc.2 i &&& 63) = 37
    · rw [if_pos c37]
      obtain ⟨τ, ds, q1, q2, q3, q4⟩ := h37 sc i σ cs hs (by omega) hI
      rw [q4]
      exact fin τ ds q1 q2 q3
    rw [if_neg c37]
    exact fin σ cs hI (Nat.le_add_right _ _) (Nat.le_add_right _ _)
theorem iv_0 : iv_net σ0 ∧ iv_tape σ0 ∧ iv_fault σ0 ∧ iv_small σ0 ∧ iv_fall σ0 ∧ iv_laid σ0 := by
  refine ⟨fun s hs => ?_, ⟨0, by omega, rfl, rfl, fun j hj => absurd hj (Nat.not_lt_zero j)⟩, rfl, ⟨Or.inl rfl, rfl, fun h => absurd (show (0 : Int32) = 1 from h) (by decide)⟩, ⟨0, by omega, rfl, rfl, fun j hj => absurd hj (Nat.not_lt_zero j)⟩, ⟨0, by omega, rfl, rfl, fun j hj => absurd hj (Nat.not_lt_zero j)⟩⟩
  have e1 : σ0.2.2.1 (2 + 2 * s) 1 = 0 := by
    rcases (show s = 0 ∨ s = 1 ∨ s = 2 ∨ s = 3 ∨ s = 4 ∨ s = 5 ∨ s = 6 ∨ s = 7 by omega) with rfl | rfl | rfl | rfl | rfl | rfl | rfl | rfl <;> rfl
  have e2 : σ0.2.2.1 (2 + 2 * s) 2 = 0 := by
    rcases (show s = 0 ∨ s = 1 ∨ s = 2 ∨ s = 3 ∨ s = 4 ∨ s = 5 ∨ s = 6 ∨ s = 7 by omega) with rfl | rfl | rfl | rfl | rfl | rfl | rfl | rfl <;> rfl
  exact ⟨e1, e2, fun _ _ => rfl, Or.inl rfl⟩
/-- all out of the 38 cases -/
theorem iv_law {J : iv_J} {rd : iv_rd} (hrd : ∀ (sc : Nat × (Nat → Int32)) {a0 : Nat} {a1 a2 : Int32} {a3 : Nat} {w : lf_W} {r : pm_O × lf_W}, rd a0 a1 a2 a3 w = some r → lw_cv sc 295 [.ref a0, .int a1, .int a2, .ref a3] (lf_em w) (lf_er r)) (hJ : J (iv_cs σ0)) (h0 : iv_caseN J rd 1000000000 g327_208) (h1 : iv_caseN J rd 1000000000 g327_257) (h2 : iv_caseN J rd 1000000000 g327_344) (h3 : iv_caseN J rd 1000000000 g327_431) (h4 : iv_caseN J rd 1000000000 g327_504) (h5 : iv_caseN J rd 1000000000 g327_572) (h6 : iv_caseN J rd 1000000000 g327_585) (h7 : iv_caseN J rd 1000000000 g327_658) (h8 : iv_caseN J rd 1000000000 g327_757) (h9 : iv_caseN J rd 1000000000 g327_832) (h10 : iv_caseN J rd 1000000000 g327_900) (h11 : iv_caseN J rd 1000000000 g327_968) (h12 : iv_caseN J rd 1000000000 g327_1048) (h13 : iv_caseN J rd 1000000000 g327_1116) (h14 : iv_caseN J rd 1000000000 g327_1196) (h15 : iv_caseN J rd 1000000000 g327_1263) (h16 : iv_caseN J rd 1000000000 g327_1331) (h17 : iv_caseN J rd 1000000000 g327_1398) (h18 : iv_caseN J rd 1000000000 g327_1513) (h19 : iv_caseN J rd 1000000000 g327_1569) (h20 : iv_caseN J rd 1000000000 g327_1661) (h21 : iv_caseN J rd 1000000000 g327_1753) (h22 : iv_caseN J rd 1000000000 g327_1833) (h23 : iv_caseN J rd 1000000000 g327_1889) (h24 : iv_caseN J rd 1000000000 g327_1957) (h25 : iv_caseN J rd 1000000000 g327_2037) (h26 : iv_caseN J rd 1000000000 g327_2093) (h27 : iv_caseN J rd 1000000000 g327_2149) (h28 : iv_caseN J rd 1000000000 g327_2217) (h29 : iv_caseN J rd 1000000000 g327_2273) (h30 : iv_caseN J rd 1000000000 g327_2353) (h31 : iv_caseN J rd 1000000000 g327_2416) (h32 : iv_caseN J rd 1000000000 g327_2496) (h33 : iv_caseN J rd 1000000000 g327_2564) (h34 : iv_caseN J rd 1000000000 g327_2644) (h35 : iv_caseN J rd 1000000000 g327_2712) (h36 : iv_caseN J rd 1000000000 g327_2780) (h37 : iv_caseN J rd 1000000000 g327_2836) : Claimed_1_1 ∧ Claimed_1_2 := by
  refine lf_all (fun sc hs => ?_)
  obtain ⟨w, q1, q2, q3⟩ := iv_loop h0 h1 h2 h3 h4 h5 h6 h7 h8 h9 h10 h11 h12 h13 h14 h15 h16 h17 h18 h19 h20 h21 h22 h23 h24 h25 h26 h27 h28 h29 h30 h31 h32 h33 h34 h35 h36 h37 (N := 1000000000) hs (Nat.le_refl _) 512 0 1000000000 σ0 (118, 98559) ⟨iv_0.1, iv_0.2.1, iv_0.2.2.1, iv_0.2.2.2.1, iv_0.2.2.2.2.1, iv_0.2.2.2.2.2, hJ, ⟨rfl, rfl, rfl⟩⟩ (by omega) (by omega) (by omega)
  exact ⟨rd, 1000000000, w, hrd sc, by rw [w0_hp]; exact q1, Nat.le_trans q2 (by decide), Nat.le_trans q3 (by decide)⟩
