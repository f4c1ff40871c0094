/-! a net is put into a slot, on both sides -/
def iv_rest (σ τ : hp_S) : Prop := (∀ a, a = 23 ∨ a = 45 ∨ a = 46 ∨ a = 47 ∨ a = 90 ∨ a = 116 ∨ a = 56 ∨ a = 58 ∨ a = 77 ∨ a = 99 ∨ a = 100 ∨ a = 101 ∨ a = 102 ∨ a = 103 ∨ a = 104 → τ.1 a = σ.1 a) ∧ τ.2.2.1 20 5 = σ.2.2.1 20 5 ∧ τ.2.2.1 20 6 = σ.2.2.1 20 6 ∧ (∀ k, k < 5 → τ.2.2.1 44 k = σ.2.2.1 44 k) ∧ τ.2.2.1 53 4 = σ.2.2.1 53 4 ∧ τ.2.2.1 57 1 = σ.2.2.1 57 1 ∧ (∀ k, k = 8 ∨ k = 10 ∨ (45 ≤ k ∧ k < 50) ∨ k = 58 ∨ k = 60 → τ.2.2.1 72 k = σ.2.2.1 72 k) ∧ (iv_sw σ → iv_sw τ)
theorem iv_kept.rest {σ τ : hp_S} (h : iv_kept σ τ) : iv_rest σ τ := by
  obtain ⟨a1, a2, a3, a4, a5, a6, a7, a8, a9⟩ := h
  exact ⟨fun a q => a1 a (by omega), a3, a4, a5, a6, a7, a8, a9⟩
theorem iv_rest.tr {σ τ υ : hp_S} (h : iv_rest σ τ) (k : iv_rest τ υ) : iv_rest σ υ := by
  obtain ⟨a1, a3, a4, a5, a6, a7, a8, a9⟩ := h
  obtain ⟨b1, b3, b4, b5, b6, b7, b8, b9⟩ := k
  exact ⟨fun a q => (b1 a q).trans (a1 a q), b3.trans a3, b4.trans a4, fun k q => (b5 k q).trans (a5 k q), b6.trans a6, b7.trans a7, fun k q => (b8 k q).trans (a8 k q), fun q => b9 (a9 q)⟩
theorem iv_wf.congr {n dg : Int32} {f g : Nat → Int32} (h : iv_wf n dg f) (e : ∀ k, k < 24 → g k = f k) : iv_wf n dg g := by
  rcases h with h | ⟨m, d, h1, h2, h3, h4, h5, h6, h7, h8⟩
  · exact Or.inl h
  · refine Or.inr ⟨m, d, h1, h2, h3, h4, h5, h6, fun a ha b hb => ?_, fun a ha => by rw [e a ha]; exact h8 a ha⟩
    rw [e a ha] at hb
    obtain ⟨q1, q2, q3, q4⟩ := h7 a ha b hb
    exact ⟨q1, q2, q3, by rw [e b (by omega)]; exact q4⟩
theorem iv.put {J : iv_J} {σ τ : hp_S} {s : Nat} {n dg : Int32} {f : Nat → Int32} (h : iv J σ) (hr : iv_rest σ τ) (hs : s < 8)
    (ho : ∀ t, t < 8 → t ≠ s → τ.2.2.1 (2 + 2 * t) 1 = σ.2.2.1 (2 + 2 * t) 1 ∧ τ.2.2.1 (2 + 2 * t) 2 = σ.2.2.1 (2 + 2 * t) 2 ∧ τ.1 (3 + 2 * t) = σ.1 (3 + 2 * t) ∧ τ.1 73 t = σ.1 73 t ∧ τ.1 74 t = σ.1 74 t ∧ ∀ k, k < 24 → τ.1 75 (24 * t + k) = σ.1 75 (24 * t + k))
    (h1 : τ.2.2.1 (2 + 2 * s) 1 = n) (h2 : τ.2.2.1 (2 + 2 * s) 2 = dg) (h3 : ∀ k, k < 24 → τ.1 (3 + 2 * s) k = f k) (h4 : τ.1 73 s = n) (h5 : τ.1 74 s = dg) (h6 : ∀ k, k < 24 → τ.1 75 (24 * s + k) = f k) (hw : iv_wf n dg f) : iv J τ := by
  obtain ⟨a1, a3, a4, a5, a6, a7, a8, a9⟩ := hr
  obtain ⟨g1, g2, g3, g4, g5, g6, g7⟩ := h
  refine ⟨fun t ht => ?_, g2.fr a3 (a8 8 (by omega)) (a1 23 (by omega)) (a1 77 (by omega)), g3.fr a4 (a8 10 (by omega)), g4.fr a5 (fun k q1 q2 => a8 k (by omega)), g5.fr a6 (a8 58 (by omega)) (a1 56 (by omega)) (a1 103 (by omega)), g6.fr a7 (a8 60 (by omega)) (a1 58 (by omega)) (a1 104 (by omega)), by rw [iv_cs.fr (fun a q => a1 a (by omega))]; exact ⟨g7.1, a9 g7.2⟩⟩
  by_cases e : t = s
  · subst e
    rw [h1, h2, h4, h5]
    exact ⟨rfl, rfl, fun k hk => by rw [h3 k hk, h6 k hk], hw.congr h3⟩
  · obtain ⟨q1, q2, q3, q4, q5, q6⟩ := ho t ht e
    obtain ⟨r1, r2, r3, r4⟩ := g1 t ht
    rw [q1, q2, q3, q4, q5]
    exact ⟨r1, r2, fun k hk => by rw [q6 k hk]; exact r3 k hk, r4⟩
/-- a stretch of a row is written -/
def hp_fillr (σ : hp_S) (a lo k : Nat) (g : Nat → Int32) : hp_S := ((fun b j => if b = a ∧ lo ≤ j ∧ j < lo + k then g (j - lo) else σ.1 b j), σ.2)
theorem hp_fillr_0 {σ : hp_S} {a lo : Nat} {g : Nat → Int32} : hp_fillr σ a lo 0 g = σ := by
  unfold hp_fillr
  congr 1
  funext b j
  rw [if_neg (fun q => by omega)]
theorem hp_fillr_s {σ : hp_S} {a lo k : Nat} {g : Nat → Int32} : hp_wi (hp_fillr σ a lo k g) a (lo + k) (g k) = hp_fillr σ a lo (k + 1) g := by
  unfold hp_wi hp_fillr
  simp only
  congr 1
  funext b j
  unfold hp_up
  by_cases h : b = a ∧ j = lo + k
  · rw [if_pos h, if_pos ⟨h.1, by omega, by omega⟩, h.2, show lo + k - lo = k by omega]
  · rw [if_neg h]
    show (if b = a ∧ lo ≤ j ∧ j < lo + k then g (j - lo) else σ.1 b j) = _
    by_cases h2 : b = a ∧ lo ≤ j ∧ j < lo + k
    · rw [if_pos h2, if_pos ⟨h2.1, h2.2.1, by omega⟩]
    · rw [if_neg h2, if_neg (fun q => by
        rcases Nat.lt_or_ge j (lo + k) with q2 | q2
        · exact h2 ⟨q.1, q.2.1, q2⟩
        · exact h ⟨q.1, by omega⟩)]
theorem hp_fillr_ne {σ : hp_S} {a b lo k : Nat} {g : Nat → Int32} (h : b ≠ a) : (hp_fillr σ a lo k g).1 b = σ.1 b := by
  funext j
  show (if b = a ∧ lo ≤ j ∧ j < lo + k then g (j - lo) else σ.1 b j) = _
  rw [if_neg (fun q => h q.1)]
theorem hp_fillr_at {σ : hp_S} {a lo k j : Nat} {g : Nat → Int32} (h : j < k) : (hp_fillr σ a lo k g).1 a (lo + j) = g j := by
  show (if a = a ∧ lo ≤ lo + j ∧ lo + j < lo + k then g (lo + j - lo) else σ.1 a (lo + j)) = _
  rw [if_pos ⟨rfl, by omega, by omega⟩, show lo + j - lo = j by omega]
theorem hp_fillr_out {σ : hp_S} {a lo k j : Nat} {g : Nat → Int32} (h : j < lo ∨ lo + k ≤ j) : (hp_fillr σ a lo k g).1 a j = σ.1 a j := by
  show (if a = a ∧ lo ≤ j ∧ j < lo + k then g (j - lo) else σ.1 a j) = _
  rw [if_neg (fun q => by omega)]
section PT
variable {σ : hp_S} {cs : Nat × Nat} {N s : Nat} {n dg : Int32}
/-- the model's keeps -/
def m_kp (σ : hp_S) (s : Nat) : hp_S := hp_fillr (hp_wi (hp_wi σ 73 s (σ.2.2.1 72 4)) 74 s (σ.2.2.1 72 5)) 75 (24 * s) 24 (σ.1 76)
theorem m_keeps_loop (h : s < 8) : ∀ (m k q : Nat), k + m = 24 → m < q → g179_22 N q 72 (nI s) (nI k) (hp (hp_fillr σ 75 (24 * s) k (σ.1 76)), cs) = some (.inl none, (hp (hp_fillr σ 75 (24 * s) 24 (σ.1 76)), cs)) := by
  intro m
  induction m with
  | zero =>
    intro k q hk hq
    obtain ⟨q, rfl⟩ : ∃ u, q = u + 1 := ⟨q - 1, by omega⟩
    unfold g179_22
    rw [show k = 24 by omega, if_pos (show (24 : Int32) ≤ nI 24 by decide)]
  | succ m ih =>
    intro k q hk hq
    obtain ⟨q, rfl⟩ : ∃ u, q = u + 1 := ⟨q - 1, by omega⟩
    unfold g179_22
    rw [if_neg (show ¬ (24 : Int32) ≤ nI k from nI_ge (b := 24) (by omega) (by omega)), hp_fr (a := 72) (k := 3) (b := 75) rfl rfl, Option.bind_some, hp_fr (a := 72) (k := 6) (b := 76) rfl rfl, Option.bind_some, hp_ri (a := 76) (n := 24) rfl (in_nI (by omega) (by omega)), Option.bind_some, nI_clamp (by omega), hp_fillr_ne (by decide), show (24 : Int32) * nI s + nI k = nI (24 * s + k) by rw [show (24 : Int32) = nI 24 from rfl, pk_mul, nI_add], hp_swi (a := 75) (n := 192) rfl (in_nI (by omega) (by omega)), Option.bind_some, nI_clamp (by omega), hp_fillr_s, nI_1]
    exact ih (k + 1) q (by omega) (by omega)
theorem m_keeps (h : s < 8) (hN : iv_N N) : f179 N 72 (nI s) (hp σ, cs) = some (.inl none, (hp (m_kp σ s), cs)) := by
  unfold f179
  rw [hp_fr (a := 72) (k := 1) (b := 73) rfl rfl, Option.bind_some, hp_fi (a := 72) (k := 4) rfl rfl, Option.bind_some, hp_swi (a := 73) (n := 8) rfl (in_nI h (by omega)), Option.bind_some, nI_clamp (by omega), hp_fr (a := 72) (k := 2) (b := 74) rfl rfl, Option.bind_some, hp_fi (a := 72) (k := 5) rfl rfl, Option.bind_some, hp_swi (a := 74) (n := 8) rfl (in_nI h (by omega)), Option.bind_some, nI_clamp (by omega)]
  have e := m_keeps_loop (σ := hp_wi (hp_wi σ 73 s (σ.2.2.1 72 4)) 74 s (σ.2.2.1 72 5)) (cs := cs) (N := N) h 24 0 N rfl (by unfold iv_N at hN; omega)
  rw [hp_fillr_0] at e
  have e2 : (hp_wi (hp_wi σ 73 s (σ.2.2.1 72 4)) 74 s (σ.2.2.1 72 5)).1 76 = σ.1 76 := by
    show hp_up (hp_up σ.1 73 s (σ.2.2.1 72 4)) 74 s (σ.2.2.1 72 5) 76 = _
    rw [hp_up_ne (by decide), hp_up_ne (by decide)]
  rw [e2] at e
  exact e
theorem hp_wi_ne {a b j : Nat} {x : Int32} (h : b ≠ a) : (hp_wi σ a j x).1 b = σ.1 b := hp_up_ne h
theorem hp_wi_at {a j : Nat} {x : Int32} : (hp_wi σ a j x).1 a j = x := by
  show hp_up σ.1 a j x a j = x
  unfold hp_up
  rw [if_pos ⟨rfl, rfl⟩]
theorem hp_wi_nj {a j l : Nat} {x : Int32} (h : l ≠ j) : (hp_wi σ a j x).1 a l = σ.1 a l := by
  show hp_up σ.1 a j x a l = _
  unfold hp_up
  rw [if_neg (fun q => h q.2)]
theorem m_kp_n : (m_kp σ s).1 73 s = σ.2.2.1 72 4 := by
  unfold m_kp
  rw [hp_fillr_ne (by decide), hp_wi_ne (by decide), hp_wi_at]
theorem m_kp_d : (m_kp σ s).1 74 s = σ.2.2.1 72 5 := by
  unfold m_kp
  rw [hp_fillr_ne (by decide), hp_wi_at]
theorem m_kp_j {k : Nat} (h : k < 24) : (m_kp σ s).1 75 (24 * s + k) = σ.1 76 k := hp_fillr_at h
theorem m_kp_no {t : Nat} (h : t ≠ s) : (m_kp σ s).1 73 t = σ.1 73 t ∧ (m_kp σ s).1 74 t = σ.1 74 t ∧ ∀ k, k < 24 → (m_kp σ s).1 75 (24 * t + k) = σ.1 75 (24 * t + k) := by
  unfold m_kp
  refine ⟨?_, ?_, fun k hk => ?_⟩
  · rw [hp_fillr_ne (by decide), hp_wi_ne (by decide), hp_wi_nj h]
  · rw [hp_fillr_ne (by decide), hp_wi_nj h, hp_wi_ne (by decide)]
  · rw [hp_fillr_out (by omega), hp_wi_ne (by decide), hp_wi_ne (by decide)]
theorem m_kp_ne {a : Nat} (h : a ≠ 73 ∧ a ≠ 74 ∧ a ≠ 75) : (m_kp σ s).1 a = σ.1 a := by
  unfold m_kp
  rw [hp_fillr_ne h.2.2, hp_wi_ne h.2.1, hp_wi_ne h.1]
theorem m_kp_f : (m_kp σ s).2 = σ.2 := rfl
/-- the model's clears -/
def m_cl (σ : hp_S) (n dg : Int32) : hp_S := hp_fill (hp_wf (hp_wf σ 72 4 n) 72 5 dg) 76 24 (fun _ => 0)
theorem m_clears_loop : ∀ (m k q : Nat), k + m = 24 → m < q → g180_12 N q 72 (nI k) (hp (hp_fill σ 76 k (fun _ => 0)), cs) = some (.inl none, (hp (hp_fill σ 76 24 (fun _ => 0)), cs)) := by
  intro m
  induction m with
  | zero =>
    intro k q hk hq
    obtain ⟨q, rfl⟩ : ∃ u, q = u + 1 := ⟨q - 1, by omega⟩
    unfold g180_12
    rw [show k = 24 by omega, if_pos (show (24 : Int32) ≤ nI 24 by decide)]
  | succ m ih =>
    intro k q hk hq
    obtain ⟨q, rfl⟩ : ∃ u, q = u + 1 := ⟨q - 1, by omega⟩
    unfold g180_12
    rw [if_neg (show ¬ (24 : Int32) ≤ nI k from nI_ge (b := 24) (by omega) (by omega)), hp_fr (a := 72) (k := 6) (b := 76) rfl rfl, Option.bind_some, hp_swi (a := 76) (n := 24) rfl (in_nI (by omega) (by omega)), Option.bind_some, nI_clamp (by omega), hp_fill_s (g := fun _ => 0), nI_1]
    exact ih (k + 1) q (by omega) (by omega)
theorem m_clears (hN : iv_N N) : f180 N 72 n dg (hp σ, cs) = some (.inl none, (hp (m_cl σ n dg), cs)) := by
  unfold f180
  rw [hp_swf (a := 72) (k := 4) rfl rfl rfl, Option.bind_some, hp_swf (a := 72) (k := 5) rfl rfl rfl, Option.bind_some]
  have e := m_clears_loop (σ := hp_wf (hp_wf σ 72 4 n) 72 5 dg) (cs := cs) (N := N) 24 0 N rfl (by unfold iv_N at hN; omega)
  rw [hp_fill_0] at e
  exact e
/-- the class's begin -/
def c_bg (σ : hp_S) (s : Nat) (n dg : Int32) : hp_S := hp_fill (hp_wf (hp_wf σ (2 + 2 * s) 1 n) (2 + 2 * s) 2 dg) (3 + 2 * s) 24 (fun _ => 0)
theorem c_begin_loop (h : s < 8) : ∀ (m k q : Nat), k + m = 24 → m < q → g51_12 N q (2 + 2 * s) (nI k) (hp (hp_fill σ (3 + 2 * s) k (fun _ => 0)), cs) = some (.inl none, (hp (hp_fill σ (3 + 2 * s) 24 (fun _ => 0)), cs)) := by
  intro m
  induction m with
  | zero =>
    intro k q hk hq
    obtain ⟨q, rfl⟩ : ∃ u, q = u + 1 := ⟨q - 1, by omega⟩
    unfold g51_12
    rw [show k = 24 by omega, if_pos (show (24 : Int32) ≤ nI 24 by decide)]
  | succ m ih =>
    intro k q hk hq
    obtain ⟨q, rfl⟩ : ∃ u, q = u + 1 := ⟨q - 1, by omega⟩
    unfold g51_12
    rw [if_neg (show ¬ (24 : Int32) ≤ nI k from nI_ge (b := 24) (by omega) (by omega)), c_rw h, Option.bind_some, hp_swi (lay_row h) (in_nI (by omega) (by omega)), Option.bind_some, nI_clamp (by omega), hp_fill_s (g := fun _ => 0), nI_1]
    exact ih (k + 1) q (by omega) (by omega)
theorem c_begin (h : s < 8) (hN : iv_N N) : f51 N (2 + 2 * s) n dg (hp σ, cs) = some (.inl none, (hp (c_bg σ s n dg), cs)) := by
  unfold f51
  rw [hp_swf (lay_net h) (k := 1) rfl rfl, Option.bind_some, hp_swf (lay_net h) (k := 2) rfl rfl, Option.bind_some]
  have e := c_begin_loop (σ := hp_wf (hp_wf σ (2 + 2 * s) 1 n) (2 + 2 * s) 2 dg) (cs := cs) (N := N) h 24 0 N rfl (by unfold iv_N at hN; omega)
  rw [hp_fill_0] at e
  exact e
end PT
