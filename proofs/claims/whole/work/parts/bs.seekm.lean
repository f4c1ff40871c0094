/-! seek, the model -/
section SM1
variable {cs : Nat × Nat} {N K a b deg : Nat} {M B : Int32} {σ τ : hp_S}
/-- the model's units and products -/
def MC (σ : hp_S) (K a b : Nat) (U : List Int32) : Prop := σ.2.2.1 72 38 = nI U.length ∧ (∀ i, i < U.length → σ.1 91 i = U.getD i 0) ∧ ∀ s x, s < a * b → x < a * b → σ.1 93 (24 * s + x) = nI (gop K a b x s)
theorem MC.fr {U : List Int32} {A : List Nat} {F : List (Nat × Nat)} (h : MC σ K a b U) (k : fr A F σ τ) (h1 : 91 ∉ A) (h2 : 93 ∉ A) (h3 : (72, 38) ∉ F) : MC τ K a b U := ⟨by rw [k.f h3]; exact h.1, fun i hi => by rw [k.r h1]; exact h.2.1 i hi, fun s x hs hx => by rw [k.r h2]; exact h.2.2 s x hs hx⟩
theorem m_u8 {x4 : Int32} (h : gok K a b) (hN : iv_N N) : ∀ (m s u : Nat) (σ : hp_S), 1 + s + m = a * b → m < u → σ.2.2.1 72 38 = nI (uLst K a b s).length → (∀ i, i < (uLst K a b s).length → σ.1 91 i = (uLst K a b s).getD i 0) → ∃ τ, fr [91] [(72, 38)] σ τ ∧ τ.2.2.1 72 38 = nI (uLst K a b (a * b - 1)).length ∧ (∀ i, i < (uLst K a b (a * b - 1)).length → τ.1 91 i = (uLst K a b (a * b - 1)).getD i 0) ∧ g246_8 N u 72 (nI K) (nI a) (nI b) x4 (nI (1 + s)) (hp σ, cs) = g246_73 N N 72 (nI K) (nI a) (nI b) x4 0 (hp τ, cs) := by
  have hn := h.2.2.1
  intro m
  induction m with
  | zero =>
    intro s u σ hs hu h1 h2
    obtain ⟨u, rfl⟩ : ∃ q, u = q + 1 := ⟨u - 1, by omega⟩
    refine ⟨σ, fr.rf, by rw [show a * b - 1 = s by omega]; exact h1, by rw [show a * b - 1 = s by omega]; exact h2, ?_⟩
    unfold g246_8
    rw [pk_mul, if_pos (nI_le (by omega) (by omega))]
  | succ m ih =>
    intro s u σ hs hu h1 h2
    obtain ⟨u, rfl⟩ : ∃ q, u = q + 1 := ⟨u - 1, by omega⟩
    have hs1 : 1 + s < a * b := by omega
    have hgi := (g_inv h hs1).1
    have hnl : ¬ nI (a * b) ≤ nI (1 + s) := nI_ge (by omega) (by omega)
    have hll := uLst_len (K := K) (a := a) (b := b) (m := s)
    have e9 : ∀ w : lf_W, f209 N (nI K) (nI a) (nI b) (nI (1 + s)) w = some (.inl (some (.int (nI (ginv K a b (1 + s))))), w) := fun w => by
      unfold f209
      exact m_gi (N := N) h hs1 (ginv K a b (1 + s)) 0 N (by omega) (by unfold iv_N at hN; omega)
    by_cases c : 1 + s ≤ ginv K a b (1 + s)
    · have eU : uLst K a b (s + 1) = uLst K a b s ++ [uS2 K a b (1 + s)] := by
        unfold uLst
        rw [uLs_s, if_pos c, List.map_append]
        rfl
      have w1 : fr [91] [(72, 38)] σ (hp_wf (hp_wi σ 91 (uLst K a b s).length (uS2 K a b (1 + s))) 72 38 (nI ((uLst K a b s).length + 1))) := (fr.wi (by decide)).tr (fr.wf (by decide))
      obtain ⟨τ, q1, q2, q3, q4⟩ := ih (s + 1) u (hp_wf (hp_wi σ 91 (uLst K a b s).length (uS2 K a b (1 + s))) 72 38 (nI ((uLst K a b s).length + 1))) (by omega) (by omega) (by rw [eU, hp_wf_at, List.length_append, List.length_singleton]) (fun i hi => by
        rw [eU] at hi ⊢
        rw [List.length_append, List.length_singleton] at hi
        show (hp_wi σ 91 (uLst K a b s).length (uS2 K a b (1 + s))).1 91 i = _
        by_cases ci : i = (uLst K a b s).length
        · subst ci
          rw [hp_wi_at, List.getD_eq_getElem?_getD, List.getElem?_append_right (Nat.le_refl _), Nat.sub_self]
          rfl
        · rw [hp_wi_nj ci, List.getD_eq_getElem?_getD, List.getElem?_append_left (by omega), ← List.getD_eq_getElem?_getD]
          exact h2 i (by omega))
      refine ⟨τ, w1.tr q1, q2, q3, ?_⟩
      unfold g246_8 g246_64
      rw [pk_mul, if_neg hnl, e9, lf_ci_r, if_pos (nI_le c (by omega)), r72_36, i72_38, h1, b91 (by omega), i72_38]
      rw [show (hp_wi σ 91 (uLst K a b s).length (lf_shl 1 (nI (1 + s)) ||| lf_shl 1 (nI (ginv K a b (1 + s))))).2.2.1 72 38 = nI (uLst K a b s).length from h1, w72_38, nI_1, nI_1]
      exact q4
    · have eU : uLst K a b (s + 1) = uLst K a b s := by
        unfold uLst
        rw [uLs_s, if_neg c]
      obtain ⟨τ, q1, q2, q3, q4⟩ := ih (s + 1) u σ (by omega) (by omega) (by rw [eU]; exact h1) (by rw [eU]; exact h2)
      refine ⟨τ, q1, q2, q3, ?_⟩
      unfold g246_8 g246_64
      rw [pk_mul, if_neg hnl, e9, lf_ci_r, if_neg (nI_ge (by omega) (by omega)), nI_1]
      exact q4
theorem m_u73 {x1 x2 x3 x4 : Int32} : ∀ (m x u : Nat) (σ : hp_S), x + m = 576 → m < u → ∃ τ, fr [93] [] σ τ ∧ g246_73 N u 72 x1 x2 x3 x4 (nI x) (hp σ, cs) = g246_98 N N 72 x1 x2 x3 x4 0 (hp τ, cs) := by
  intro m
  induction m with
  | zero =>
    intro x u σ hx hu
    obtain ⟨u, rfl⟩ : ∃ q, u = q + 1 := ⟨u - 1, by omega⟩
    refine ⟨σ, fr.rf, ?_⟩
    unfold g246_73
    rw [if_pos (show (576 : Int32) ≤ nI x from nI_le (a := 576) (by omega) (by omega))]
  | succ m ih =>
    intro x u σ hx hu
    obtain ⟨u, rfl⟩ : ∃ q, u = q + 1 := ⟨u - 1, by omega⟩
    obtain ⟨τ, q1, q2⟩ := ih (x + 1) u (hp_wi σ 93 x 0) (by omega) (by omega)
    refine ⟨τ, (fr.wi (by decide)).tr q1, ?_⟩
    unfold g246_73
    rw [if_neg (show ¬ (576 : Int32) ≤ nI x from nI_ge (b := 576) (by omega) (by omega)), r72_43, b93 (by omega), nI_1]
    exact q2
theorem m_u109 {x4 : Int32} {s : Nat} {k98 : Nat → Int32 → Int32 → Int32 → Int32 → Int32 → lf_W → lf_R} (h : gok K a b) (hs : s < a * b) : ∀ (m x u : Nat) (σ : hp_S), x + m = a * b → m < u → (∀ x', x' < x → σ.1 93 (24 * s + x') = nI (gop K a b x' s)) → ∃ τ, fr [93] [] σ τ ∧ (∀ x', x' < a * b → τ.1 93 (24 * s + x') = nI (gop K a b x' s)) ∧ (∀ j, j < 24 * s → τ.1 93 j = σ.1 93 j) ∧ g246_109 N k98 u 72 (nI K) (nI a) (nI b) x4 (nI s) (nI x) (hp σ, cs) = k98 72 (nI K) (nI a) (nI b) x4 (nI (s + 1)) (hp τ, cs) := by
  have hn := h.2.2.1
  intro m
  induction m with
  | zero =>
    intro x u σ hx hu hd
    obtain ⟨u, rfl⟩ : ∃ q, u = q + 1 := ⟨u - 1, by omega⟩
    refine ⟨σ, fr.rf, fun x' hx' => hd x' (by omega), fun _ _ => rfl, ?_⟩
    unfold g246_109
    rw [pk_mul, if_pos (nI_le (by omega) (by omega)), nI_1]
  | succ m ih =>
    intro x u σ hx hu hd
    obtain ⟨u, rfl⟩ : ∃ q, u = q + 1 := ⟨u - 1, by omega⟩
    obtain ⟨τ, q1, q2, q3, q4⟩ := ih (x + 1) u (hp_wi σ 93 (24 * s + x) (nI (gop K a b x s))) (by omega) (by omega) (fun x' hx' => by
      by_cases c : x' = x
      · rw [c, hp_wi_at]
      · rw [hp_wi_nj (by omega)]; exact hd x' (by omega))
    refine ⟨τ, (fr.wi (by decide)).tr q1, q2, fun j hj => by rw [q3 j hj, hp_wi_nj (by omega)], ?_⟩
    unfold g246_109
    rw [pk_mul, if_neg (nI_ge (by omega) (by omega)), r72_43, m_op h (by omega) (by omega), lf_ci_r, ix_a, b93 (by omega), nI_1]
    exact q4
theorem m_u98 {x4 : Int32} (h : gok K a b) (hN : iv_N N) : ∀ (m s u : Nat) (σ : hp_S), s + m = a * b → m < u → (∀ s' x', s' < s → x' < a * b → σ.1 93 (24 * s' + x') = nI (gop K a b x' s')) → ∃ τ, fr [93] [] σ τ ∧ (∀ s' x', s' < a * b → x' < a * b → τ.1 93 (24 * s' + x') = nI (gop K a b x' s')) ∧ g246_98 N u 72 (nI K) (nI a) (nI b) x4 (nI s) (hp σ, cs) = (lf_cv (f247 N 72 0 (nI (a * b)) (hp (hp_wf τ 72 42 (-1)), cs)) fun w4 => g246_178 N N 72 (nI a) (nI b) x4 0 0 0 1 w4) := by
  have hn := h.2.2.1
  intro m
  induction m with
  | zero =>
    intro s u σ hs hu hd
    obtain ⟨u, rfl⟩ : ∃ q, u = q + 1 := ⟨u - 1, by omega⟩
    refine ⟨σ, fr.rf, fun s' x' h1 h2 => hd s' x' (by omega) h2, ?_⟩
    unfold g246_98
    rw [pk_mul, if_pos (nI_le (by omega) (by omega)), w72_42, o72]
  | succ m ih =>
    intro s u σ hs hu hd
    obtain ⟨u, rfl⟩ : ∃ q, u = q + 1 := ⟨u - 1, by omega⟩
    obtain ⟨τ1, a1, a2, a3, a4⟩ := m_u109 (N := N) (cs := cs) (x4 := x4) (s := s) (k98 := g246_98 N u) h (by omega) (a * b) 0 N σ (by omega) (by unfold iv_N at hN; omega) (fun x' hx' => absurd hx' (Nat.not_lt_zero _))
    obtain ⟨τ, q1, q2, q3⟩ := ih (s + 1) u τ1 (by omega) (by omega) (fun s' x' h1 h2 => by
      by_cases c : s' = s
      · rw [c]; exact a2 x' h2
      · rw [a3 _ (by omega)]; exact hd s' x' (by omega) h2)
    refine ⟨τ, a1.tr q1, q2, ?_⟩
    unfold g246_98
    rw [pk_mul, if_neg (nI_ge (by omega) (by omega))]
    rw [show g246_109 N (g246_98 N u) N 72 (nI K) (nI a) (nI b) x4 (nI s) 0 (hp σ, cs) = _ from a4]
    exact q3
/-- the moves one by one -/
def mL (M : Int32) (m : Nat) : List Nat := (List.range' 1 m).filter (fun s => bt M s)
theorem mL_s {m : Nat} : mL M (m + 1) = if bt M (1 + m) = true then mL M m ++ [1 + m] else mL M m := by
  unfold mL
  rw [List.range'_1_concat, List.filter_append]
  by_cases c : bt M (1 + m) = true
  · rw [if_pos c]
    simp [c]
  · rw [if_neg c]
    simp [c]
theorem mL_mem {m s : Nat} : s ∈ mL M m ↔ (1 ≤ s ∧ s < 1 + m) ∧ bt M s = true := by
  unfold mL
  rw [List.mem_filter, List.mem_range'_1]
theorem mL_le {m : Nat} : (mL M m).length ≤ m := by
  unfold mL
  have := List.length_filter_le (fun s => bt M s) (List.range' 1 m)
  rw [List.length_range'] at this
  exact this
theorem mL_pc {n : Nat} (h1 : 1 ≤ n) (hn : n ≤ 24) (hM : good n M) : (mL M (n - 1)).length = i_pc M := by
  rw [← bl_len, bl_n (n := n) (by omega) (fun i hi => (hM i hi).2)]
  obtain ⟨m, rfl⟩ : ∃ m, n = m + 1 := ⟨n - 1, by omega⟩
  rw [List.range'_succ]
  have h0 : bt M 0 = false := by
    cases e : bt M 0 with
    | false => rfl
    | true => have := (hM 0 e).1; omega
  rw [List.filter_cons, h0]
  rfl
theorem m_tq5 {n : Nat} (hn : n ≤ 24) : ∀ (m s u : Nat) (σ : hp_S), 1 + s + m = n → m < u → (∀ i, i < (mL M s).length → σ.1 94 i = nI ((mL M s).getD i 0)) → ∃ τ, fr [94] [] σ τ ∧ (∀ i, i < (mL M (n - 1)).length → τ.1 94 i = nI ((mL M (n - 1)).getD i 0)) ∧ g247_5 N u 72 M (nI n) (nI (mL M s).length) (nI (1 + s)) (hp σ, cs) = g247_55 N N 72 M (nI n) (nI (mL M (n - 1)).length) 1 1 0 0 0 (hp τ, cs) := by
  intro m
  induction m with
  | zero =>
    intro s u σ hs hu h2
    obtain ⟨u, rfl⟩ : ∃ q, u = q + 1 := ⟨u - 1, by omega⟩
    refine ⟨σ, fr.rf, by rw [show n - 1 = s by omega]; exact h2, ?_⟩
    unfold g247_5
    rw [if_pos (nI_le (by omega) (by omega)), show n - 1 = s by omega]
  | succ m ih =>
    intro s u σ hs hu h2
    obtain ⟨u, rfl⟩ : ∃ q, u = q + 1 := ⟨u - 1, by omega⟩
    have hll := mL_le (M := M) (m := s)
    by_cases c : bt M (1 + s) = true
    · have eU : mL M (s + 1) = mL M s ++ [1 + s] := by rw [mL_s, if_pos c]
      obtain ⟨τ, q1, q2, q3⟩ := ih (s + 1) u (hp_wi σ 94 (mL M s).length (nI (1 + s))) (by omega) (by omega) (fun i hi => by
        rw [eU] at hi ⊢
        rw [List.length_append, List.length_singleton] at hi
        by_cases ci : i = (mL M s).length
        · subst ci
          rw [hp_wi_at, List.getD_eq_getElem?_getD, List.getElem?_append_right (Nat.le_refl _), Nat.sub_self]
          rfl
        · rw [hp_wi_nj ci, List.getD_eq_getElem?_getD, List.getElem?_append_left (by omega), ← List.getD_eq_getElem?_getD]
          exact h2 i (by omega))
      refine ⟨τ, (fr.wi (by decide)).tr q1, q2, ?_⟩
      rw [eU, List.length_append, List.length_singleton] at q3
      unfold g247_5 g247_34
      rw [if_neg (nI_ge (by omega) (by omega)), sh_bit (by omega), if_pos c, if_pos (by decide), r72_44, b94 (by omega), nI_1, nI_1]
      exact q3
    · have eU : mL M (s + 1) = mL M s := by rw [mL_s, if_neg c]
      obtain ⟨τ, q1, q2, q3⟩ := ih (s + 1) u σ (by omega) (by omega) (by rw [eU]; exact h2)
      refine ⟨τ, q1, q2, ?_⟩
      rw [eU] at q3
      unfold g247_5 g247_34
      rw [if_neg (nI_ge (by omega) (by omega)), sh_bit (by omega), if_neg c, if_neg (fun z => z rfl), nI_1]
      exact q3
/-- one thing goes on by all moves -/
theorem m_t92 {x : Nat} {x1 x4 x5 x6 x7 x8 : Int32} {L : List Nat} {k55 : Nat → Int32 → Int32 → Int32 → Int32 → Int32 → Int32 → Int32 → Int32 → lf_W → lf_R} {k83 : Nat → Int32 → Int32 → Int32 → Int32 → Int32 → Int32 → Int32 → Int32 → Int32 → Int32 → lf_W → lf_R} (h : gok K a b) (hx : x < a * b) (hLn : ∀ m, m ∈ L → m < a * b) (hL24 : L.length ≤ 24) (hL : ∀ i, i < L.length → σ.1 94 i = nI (L.getD i 0)) (h93 : ∀ s x, s < a * b → x < a * b → σ.1 93 (24 * s + x) = nI (gop K a b x s)) (hbt : bt x5 x = true) : ∀ (m i u : Nat) (W : Int32), i + m = L.length → m < u → ∃ W', (∀ j, bt W' j = true ↔ bt W j = true ∨ ∃ k, i ≤ k ∧ k < L.length ∧ j = gop K a b x (L.getD k 0)) ∧ g247_92 N k55 k83 u 72 x1 (nI (a * b)) (nI L.length) x4 x5 x6 x7 x8 W (nI x) (nI i) (hp σ, cs) = k83 72 x1 (nI (a * b)) (nI L.length) x4 x5 x6 x7 x8 W' (nI (x + 1)) (hp σ, cs) := by
  have hn := h.2.2.1
  intro m
  induction m with
  | zero =>
    intro i u W hi hu
    obtain ⟨u, rfl⟩ : ∃ q, u = q + 1 := ⟨u - 1, by omega⟩
    refine ⟨W, fun j => ⟨Or.inl, fun z => ?_⟩, ?_⟩
    · rcases z with z | ⟨k, k1, k2, k3⟩
      · exact z
      · omega
    · unfold g247_92 g247_140
      rw [if_pos (nI_le (by omega) (by omega)), nI_1]
  | succ m ih =>
    intro i u W hi hu
    obtain ⟨u, rfl⟩ : ∃ q, u = q + 1 := ⟨u - 1, by omega⟩
    have hiL : i < L.length := by omega
    have hmn := hLn _ (gx_in hiL)
    have hg := (g_op h hx hmn).1
    obtain ⟨W', q1, q2⟩ := ih (i + 1) u (W ||| lf_shl 1 (nI (gop K a b x (L.getD i 0)))) (by omega) (by omega)
    refine ⟨W', fun j => ?_, ?_⟩
    · rw [q1 j, tk_on (by omega)]
      constructor
      · rintro ((z | z) | ⟨k, k1, k2, k3⟩)
        · exact Or.inl z
        · exact Or.inr ⟨i, Nat.le_refl _, hiL, z⟩
        · exact Or.inr ⟨k, by omega, k2, k3⟩
      · rintro (z | ⟨k, k1, k2, k3⟩)
        · exact Or.inl (Or.inl z)
        · by_cases c : k = i
          · subst c
            exact Or.inl (Or.inr k3)
          · exact Or.inr ⟨k, by omega, k2, k3⟩
    · unfold g247_92
      rw [if_neg (nI_ge hiL (by omega)), sh_bit (by omega), if_pos hbt, if_neg (fun z => z rfl), r72_43, r72_44, a94 (by omega), hL i hiL, ix_a, a93 (by omega), h93 _ x hmn hx, nI_1]
      exact q2
theorem m_t83 {x1 x4 x5 x6 x7 x8 : Int32} {L : List Nat} {k55 : Nat → Int32 → Int32 → Int32 → Int32 → Int32 → Int32 → Int32 → Int32 → lf_W → lf_R} (h : gok K a b) (hN : iv_N N) (hLn : ∀ m, m ∈ L → m < a * b) (hL24 : L.length ≤ 24) (hL : ∀ i, i < L.length → σ.1 94 i = nI (L.getD i 0)) (h93 : ∀ s x, s < a * b → x < a * b → σ.1 93 (24 * s + x) = nI (gop K a b x s)) : ∀ (m x u : Nat) (W : Int32), x + m = a * b → m < u → (∀ j, bt W j = true ↔ ∃ y, y < x ∧ bt x5 y = true ∧ ∃ k, k < L.length ∧ j = gop K a b y (L.getD k 0)) → ∃ W', (∀ j, bt W' j = true ↔ ∃ y, y < a * b ∧ bt x5 y = true ∧ ∃ k, k < L.length ∧ j = gop K a b y (L.getD k 0)) ∧ g247_83 N k55 u 72 x1 (nI (a * b)) (nI L.length) x4 x5 x6 x7 x8 W (nI x) (hp σ, cs) = k55 72 x1 (nI (a * b)) (nI L.length) (x4 ||| (W' &&& (x4 ^^^ (-1)))) (W' &&& (x4 ^^^ (-1))) (x6 + 1) x7 x8 (hp σ, cs) := by
  have hn := h.2.2.1
  intro m
  induction m with
  | zero =>
    intro x u W hx hu hW
    obtain ⟨u, rfl⟩ : ∃ q, u = q + 1 := ⟨u - 1, by omega⟩
    have : x = a * b := by omega
    refine ⟨W, by rw [← this]; exact hW, ?_⟩
    unfold g247_83
    rw [if_pos (nI_le (by omega) (by omega))]
  | succ m ih =>
    intro x u W hx hu hW
    obtain ⟨u, rfl⟩ : ∃ q, u = q + 1 := ⟨u - 1, by omega⟩
    by_cases c : bt x5 x = true
    · obtain ⟨W1, a1, a2⟩ := m_t92 (N := N) (cs := cs) (σ := σ) (x := x) (x1 := x1) (x4 := x4) (x5 := x5) (x6 := x6) (x7 := x7) (x8 := x8) (L := L) (k55 := k55) (k83 := g247_83 N k55 u) h (by omega) hLn hL24 hL h93 c L.length 0 N W (by omega) (by unfold iv_N at hN; omega)
      obtain ⟨W', q1, q2⟩ := ih (x + 1) u W1 (by omega) (by omega) (fun j => by
        rw [a1 j, hW j]
        constructor
        · rintro (⟨y, y1, y2, y3⟩ | ⟨k, k1, k2, k3⟩)
          · exact ⟨y, by omega, y2, y3⟩
          · exact ⟨x, by omega, c, k, k2, k3⟩
        · rintro ⟨y, y1, y2, k, k1, k2⟩
          by_cases d : y = x
          · subst d
            exact Or.inr ⟨k, Nat.zero_le _, k1, k2⟩
          · exact Or.inl ⟨y, by omega, y2, k, k1, k2⟩)
      refine ⟨W', q1, ?_⟩
      unfold g247_83
      rw [if_neg (nI_ge (by omega) (by omega))]
      rw [show g247_92 N k55 (g247_83 N k55 u) N 72 x1 (nI (a * b)) (nI L.length) x4 x5 x6 x7 x8 W (nI x) 0 (hp σ, cs) = _ from a2]
      exact q2
    · obtain ⟨W', q1, q2⟩ := ih (x + 1) u W (by omega) (by omega) (fun j => by
        rw [hW j]
        constructor
        · rintro ⟨y, y1, y2, y3⟩
          exact ⟨y, by omega, y2, y3⟩
        · rintro ⟨y, y1, y2, y3⟩
          refine ⟨y, ?_, y2, y3⟩
          rcases Nat.lt_or_ge y x with d | d
          · exact d
          · have : y = x := by omega
            subst this
            exact absurd y2 c)
      refine ⟨W', q1, ?_⟩
      obtain ⟨Q, hQ⟩ : ∃ q, N = q + 1 := ⟨N - 1, by unfold iv_N at hN; omega⟩
      have e2 : g247_92 N k55 (g247_83 N k55 u) N 72 x1 (nI (a * b)) (nI L.length) x4 x5 x6 x7 x8 W (nI x) 0 (hp σ, cs) = g247_83 N k55 u 72 x1 (nI (a * b)) (nI L.length) x4 x5 x6 x7 x8 W (nI (x + 1)) (hp σ, cs) := by
        rw [show g247_92 N k55 (g247_83 N k55 u) N = g247_92 N k55 (g247_83 N k55 u) (Q + 1) by rw [← hQ]]
        unfold g247_92 g247_140
        by_cases z : nI L.length ≤ 0
        · rw [if_pos z, nI_1]
        · rw [if_neg z, sh_bit (by omega), if_neg c, if_pos (by decide), nI_1]
      unfold g247_83
      rw [if_neg (nI_ge (by omega) (by omega)), e2]
      exact q2
/-- the model's best so far -/
def MSq (σ : hp_S) (K a b : Nat) (B : Int32) : Prop := σ.2.2.1 72 42 = B ∧ (¬ B = -1 → σ.2.2.1 72 39 = nI (jv K a b B).1 ∧ σ.2.2.1 72 40 = nI (jv K a b B).2.1 ∧ σ.2.2.1 72 41 = nI (i_pc B))
/-- the end of a try -/
theorem m_tend {u : Nat} (h : gok K a b) (hM : good (a * b) M) (hB : MSq σ K a b B) : ∃ τ, fr [] [(72, 39), (72, 40), (72, 41), (72, 42)] σ τ ∧ MSq τ K a b (jd K a b M B) ∧ ∀ d : Int32, g247_55 N (u + 1) 72 M (nI (a * b)) (nI (i_pc M)) (jv K a b M).2.2 0 d (nI (jv K a b M).2.1) (nI (jv K a b M).1) (hp σ, cs) = some (.inl none, (hp τ, cs)) := by
  obtain ⟨h1, h2⟩ := hB
  obtain ⟨m1, m2⟩ := jv_bd (K := K) (a := a) (b := b) (M := M)
  obtain ⟨b1, b2⟩ := jv_bd (K := K) (a := a) (b := b) (M := B)
  have p1 := ipc32 M
  have p2 := ipc32 B
  have eal : lf_shl 1 (nI (a * b)) - 1 = al (a * b) := rfl
  by_cases c : (jv K a b M).2.2 = al (a * b)
  · by_cases d : B = -1 ∨ bet K a b M B
    · refine ⟨hp_wf (hp_wf (hp_wf (hp_wf σ 72 42 M) 72 39 (nI (jv K a b M).1)) 72 40 (nI (jv K a b M).2.1)) 72 41 (nI (i_pc M)), (((fr.wf (by decide)).tr (fr.wf (by decide))).tr (fr.wf (by decide))).tr (fr.wf (by decide)), ?_, fun dd => ?_⟩
      · rw [jd_y ⟨c, d⟩]
        refine ⟨?_, fun _ => ⟨?_, ?_, ?_⟩⟩
        · rw [hp_wf_ne (by decide), hp_wf_ne (by decide), hp_wf_ne (by decide), hp_wf_at]
        · rw [hp_wf_ne (by decide), hp_wf_ne (by decide), hp_wf_at]
        · rw [hp_wf_ne (by decide), hp_wf_at]
        · rw [hp_wf_at]
      · have e9 : g247_247 N 72 M (nI (i_pc M)) (nI (jv K a b M).2.1) (nI (jv K a b M).1) (hp σ, cs) = some (.inl none, (hp (hp_wf (hp_wf (hp_wf (hp_wf σ 72 42 M) 72 39 (nI (jv K a b M).1)) 72 40 (nI (jv K a b M).2.1)) 72 41 (nI (i_pc M))), cs)) := by
          unfold g247_247 g247_252
          rw [if_pos (by decide), w72_42, w72_39, w72_40, w72_41]
        unfold g247_55
        rw [if_pos rfl, eal, if_pos c, i72_42, h1]
        by_cases c0 : B = -1
        · rw [if_pos c0, e9]
        · obtain ⟨k1, k2, k3⟩ := h2 c0
          rw [if_neg c0, i72_39, k1]
          rcases d.resolve_left c0 with z | ⟨z1, z⟩
          · rw [if_pos (nI_lt z (by omega)), e9]
          · rw [if_neg (nI_nlt (by omega) (by omega)), i72_39, k1, if_neg (fun y => y (by rw [z1])), i72_40, k2]
            rcases z with z | ⟨z2, z⟩
            · rw [if_pos (nI_lt z (by omega)), e9]
            · rw [if_neg (nI_nlt (by omega) (by omega)), i72_40, k2, if_neg (fun y => y (by rw [z2])), i72_41, k3]
              rcases z with z | ⟨z3, z⟩
              · rw [if_pos (nI_lt z (by omega)), e9]
              · rw [if_neg (nI_nlt (by omega) (by omega)), i72_41, k3, if_neg (fun y => y (by rw [z3])), i72_42, h1, if_neg (fa_of_lt z).2.1, e9]
    · refine ⟨σ, fr.rf, by rw [jd_n (fun z => d z.2)]; exact ⟨h1, h2⟩, fun dd => ?_⟩
      have c0 : ¬ B = -1 := fun z => d (Or.inl z)
      have nb : ¬ bet K a b M B := fun z => d (Or.inr z)
      obtain ⟨k1, k2, k3⟩ := h2 c0
      have e9 : g247_251 N 72 M (nI (i_pc M)) (nI (jv K a b M).2.1) (nI (jv K a b M).1) (hp σ, cs) = some (.inl none, (hp σ, cs)) := by
        unfold g247_251 g247_252
        rw [if_neg (fun z => z rfl)]
      unfold bet at nb
      unfold g247_55
      rw [if_pos rfl, eal, if_pos c, i72_42, h1, if_neg c0, i72_39, k1]
      have z1 : ¬ (jv K a b M).1 < (jv K a b B).1 := fun z => nb (Or.inl z)
      rw [if_neg (nI_nlt (by omega) (by omega)), i72_39, k1]
      by_cases z2 : (jv K a b M).1 = (jv K a b B).1
      · have z3 : ¬ (jv K a b M).2.1 < (jv K a b B).2.1 := fun z => nb (Or.inr ⟨z2, Or.inl z⟩)
        rw [if_neg (fun y => y (by rw [z2])), i72_40, k2, if_neg (nI_nlt (by omega) (by omega)), i72_40, k2]
        by_cases z4 : (jv K a b M).2.1 = (jv K a b B).2.1
        · have z5 : ¬ i_pc M < i_pc B := fun z => nb (Or.inr ⟨z2, Or.inr ⟨z4, Or.inl z⟩⟩)
          rw [if_neg (fun y => y (by rw [z4])), i72_41, k3, if_neg (nI_nlt (by omega) (by omega)), i72_41, k3]
          by_cases z6 : i_pc M = i_pc B
          · have z7 : ¬ M < B := fun z => nb (Or.inr ⟨z2, Or.inr ⟨z4, Or.inr ⟨z6, z⟩⟩⟩)
            rw [if_neg (fun y => y (by rw [z6])), i72_42, h1, if_pos (fa_of_nlt z7), e9]
          · rw [if_pos (by rw [q_eq (by omega) (by omega)]; exact z6), e9]
        · rw [if_pos (by rw [q_eq (by omega) (by omega)]; exact z4), e9]
      · rw [if_pos (by rw [q_eq (by omega) (by omega)]; exact z2), e9]
  · refine ⟨σ, fr.rf, by rw [jd_n (fun z => c z.1)]; exact ⟨h1, h2⟩, fun dd => ?_⟩
    unfold g247_55
    rw [if_pos rfl, eal, if_neg c]
/-- the spread of a try -/
theorem m_t55 (h : gok K a b) (hN : iv_N N) (hM : good (a * b) M) (hL : ∀ i, i < (mL M (a * b - 1)).length → σ.1 94 i = nI ((mL M (a * b - 1)).getD i 0)) (h93 : ∀ s x, s < a * b → x < a * b → σ.1 93 (24 * s + x) = nI (gop K a b x s)) : ∀ (k d u : Nat) (e r : Int32) (fa su fm sm' : Nat), d + k = 24 → k < u → (∀ i, bt e i = true → i < a * b) → (∀ i, bt r i = true → i < a * b) → (¬ e = 0 → d + 1 ≤ i_pc r) → su = sm' + d * i_pc e → (e = 0 → fa = fm) → (¬ e = 0 → fa = d) → ∃ d' : Int32, ∃ v, g247_55 N u 72 M (nI (a * b)) (nI (mL M (a * b - 1)).length) r e (nI d) (nI sm') (nI fm) (hp σ, cs) = g247_55 N (v + 1) 72 M (nI (a * b)) (nI (mL M (a * b - 1)).length) (jq (gh K a b M) k d e r fa su).2.2 0 d' (nI (jq (gh K a b M) k d e r fa su).2.1) (nI (jq (gh K a b M) k d e r fa su).1) (hp σ, cs) := by
  have hn := h.2.2.1
  have hp0 : 0 < a * b := Nat.mul_pos h.1 h.2.1
  intro k
  induction k with
  | zero =>
    intro d u e r fa su fm sm' hd hu he hr hc hs h0 h1
    obtain ⟨u, rfl⟩ : ∃ q, u = q + 1 := ⟨u - 1, by omega⟩
    have e0 : e = 0 := Classical.byContradiction fun z => by
      have := hc z
      have := i_pc_max (x := r) (n := a * b) (by omega) hr
      omega
    subst e0
    refine ⟨nI d, u, ?_⟩
    rw [i_pc_0, Nat.mul_zero, Nat.add_zero] at hs
    show _ = g247_55 N (u + 1) 72 M (nI (a * b)) (nI (mL M (a * b - 1)).length) r 0 (nI d) (nI su) (nI fa) (hp σ, cs)
    rw [hs, h0 rfl]
  | succ k ih =>
    intro d u e r fa su fm sm' hd hu he hr hc hs h0 h1
    obtain ⟨u, rfl⟩ : ∃ q, u = q + 1 := ⟨u - 1, by omega⟩
    have e1 : jq (gh K a b M) (k + 1) d e r fa su = if e = 0 then (fa, su, r) else jq (gh K a b M) k (d + 1) (us (gh K a b M) e &&& (r ^^^ (-1))) (r ||| (us (gh K a b M) e &&& (r ^^^ (-1)))) (if us (gh K a b M) e &&& (r ^^^ (-1)) = 0 then fa else d + 1) (su + (d + 1) * i_pc (us (gh K a b M) e &&& (r ^^^ (-1)))) := rfl
    rw [e1]
    by_cases c : e = 0
    · rw [if_pos c]
      subst c
      refine ⟨nI d, u, ?_⟩
      rw [i_pc_0, Nat.mul_zero, Nat.add_zero] at hs
      show _ = g247_55 N (u + 1) 72 M (nI (a * b)) (nI (mL M (a * b - 1)).length) r 0 (nI d) (nI su) (nI fa) (hp σ, cs)
      rw [hs, h0 rfl]
    · rw [if_neg c]
      obtain ⟨W', w1, w2⟩ := m_t83 (N := N) (cs := cs) (σ := σ) (x1 := M) (x4 := r) (x5 := e) (x6 := nI d) (x7 := nI su) (x8 := nI d) (L := mL M (a * b - 1)) (k55 := g247_55 N u) h hN (fun m hm => by have := (mL_mem.mp hm).1; omega) (by have := mL_le (M := M) (m := a * b - 1); omega) hL h93 (a * b) 0 N 0 (by omega) (by unfold iv_N at hN; omega) (fun j => ⟨fun z => absurd z (by rw [b_0]; decide), fun ⟨y, y1, _⟩ => absurd y1 (Nat.not_lt_zero _)⟩)
      have eW : W' = us (gh K a b M) e := by
        refine b_eq (fun j => ?_)
        rw [w1 j, us_bt]
        constructor
        · rintro ⟨y, y1, y2, k, k1, k2⟩
          exact ⟨y, y2, (gh_bt h y1 hM).mpr ⟨_, (mL_mem.mp (gx_in k1)).2, k2⟩⟩
        · rintro ⟨y, y2, y3⟩
          obtain ⟨m, m1, m2⟩ := (gh_bt h (he y y2) hM).mp y3
          obtain ⟨k, k1, k2⟩ := gx_ex (mL_mem.mpr ⟨⟨(hM m m1).1, by have := (hM m m1).2; omega⟩, m1⟩ : m ∈ mL M (a * b - 1))
          exact ⟨y, he y y2, y2, k, k1, by rw [k2]; exact m2⟩
      rw [eW] at w2
      have hin : ∀ i, bt (us (gh K a b M) e &&& (r ^^^ (-1))) i = true → i < a * b := fun i hi => jq_in (fun x hx i hi => gh_in h hx hM hi) he i (b_andn.mp hi).1
      have hpn := i_pc_new (r := r) (x := us (gh K a b M) e)
      obtain ⟨d', v, q⟩ := ih (d + 1) u (us (gh K a b M) e &&& (r ^^^ (-1))) (r ||| (us (gh K a b M) e &&& (r ^^^ (-1)))) (if us (gh K a b M) e &&& (r ^^^ (-1)) = 0 then fa else d + 1) (su + (d + 1) * i_pc (us (gh K a b M) e &&& (r ^^^ (-1)))) d su (by omega) (by omega) hin (fun i hi => by
        rcases b_or_iff.mp hi with z | z
        · exact hr i z
        · exact hin i z) (fun z => by have := i_pc_p z; have := hc c; omega) rfl (fun z => by rw [if_pos z]; exact h1 c) (fun z => by rw [if_neg z])
      refine ⟨d', v, ?_⟩
      rw [← q]
      rw [g247_55]
      rw [if_neg c, m_pc hN, lf_ci_r, pk_mul, nI_add, ← hs]
      rw [show g247_83 N (g247_55 N u) N 72 M (nI (a * b)) (nI (mL M (a * b - 1)).length) r e (nI d) (nI su) (nI d) 0 0 (hp σ, cs) = _ from w2, nI_1]
theorem m_tries {U : List Int32} (h : gok K a b) (hN : iv_N N) (hM : good (a * b) M) (hC : MC σ K a b U) (hB : MSq σ K a b B) : ∃ τ, fr [94] [(72, 39), (72, 40), (72, 41), (72, 42)] σ τ ∧ MSq τ K a b (jd K a b M B) ∧ f247 N 72 M (nI (a * b)) (hp σ, cs) = some (.inl none, (hp τ, cs)) := by
  have hn := h.2.2.1
  have hp0 : 0 < a * b := Nat.mul_pos h.1 h.2.1
  obtain ⟨σ1, a1, a2, a3⟩ := m_tq5 (N := N) (cs := cs) (M := M) (n := a * b) hn (a * b - 1) 0 N σ (by omega) (by unfold iv_N at hN; omega) (fun i hi => absurd hi (Nat.not_lt_zero _))
  obtain ⟨d', v, b1⟩ := m_t55 (N := N) (cs := cs) (σ := σ1) h hN hM a2 (fun s x hs hx => by rw [a1.r (by decide)]; exact hC.2.2 s x hs hx) 24 0 N 1 1 0 0 0 0 (by omega) (by unfold iv_N at hN; omega) (fun i hi => by rw [b_i1.mp hi]; exact hp0) (fun i hi => by rw [b_i1.mp hi]; exact hp0) (fun _ => i_pc_p (by decide)) rfl (fun _ => rfl) (fun _ => rfl)
  rw [mL_pc hp0 hn hM] at a3 b1
  obtain ⟨τ, q1, q2, q3⟩ := m_tend (N := N) (cs := cs) (σ := σ1) (u := v) h hM (show MSq σ1 K a b B from ⟨by rw [a1.f List.not_mem_nil]; exact hB.1, fun z => by rw [a1.f List.not_mem_nil, a1.f List.not_mem_nil, a1.f List.not_mem_nil]; exact hB.2 z⟩)
  refine ⟨τ, (a1.wk (fun _ z => z) (fun _ z => absurd z List.not_mem_nil)).tr (q1.wk (fun _ z => absurd z List.not_mem_nil) (fun _ z => z)), q2, ?_⟩
  unfold f247
  rw [show g247_5 N N 72 M (nI (a * b)) 0 1 (hp σ, cs) = _ from a3]
  rw [show g247_55 N N 72 M (nI (a * b)) (nI (i_pc M)) 1 1 0 0 0 (hp σ1, cs) = _ from b1]
  exact q3 d'
/-- units that are too many are passed over -/
theorem m_skip {U : List Int32} {dpt : Nat} (hN : iv_N N) (hd8 : deg ≤ 8) (hU : U.length ≤ 23) (hC : MC σ K a b U) : ∀ (m k u : Nat), k + m = U.length → m < u → ∃ k', k ≤ k' ∧ k' ≤ U.length ∧ (k' = U.length ∨ i_pc (M ||| U.getD k' 0) ≤ deg) ∧ (∀ j B, sg j deg (U.drop k) M B = sg j deg (U.drop k') M B) ∧ ∀ k178 : Nat → Int32 → Int32 → Int32 → Int32 → Int32 → Int32 → Int32 → lf_W → lf_R, g246_183 N k178 u 72 (nI a) (nI b) (nI deg) M (nI dpt) (nI k) 1 (hp σ, cs) = g246_216 N k178 72 (nI a) (nI b) (nI deg) M (nI dpt) (nI k') 1 (hp σ, cs) := by
  intro m
  induction m with
  | zero =>
    intro k u hk hu
    obtain ⟨u, rfl⟩ : ∃ q, u = q + 1 := ⟨u - 1, by omega⟩
    refine ⟨k, Nat.le_refl _, by omega, Or.inl (by omega), fun _ _ => rfl, fun k178 => ?_⟩
    unfold g246_183
    rw [i72_38, hC.1, if_pos (nI_le (by omega) (by omega))]
  | succ m ih =>
    intro k u hk hu
    obtain ⟨u, rfl⟩ : ∃ q, u = q + 1 := ⟨u - 1, by omega⟩
    have hkU : k < U.length := by omega
    have p32 := ipc32 (M ||| U.getD k 0)
    by_cases c : i_pc (M ||| U.getD k 0) ≤ deg
    · refine ⟨k, Nat.le_refl _, by omega, Or.inr c, fun _ _ => rfl, fun k178 => ?_⟩
      unfold g246_183
      rw [i72_38, hC.1, if_neg (nI_ge hkU (by omega)), r72_36, a91 (by omega), hC.2.1 k hkU, m_pc hN, lf_ci_r, if_pos (nI_le c (by omega))]
    · obtain ⟨k', q1, q2, q3, q4, q5⟩ := ih (k + 1) u (by omega) (by omega)
      refine ⟨k', by omega, q2, q3, fun j B => ?_, fun k178 => ?_⟩
      · rw [← q4 j B, drop_cons' hkU]
        show sg j deg (U.drop (k + 1)) M (if i_pc (M ||| U.getD k 0) ≤ deg then _ else B) = _
        rw [if_neg c]
      · unfold g246_183
        rw [i72_38, hC.1, if_neg (nI_ge hkU (by omega)), r72_36, a91 (by omega), hC.2.1 k hkU, m_pc hN, lf_ci_r, if_neg (nI_ge (by omega) (by omega)), nI_1]
        exact q5 k178
/-- the search, step by step -/
theorem m_sg {U : List Int32} (h : gok K a b) (hN : iv_N N) (hd8 : deg ≤ 8) (hU : U.length ≤ 23) (hg : ∀ u, u ∈ U → good (a * b) u ∧ ¬ u = 0) (hdis : disj U) : ∀ (l k dpt : Nat) (M B : Int32) (σ : hp_S), k + l = U.length → dpt ≤ k → good (a * b) M → (∀ u, u ∈ U.drop k → ∀ j, bt M j = true → ¬ bt u j = true) → MC σ K a b U → MSq σ K a b B → ∃ τ c, c + 2 ≤ 2 ^ (l + 1) ∧ fr [92, 94] [(72, 39), (72, 40), (72, 41), (72, 42)] σ τ ∧ (∀ j, j < dpt → τ.1 92 j = σ.1 92 j) ∧ MSq τ K a b (sg (jd K a b) deg (U.drop k) M B) ∧ ∀ u, g246_178 N (c + u + 1) 72 (nI a) (nI b) (nI deg) M (nI dpt) (nI k) 1 (hp σ, cs) = g246_178 N (u + 1) 72 (nI a) (nI b) (nI deg) M (nI dpt) (nI U.length) 1 (hp τ, cs) := by
  have hn := h.2.2.1
  have one : ∀ (u : Nat) (k : Nat) (M : Int32) (dpt : Nat) (σ : hp_S), g246_178 N (u + 1) 72 (nI a) (nI b) (nI deg) M (nI dpt) (nI k) 1 (hp σ, cs) = g246_183 N (g246_178 N u) N 72 (nI a) (nI b) (nI deg) M (nI dpt) (nI k) 1 (hp σ, cs) := fun u k M dpt σ => by
    rw [g246_178, if_neg (by decide)]
  have last : ∀ (u : Nat) (M : Int32) (dpt : Nat) (σ : hp_S), MC σ K a b U → g246_178 N (u + 1) 72 (nI a) (nI b) (nI deg) M (nI dpt) (nI U.length) 1 (hp σ, cs) = g246_216 N (g246_178 N u) 72 (nI a) (nI b) (nI deg) M (nI dpt) (nI U.length) 1 (hp σ, cs) := fun u M dpt σ hC => by
    obtain ⟨k', q1, q2, -, -, q5⟩ := m_skip (N := N) (cs := cs) (deg := deg) (M := M) (dpt := dpt) hN hd8 hU hC 0 U.length N (by omega) (by unfold iv_N at hN; omega)
    have : k' = U.length := by omega
    subst this
    rw [one, q5]
  intro l
  induction l using Nat.strongRecOn with
  | ind l ih =>
    intro k dpt M B σ hk hdk hM hMd hC hB
    obtain ⟨k', s1, s2, s3, s4, s6⟩ := m_skip (N := N) (cs := cs) (deg := deg) (M := M) (dpt := dpt) hN hd8 hU hC (U.length - k) k N (by omega) (by unfold iv_N at hN; omega)
    have s5 : ∀ u, g246_178 N (u + 1) 72 (nI a) (nI b) (nI deg) M (nI dpt) (nI k) 1 (hp σ, cs) = g246_216 N (g246_178 N u) 72 (nI a) (nI b) (nI deg) M (nI dpt) (nI k') 1 (hp σ, cs) := fun u => by rw [one, s6]
    have hpw2 : 2 ≤ 2 ^ (l + 1) := by
      have : 2 ^ 1 ≤ 2 ^ (l + 1) := Nat.pow_le_pow_right (by omega) (by omega)
      omega
    by_cases ck : k' = U.length
    · refine ⟨σ, 0, by omega, fr.rf, fun _ _ => rfl, ?_, fun u => ?_⟩
      · rw [s4, ck, List.drop_eq_nil_of_le (Nat.le_refl _)]
        exact hB
      · rw [Nat.zero_add, s5, last u M dpt σ hC, ck]
    · have hfit := s3.resolve_left ck
      have hkU : k' < U.length := by omega
      have ed := drop_cons' hkU
      have hsub : ∀ v, v ∈ U.drop k' → v ∈ U.drop k := fun v hv => by
        rw [show k' = k + (k' - k) by omega, ← List.drop_drop] at hv
        exact List.mem_of_mem_drop hv
      have hug := hg (U.getD k' 0) (by
        rw [List.getD_eq_getElem?_getD, List.getElem?_eq_getElem hkU]
        exact List.getElem_mem hkU)
      have hud : ∀ j, bt M j = true → ¬ bt (U.getD k' 0) j = true := hMd _ (hsub _ (by rw [ed]; exact List.mem_cons_self))
      have hMd2 : ∀ u, u ∈ U.drop (k' + 1) → ∀ j, bt M j = true → ¬ bt u j = true := fun u hu => hMd u (hsub u (by rw [ed]; exact List.mem_cons_of_mem _ hu))
      have hMd3 : ∀ u, u ∈ U.drop (k' + 1) → ∀ j, bt (M ||| U.getD k' 0) j = true → ¬ bt u j = true := fun v hv j hj => by
        rcases b_or_iff.mp hj with z | z
        · exact hMd2 v hv j z
        · have hpw : (U.getD k' 0 :: U.drop (k' + 1)).Pairwise (fun u v => ∀ i, bt u i = true → ¬ bt v i = true) := by
            rw [← ed]
            exact List.Pairwise.sublist (List.drop_sublist k' U) hdis
          exact (List.pairwise_cons.mp hpw).1 v hv j z
      have hback : (M ||| U.getD k' 0) &&& (U.getD k' 0 ^^^ (-1)) = M := b_eq (fun i => by
        rw [b_andn, b_or_iff]
        exact ⟨fun z => z.1.resolve_right z.2, fun z => ⟨Or.inl z, hud i z⟩⟩)
      have hC1 : MC (hp_wi σ 92 dpt (nI k')) K a b U := hC.fr (A := [92, 94]) (F := []) (fr.wi (by decide)) (by decide) (by decide) List.not_mem_nil
      obtain ⟨τ1, a1, a2, a3⟩ := m_tries (N := N) (cs := cs) (σ := hp_wi σ 92 dpt (nI k')) (B := B) (M := M ||| U.getD k' 0) h hN (good_or hM hug.1) hC1 hB
      have w1 : fr [92, 94] [(72, 39), (72, 40), (72, 41), (72, 42)] σ τ1 := (fr.wi (by decide)).tr (a1.wk (fun _ z => by simp at z; simp [z]) (fun _ z => z))
      obtain ⟨τ2, c1, b1, b2, b3, b4, b5⟩ := ih (U.length - (k' + 1)) (by omega) (k' + 1) (dpt + 1) (M ||| U.getD k' 0) (jd K a b (M ||| U.getD k' 0) B) τ1 (by omega) (by omega) (good_or hM hug.1) hMd3 (hC.fr w1 (by decide) (by decide) (by decide)) a2
      have w2 := w1.tr b2
      have hC2 : MC τ2 K a b U := hC.fr w2 (by decide) (by decide) (by decide)
      obtain ⟨τ3, c2, d1, d2, d3, d4, d5⟩ := ih (U.length - (k' + 1)) (by omega) (k' + 1) dpt M (sg (jd K a b) deg (U.drop (k' + 1)) (M ||| U.getD k' 0) (jd K a b (M ||| U.getD k' 0) B)) τ2 (by omega) (by omega) hM hMd2 hC2 b4
      have h92 : τ2.1 92 dpt = nI k' := by rw [b3 dpt (by omega), a1.r (by decide), hp_wi_at]
      refine ⟨τ3, c1 + c2 + 2, ?_, w2.tr d2, fun j hj => ?_, ?_, fun u => ?_⟩
      · have e1 : 2 ^ (U.length - (k' + 1) + 1 + 1) = 2 ^ (U.length - (k' + 1) + 1) * 2 := Nat.pow_succ 2 _
        have e2 : 2 ^ (U.length - (k' + 1) + 1 + 1) ≤ 2 ^ (l + 1) := Nat.pow_le_pow_right (by omega) (by omega)
        omega
      · rw [d3 j hj, b3 j (by omega), a1.r (by decide), hp_wi_nj (by omega)]
      · rw [s4, ed]
        show MSq τ3 K a b (sg (jd K a b) deg (U.drop (k' + 1)) M (if i_pc (M ||| U.getD k' 0) ≤ deg then sg (jd K a b) deg (U.drop (k' + 1)) (M ||| U.getD k' 0) (jd K a b (M ||| U.getD k' 0) B) else B))
        rw [if_pos hfit]
        exact d4
      · rw [s5]
        have e1 : g246_216 N (g246_178 N (c1 + c2 + 2 + u)) 72 (nI a) (nI b) (nI deg) M (nI dpt) (nI k') 1 (hp σ, cs) = g246_178 N (c1 + c2 + 2 + u) 72 (nI a) (nI b) (nI deg) (M ||| U.getD k' 0) (nI (dpt + 1)) (nI (k' + 1)) 1 (hp τ1, cs) := by
          unfold g246_216
          rw [i72_38, hC.1, if_neg (nI_ge hkU (by omega)), r72_36, a91 (by omega), hC.2.1 k' hkU, r72_37, b92 (by omega), o72, pk_mul, a3, lf_cv_r, nI_1, nI_1]
        rw [e1, show c1 + c2 + 2 + u = c1 + (c2 + 1 + u) + 1 by omega, b5, last _ _ _ _ hC2]
        have e2 : g246_216 N (g246_178 N (c2 + 1 + u)) 72 (nI a) (nI b) (nI deg) (M ||| U.getD k' 0) (nI (dpt + 1)) (nI U.length) 1 (hp τ2, cs) = g246_178 N (c2 + 1 + u) 72 (nI a) (nI b) (nI deg) M (nI dpt) (nI (k' + 1)) 1 (hp τ2, cs) := by
          have hm1 : nI (dpt + 1) + (-1) = nI dpt := by
            rw [show nI (dpt + 1) + (-1) = nI (dpt + 1) - 1 from (Int32.sub_eq_add_neg _ _).symm]
            exact pk_sub (b := 1) (by omega)
          unfold g246_216 g246_274
          rw [i72_38, hC2.1, if_pos (nI_le (Nat.le_refl _) (by omega)), if_neg (show ¬ nI (dpt + 1) ≤ 0 from nI_nle (by omega) (by omega)), if_neg (by decide), r72_36, r72_37, hm1, a92 (by omega), h92, a91 (by omega), hC2.2.1 k' hkU, r72_37, a92 (by omega), h92, hback, nI_1]
        rw [e2, show c2 + 1 + u = c2 + u + 1 by omega, d5]
/-- seeks -/
theorem m_seeks (h : gok K a b) (hN : iv_N N) (hd8 : deg ≤ 8) : ∃ τ, fr [91, 92, 93, 94] [(72, 38), (72, 39), (72, 40), (72, 41), (72, 42)] σ τ ∧ f246 N 72 (nI K) (nI a) (nI b) (nI deg) (hp σ, cs) = some (.inl (some (.int (skA K a b deg))), (hp τ, cs)) := by
  have hn := h.2.2.1
  have hp0 : 0 < a * b := Nat.mul_pos h.1 h.2.1
  obtain ⟨u1, u2, u3⟩ := uLst_ok h
  obtain ⟨σ1, a1, a2, a3, a4⟩ := m_u8 (N := N) (cs := cs) (x4 := nI deg) h hN (a * b - 1) 0 N (hp_wf σ 72 38 0) (by omega) (by unfold iv_N at hN; omega) hp_wf_at (fun i hi => absurd hi (Nat.not_lt_zero _))
  obtain ⟨σ2, b1, b2⟩ := m_u73 (N := N) (cs := cs) (x1 := nI K) (x2 := nI a) (x3 := nI b) (x4 := nI deg) 576 0 N σ1 (by omega) (by unfold iv_N at hN; omega)
  obtain ⟨σ3, c1, c2, c3⟩ := m_u98 (N := N) (cs := cs) (x4 := nI deg) h hN (a * b) 0 N σ2 (by omega) (by unfold iv_N at hN; omega) (fun s' x' h1 _ => absurd h1 (Nat.not_lt_zero _))
  have w3 : fr [91, 92, 93, 94] [(72, 38), (72, 39), (72, 40), (72, 41), (72, 42)] σ (hp_wf σ3 72 42 (-1)) := ((((fr.wf (by decide)).tr (a1.wk (fun _ z => by simp at z; simp [z]) (fun _ z => by simp at z; simp [z]))).tr (b1.wk (fun _ z => by simp at z; simp [z]) (fun _ z => absurd z List.not_mem_nil))).tr (c1.wk (fun _ z => by simp at z; simp [z]) (fun _ z => absurd z List.not_mem_nil))).tr (fr.wf (by decide))
  have hC : MC (hp_wf σ3 72 42 (-1)) K a b (uLst K a b (a * b - 1)) := by
    refine ⟨?_, fun i hi => ?_, fun s x hs hx => ?_⟩
    · rw [hp_wf_ne (by decide), c1.f List.not_mem_nil, b1.f List.not_mem_nil]; exact a2
    · show σ3.1 91 i = _
      rw [c1.r (by decide), b1.r (by decide)]; exact a3 i hi
    · exact c2 s x hs hx
  obtain ⟨σ4, d1, d2, d3⟩ := m_tries (N := N) (cs := cs) (σ := hp_wf σ3 72 42 (-1)) (B := -1) (M := 0) h hN good_0 hC ⟨hp_wf_at, fun z => absurd rfl z⟩
  have w4 : fr [91, 92, 93, 94] [(72, 38), (72, 39), (72, 40), (72, 41), (72, 42)] σ σ4 := w3.tr (d1.wk (fun _ z => by simp at z; simp [z]) (fun _ z => by simp at z; rcases z with z | z | z | z <;> simp [z]))
  have hC4 : MC σ4 K a b (uLst K a b (a * b - 1)) := hC.fr d1 (by decide) (by decide) (by decide)
  obtain ⟨τ, c, e1, e2, e3, e4, e5⟩ := m_sg (N := N) (cs := cs) (deg := deg) h hN hd8 u3 u1 u2 (uLst K a b (a * b - 1)).length 0 0 0 (jd K a b 0 (-1)) σ4 (by omega) (Nat.le_refl _) good_0 (fun u _ j hj => by rw [b_0] at hj; cases hj) hC4 d2
  have hC5 : MC τ K a b (uLst K a b (a * b - 1)) := hC4.fr e2 (by decide) (by decide) (by decide)
  have hcb : c + 2 ≤ 2 ^ 24 := Nat.le_trans e1 (Nat.pow_le_pow_right (by omega) (by omega))
  refine ⟨τ, w4.tr (e2.wk (fun _ z => by simp at z; rcases z with z | z <;> simp [z]) (fun _ z => by simp at z; rcases z with z | z | z | z <;> simp [z])), ?_⟩
  unfold f246
  rw [w72_38]
  rw [show g246_8 N N 72 (nI K) (nI a) (nI b) (nI deg) 1 (hp (hp_wf σ 72 38 0), cs) = _ from a4]
  rw [show g246_73 N N 72 (nI K) (nI a) (nI b) (nI deg) 0 (hp σ1, cs) = _ from b2]
  rw [show g246_98 N N 72 (nI K) (nI a) (nI b) (nI deg) 0 (hp σ2, cs) = _ from c3, d3, lf_cv_r]
  obtain ⟨v, hv⟩ : ∃ v, N = c + (v + 1) + 1 := ⟨N - c - 2, by unfold iv_N at hN; omega⟩
  have e6 : g246_178 N N 72 (nI a) (nI b) (nI deg) 0 0 0 1 (hp σ4, cs) = g246_178 N (v + 1 + 1) 72 (nI a) (nI b) (nI deg) 0 0 (nI (uLst K a b (a * b - 1)).length) 1 (hp τ, cs) := by
    have := e5 (v + 1)
    rw [← hv] at this
    exact this
  rw [e6, g246_178, if_neg (by decide)]
  obtain ⟨k', q1, q2, -, -, q5⟩ := m_skip (N := N) (cs := cs) (deg := deg) (M := 0) (dpt := 0) hN hd8 u3 hC5 0 (uLst K a b (a * b - 1)).length N (by omega) (by unfold iv_N at hN; omega)
  have ek : k' = (uLst K a b (a * b - 1)).length := by omega
  rw [show g246_183 N (g246_178 N (v + 1)) N 72 (nI a) (nI b) (nI deg) 0 0 (nI (uLst K a b (a * b - 1)).length) 1 (hp τ, cs) = _ from q5 _, ek]
  unfold g246_216 g246_274
  rw [i72_38, hC5.1, if_pos (nI_le (Nat.le_refl _) (by omega)), if_pos (show nI 0 ≤ 0 from nI_le (b := 0) (by omega) (by omega)), if_pos rfl, g246_178, if_pos rfl, i72_42, e4.1]
  rw [List.drop_zero]
  rfl
end SM1
