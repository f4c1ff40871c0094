/-! the model's list of lines -/
def lnM (σ : hp_S) (L : List (Nat × Nat)) : Prop := σ.2.2.1 72 20 = nI L.length ∧ ∀ i a b, L[i]? = some (a, b) → σ.1 79 i = nI a ∧ σ.1 80 i = nI b
theorem lnM.more {σ : hp_S} {L : List (Nat × Nat)} {a b : Nat} (h : lnM σ L) : lnM (hp_wf (hp_wi (hp_wi σ 79 L.length (nI a)) 80 L.length (nI b)) 72 20 (nI (L.length + 1))) (L ++ [(a, b)]) := by
  obtain ⟨h1, h2⟩ := h
  refine ⟨by rw [hp_wf_at, List.length_append]; rfl, fun i c d hi => ?_⟩
  show (hp_wi (hp_wi σ 79 L.length (nI a)) 80 L.length (nI b)).1 79 i = _ ∧ (hp_wi (hp_wi σ 79 L.length (nI a)) 80 L.length (nI b)).1 80 i = _
  rw [hp_wi_ne (b := 79) (by decide)]
  by_cases e : i = L.length
  · subst e
    rw [List.getElem?_concat_length] at hi
    cases hi
    rw [hp_wi_at, hp_wi_at]
    exact ⟨rfl, rfl⟩
  · have hlt : i < (L ++ [(a, b)]).length := (List.getElem?_eq_some_iff.mp hi).1
    rw [List.length_append, List.length_singleton] at hlt
    rw [List.getElem?_append_left (by omega)] at hi
    rw [hp_wi_nj e, hp_wi_nj e, hp_wi_ne (by decide)]
    exact h2 i c d hi
section LI
variable {cs : Nat × Nat} {N n : Nat}
theorem m_ls_in {x : Int32} {a : Nat} (hn : n ≤ 24) (ha : a < n) {k7 : Nat → Int32 → lf_W → lf_R} : ∀ (m b u : Nat) (σ : hp_S) (L : List (Nat × Nat)), b + m = n → m < u → σ.2.2.1 72 4 = nI n → σ.1 76 a = x → lnM σ L → L.length + ((List.range' b m).filter (fun c => bt x c)).length ≤ 96 → ∃ τ, fr [79, 80] [(72, 20)] σ τ ∧ lnM τ (L ++ ((List.range' b m).filter (fun c => bt x c)).map (fun c => (a, c))) ∧ g216_19 N k7 u 72 (nI a) (nI b) (hp σ, cs) = k7 72 (nI (a + 1)) (hp τ, cs) := by
  intro m
  induction m with
  | zero =>
    intro b u σ L hb hu e ex hL _
    obtain ⟨u, rfl⟩ : ∃ q, u = q + 1 := ⟨u - 1, by omega⟩
    refine ⟨σ, fr.rf, by rw [List.range'_zero, List.filter_nil, List.map_nil, List.append_nil]; exact hL, ?_⟩
    unfold g216_19
    rw [i72_4, e, if_pos (nI_le (by omega) (by omega)), nI_1]
  | succ m ih =>
    intro b u σ L hb hu e ex hL h96
    obtain ⟨u, rfl⟩ : ∃ q, u = q + 1 := ⟨u - 1, by omega⟩
    unfold g216_19 g216_69
    rw [i72_4, e, if_neg (nI_ge (by omega) (by omega)), o72, m_joined (by omega) (by omega), lf_ci_r, ex]
    rw [List.range'_succ, List.filter_cons] at h96 ⊢
    by_cases c : bt x b = true
    · rw [if_pos c] at h96 ⊢
      rw [List.length_cons] at h96
      rw [if_pos (by rw [if_pos c]; decide), r72_21, i72_20, hL.1, b79 (by omega), r72_22, i72_20]
      rw [show (hp_wi σ 79 L.length (nI a)).2.2.1 72 20 = nI L.length from hL.1, b80 (by omega), i72_20]
      rw [show (hp_wi (hp_wi σ 79 L.length (nI a)) 80 L.length (nI b)).2.2.1 72 20 = nI L.length from hL.1, w72_20, nI_1, nI_1]
      obtain ⟨τ, q1, q2, q3⟩ := ih (b + 1) u (hp_wf (hp_wi (hp_wi σ 79 L.length (nI a)) 80 L.length (nI b)) 72 20 (nI (L.length + 1))) (L ++ [(a, b)]) (by omega) (by omega) (by rw [hp_wf_ne (by decide)]; exact e) (by show (hp_wi (hp_wi σ 79 L.length (nI a)) 80 L.length (nI b)).1 76 a = x; rw [hp_wi_ne (by decide), hp_wi_ne (by decide)]; exact ex) hL.more (by rw [List.length_append, List.length_singleton]; omega)
      refine ⟨τ, (((fr.wi (by decide)).tr (fr.wi (by decide))).tr (fr.wf (by decide))).tr q1, ?_, q3⟩
      rw [List.append_assoc] at q2
      exact q2
    · rw [if_neg c] at h96 ⊢
      rw [if_neg (fun q => q (by rw [if_neg c])), nI_1]
      exact ih (b + 1) u σ L (by omega) (by omega) e ex hL h96
theorem m_ls_out {f : Nat → Int32} (hn : n ≤ 24) (hN : iv_N N) : ∀ (m a u : Nat) (σ : hp_S) (L : List (Nat × Nat)), a + m = n → m < u → σ.2.2.1 72 4 = nI n → (∀ k, k < n → σ.1 76 k = f k) → lnM σ L → L.length + (lq f n a m).length ≤ 96 → ∃ τ, fr [79, 80] [(72, 20)] σ τ ∧ lnM τ (L ++ lq f n a m) ∧ g216_7 N u 72 (nI a) (hp σ, cs) = some (.inl none, (hp τ, cs)) := by
  intro m
  induction m with
  | zero =>
    intro a u σ L ha hu e ef hL _
    obtain ⟨u, rfl⟩ : ∃ q, u = q + 1 := ⟨u - 1, by omega⟩
    refine ⟨σ, fr.rf, by rw [show lq f n a 0 = [] from rfl, List.append_nil]; exact hL, ?_⟩
    unfold g216_7
    rw [i72_4, e, if_pos (nI_le (by omega) (by omega))]
  | succ m ih =>
    intro a u σ L ha hu e ef hL h96
    obtain ⟨u, rfl⟩ : ∃ q, u = q + 1 := ⟨u - 1, by omega⟩
    unfold g216_7
    rw [i72_4, e, if_neg (nI_ge (by omega) (by omega)), nI_1]
    have el : lq f n a (m + 1) = (hl f n a).map (fun b => (a, b)) ++ lq f n (a + 1) m := rfl
    rw [el, List.length_append, List.length_map] at h96
    obtain ⟨τ, q1, q2, q3⟩ := m_ls_in (N := N) (cs := cs) (x := f a) (a := a) (k7 := g216_7 N u) hn (by omega) (n - (a + 1)) (a + 1) N σ L (by omega) (by unfold iv_N at hN; omega) e (ef a (by omega)) hL (by unfold hl at h96; omega)
    rw [q3]
    obtain ⟨υ, p1, p2, p3⟩ := ih (a + 1) u τ (L ++ (hl f n a).map (fun b => (a, b))) (by omega) (by omega) (by rw [q1.f (by decide)]; exact e) (fun k hk => by rw [q1.r (by decide)]; exact ef k hk) q2 (by rw [List.length_append, List.length_map]; omega)
    refine ⟨υ, q1.tr p1, ?_, p3⟩
    rw [el, ← List.append_assoc]
    exact p2
/-- lists -/
theorem m_lists {f : Nat → Int32} {σ : hp_S} (hn : n ≤ 24) (hN : iv_N N) (e : σ.2.2.1 72 4 = nI n) (ef : ∀ k, k < n → σ.1 76 k = f k) (h96 : (lq f n 0 n).length ≤ 96) : ∃ τ, fr [79, 80] [(72, 20)] σ τ ∧ lnM τ (lq f n 0 n) ∧ f216 N 72 (hp σ, cs) = some (.inl none, (hp τ, cs)) := by
  obtain ⟨τ, q1, q2, q3⟩ := m_ls_out (N := N) (cs := cs) (f := f) hn hN n 0 N (hp_wf σ 72 20 0) [] (by omega) (by unfold iv_N at hN; omega) (by rw [hp_wf_ne (by decide)]; exact e) ef ⟨hp_wf_at, fun i a b h => by cases h⟩ (by rw [List.length_nil]; omega)
  refine ⟨τ, (fr.wf (by decide)).tr q1, q2, ?_⟩
  unfold f216
  rw [w72_20]
  exact q3
/-! the class: both ends of the i-th line -/
variable {σ : hp_S} {s : Nat}
theorem c_higher {x : Int32} {a : Nat} (hs : s < 8) (ha : a < 24) (ex : σ.1 (3 + 2 * s) a = x) : f58 N (2 + 2 * s) (nI a) (hp σ, cs) = some (.inl (some (.int (x &&& lf_shl (-2) (nI a)))), (hp σ, cs)) := by
  unfold f58
  rw [sN_r hs, sN_ri hs ha, ex]
theorem c_drop {a j : Nat} {w : lf_W} : ∀ (m i u : Nat) (x : Int32), i + m = j → j < 32 → m < u → (hm : m < (bl x).length) → g62_39 N u (nI j) (nI a) x (nI i) w = some (.inl (some (.int (32 * nI a + nI ((bl x)[m])))), w) := by
  intro m
  induction m with
  | zero =>
    intro i u x hi hj hu hm
    obtain ⟨u, rfl⟩ : ∃ q, u = q + 1 := ⟨u - 1, by omega⟩
    have hx : ¬ x = 0 := by
      intro q
      rw [q, bl_0] at hm
      exact absurd hm (Nat.not_lt_zero _)
    obtain ⟨l, -, -, -, e, el⟩ := bl_low hx
    unfold g62_39
    rw [if_pos (nI_le (by omega) (by omega)), (el N w).1, lf_nest_r, lf_ci_r]
    simp only [e, List.getElem_cons_zero]
  | succ m ih =>
    intro i u x hi hj hu hm
    obtain ⟨u, rfl⟩ : ∃ q, u = q + 1 := ⟨u - 1, by omega⟩
    have hx : ¬ x = 0 := by
      intro q
      rw [q, bl_0] at hm
      exact absurd hm (Nat.not_lt_zero _)
    obtain ⟨l, -, -, -, e, el⟩ := bl_low hx
    unfold g62_39
    rw [if_neg (nI_ge (by omega) (by omega)), nI_1, ih (i + 1) u _ (by omega) hj (by omega) (by rw [e, List.length_cons] at hm; omega)]
    simp only [e, List.getElem_cons_succ]
/-- a line as one number, -1: none -/
def enc : Option (Nat × Nat) → Int32
  | some (a, b) => nI (32 * a + b)
  | none => -1
theorem c_ends_loop {f : Nat → Int32} (hs : s < 8) (hn : n ≤ 24) (hN : iv_N N) (e : σ.2.2.1 (2 + 2 * s) 1 = nI n) (ef : ∀ k, k < 24 → σ.1 (3 + 2 * s) k = f k) (hb : ∀ a, a < n → ∀ b, bt (f a) b = true → b < n) : ∀ (m a u i : Nat), a + m = n → m < u → i < 2 ^ 31 → g62_4 N u (2 + 2 * s) (nI i) (nI a) (hp σ, cs) = some (.inl (some (.int (enc ((lq f n a m)[i]?)))), (hp σ, cs)) := by
  intro m
  induction m with
  | zero =>
    intro a u i ha hu hi
    obtain ⟨u, rfl⟩ : ∃ q, u = q + 1 := ⟨u - 1, by omega⟩
    unfold g62_4
    rw [sN_1 hs, e, if_pos (nI_le (by omega) (by omega))]
    rfl
  | succ m ih =>
    intro a u i ha hu hi
    obtain ⟨u, rfl⟩ : ∃ q, u = q + 1 := ⟨u - 1, by omega⟩
    have e1 : bl (f a &&& lf_shl (-2) (nI a)) = hl f n a := bl_up (by omega) (by omega) (hb a (by omega))
    have e2 : i_pc (f a &&& lf_shl (-2) (nI a)) = (hl f n a).length := by rw [← bl_len, e1]
    have e3 : (hl f n a).length ≤ 32 := by rw [← e1]; exact bl_le _
    have el : lq f n a (m + 1) = (hl f n a).map (fun b => (a, b)) ++ lq f n (a + 1) m := rfl
    unfold g62_4
    rw [sN_1 hs, e, if_neg (nI_ge (by omega) (by omega)), if_neg (nI_pos hi), sN_o hs, c_higher hs (by omega) (ef a (by omega)), lf_ci_r, c_pc, lf_ci_r, e2, el]
    by_cases c : (hl f n a).length ≤ i
    · rw [if_pos (nI_le c hi), pk_sub c, nI_1, ih (a + 1) u _ (by omega) (by omega) (by omega), List.getElem?_append_right (by rw [List.length_map]; exact c), List.length_map]
    · rw [if_neg (nI_ge (by omega) (by omega)), List.getElem?_append_left (by rw [List.length_map]; omega), List.getElem?_map]
      rw [show (0 : Int32) = nI 0 from rfl, c_drop i 0 N _ (by omega) (by omega) (by unfold iv_N at hN; omega) (by rw [e1]; omega)]
      have e4 : (hl f n a)[i]? = some ((hl f n a)[i]'(by omega)) := List.getElem?_eq_getElem (by omega)
      rw [e4]
      simp only [e1, Option.map_some, enc]
      rw [show (32 : Int32) = nI 32 from rfl, pk_mul, nI_add]
theorem c_ends {f : Nat → Int32} (hs : s < 8) (hn : n ≤ 24) (hN : iv_N N) (e : σ.2.2.1 (2 + 2 * s) 1 = nI n) (ef : ∀ k, k < 24 → σ.1 (3 + 2 * s) k = f k) (hb : ∀ a, a < n → ∀ b, bt (f a) b = true → b < n) {i : Nat} (hi : i < 2 ^ 31) : f62 N (2 + 2 * s) (nI i) (hp σ, cs) = some (.inl (some (.int (enc ((lq f n 0 n)[i]?)))), (hp σ, cs)) := by
  unfold f62
  exact c_ends_loop hs hn hN e ef hb n 0 N i (by omega) (by unfold iv_N at hN; omega) hi
theorem c_ends_neg (hs : s < 8) (hn : n ≤ 24) (h1 : 1 ≤ n) (hN : iv_N N) (e : σ.2.2.1 (2 + 2 * s) 1 = nI n) {x : Int32} (hx : x < 0) : f62 N (2 + 2 * s) x (hp σ, cs) = some (.inl (some (.int (-1))), (hp σ, cs)) := by
  unfold f62
  obtain ⟨N', hN'⟩ : ∃ q, N = q + 1 := ⟨N - 1, by unfold iv_N at hN; omega⟩
  have : g62_4 N (N' + 1) (2 + 2 * s) x 0 (hp σ, cs) = some (.inl (some (.int (-1))), (hp σ, cs)) := by
    unfold g62_4
    rw [sN_1 hs, e, if_neg (show ¬ nI n ≤ 0 from nI_ge (a := 0) (by omega) (by omega)), if_pos hx]
  rw [← hN'] at this
  exact this
/-! the class's list -/
def lnC (σ : hp_S) (r : Nat) (L : List (Nat × Nat)) : Prop := ∀ i a b, L[i]? = some (a, b) → σ.1 r i = nI (32 * a + b)
theorem lnC.more {L : List (Nat × Nat)} {r a b : Nat} (h : lnC σ r L) : lnC (hp_wi σ r L.length (nI (32 * a + b))) r (L ++ [(a, b)]) := by
  intro i c d hi
  by_cases e : i = L.length
  · subst e
    rw [List.getElem?_concat_length] at hi
    cases hi
    rw [hp_wi_at]
  · have hlt : i < (L ++ [(a, b)]).length := (List.getElem?_eq_some_iff.mp hi).1
    rw [List.length_append, List.length_singleton] at hlt
    rw [List.getElem?_append_left (by omega)] at hi
    rw [hp_wi_nj e]
    exact h i c d hi
theorem c_li_in {r a : Nat} (hr : hp_lay[r]? = some (0, 96, [], [])) {k4 : Nat → Nat → Int32 → Int32 → lf_W → lf_R} {p : Nat} : ∀ (m u : Nat) (x : Int32) (σ : hp_S) (L : List (Nat × Nat)), (bl x).length = m → m < u → lnC σ r L → L.length + m ≤ 96 → ∃ τ, fr [r] [] σ τ ∧ lnC τ r (L ++ (bl x).map (fun b => (a, b))) ∧ g63_19 N k4 u p r (nI L.length) (nI a) x (hp σ, cs) = k4 p r (nI (L.length + m)) (nI (a + 1)) (hp τ, cs) := by
  intro m
  induction m with
  | zero =>
    intro u x σ L hm hu hL _
    obtain ⟨u, rfl⟩ : ∃ q, u = q + 1 := ⟨u - 1, by omega⟩
    have hx : x = 0 := by
      apply Classical.byContradiction
      intro q
      obtain ⟨l, -, -, -, e, -⟩ := bl_low q
      rw [e, List.length_cons] at hm
      omega
    subst hx
    refine ⟨σ, fr.rf, by rw [bl_0, List.map_nil, List.append_nil]; exact hL, ?_⟩
    unfold g63_19 g63_58
    rw [if_pos rfl, nI_1]
    rfl
  | succ m ih =>
    intro u x σ L hm hu hL h96
    obtain ⟨u, rfl⟩ : ∃ q, u = q + 1 := ⟨u - 1, by omega⟩
    have hx : ¬ x = 0 := by
      intro q
      rw [q, bl_0] at hm
      exact absurd hm (by simp)
    obtain ⟨l, -, -, -, e, el⟩ := bl_low hx
    have hm' : (bl (x &&& (x - 1))).length = m := by
      rw [e, List.length_cons] at hm
      omega
    unfold g63_19
    rw [if_neg hx, hp_len_i hr, Option.bind_some, if_neg (show ¬ Int32.ofNat 96 ≤ nI L.length from nI_ge (b := 96) (by omega) (by omega)), (el N _).1, lf_nest_r, lf_ci_r, show (32 : Int32) * nI a + nI l = nI (32 * a + l) by rw [show (32 : Int32) = nI 32 from rfl, pk_mul, nI_add], hp_swi hr (in_nI (by omega) (by omega)), Option.bind_some, nI_clamp (by omega), nI_1]
    obtain ⟨τ, q1, q2, q3⟩ := ih u (x &&& (x - 1)) (hp_wi σ r L.length (nI (32 * a + l))) (L ++ [(a, l)]) hm' (by omega) hL.more (by rw [List.length_append, List.length_singleton]; omega)
    refine ⟨τ, (fr.wi List.mem_cons_self).tr q1, ?_, ?_⟩
    · rw [e, List.map_cons]
      rw [List.append_assoc] at q2
      exact q2
    · rw [List.length_append, List.length_singleton] at q3
      rw [q3, show L.length + 1 + m = L.length + (m + 1) by omega]
theorem c_li_out {f : Nat → Int32} {r : Nat} (hr : hp_lay[r]? = some (0, 96, [], [])) (h22 : 22 < r) (hs : s < 8) (hn : n ≤ 24) (hN : iv_N N) (hb : ∀ a, a < n → ∀ b, bt (f a) b = true → b < n) : ∀ (m a u : Nat) (σ : hp_S) (L : List (Nat × Nat)), a + m = n → m < u → σ.2.2.1 (2 + 2 * s) 1 = nI n → (∀ k, k < 24 → σ.1 (3 + 2 * s) k = f k) → lnC σ r L → L.length + (lq f n a m).length ≤ 96 → ∃ τ, fr [r] [] σ τ ∧ lnC τ r (L ++ lq f n a m) ∧ g63_4 N u (2 + 2 * s) r (nI L.length) (nI a) (hp σ, cs) = some (.inl (some (.int (nI (L.length + (lq f n a m).length)))), (hp τ, cs)) := by
  intro m
  induction m with
  | zero =>
    intro a u σ L ha hu e ef hL _
    obtain ⟨u, rfl⟩ : ∃ q, u = q + 1 := ⟨u - 1, by omega⟩
    refine ⟨σ, fr.rf, by rw [show lq f n a 0 = [] from rfl, List.append_nil]; exact hL, ?_⟩
    unfold g63_4
    rw [sN_1 hs, e, if_pos (nI_le (by omega) (by omega))]
    rfl
  | succ m ih =>
    intro a u σ L ha hu e ef hL h96
    obtain ⟨u, rfl⟩ : ∃ q, u = q + 1 := ⟨u - 1, by omega⟩
    have e1 : bl (f a &&& lf_shl (-2) (nI a)) = hl f n a := bl_up (by omega) (by omega) (hb a (by omega))
    have el : lq f n a (m + 1) = (hl f n a).map (fun b => (a, b)) ++ lq f n (a + 1) m := rfl
    have e3 : (hl f n a).length ≤ 32 := by rw [← e1]; exact bl_le _
    rw [el, List.length_append, List.length_map] at h96
    unfold g63_4
    rw [sN_1 hs, e, if_neg (nI_ge (by omega) (by omega)), sN_o hs, c_higher hs (by omega) (ef a (by omega)), lf_ci_r]
    obtain ⟨τ, q1, q2, q3⟩ := c_li_in (N := N) (cs := cs) (a := a) (p := 2 + 2 * s) (k4 := g63_4 N u) hr (hl f n a).length N _ σ L (by rw [e1]) (by unfold iv_N at hN; omega) hL (by omega)
    rw [q3]
    rw [e1] at q2
    obtain ⟨υ, p1, p2, p3⟩ := ih (a + 1) u τ (L ++ (hl f n a).map (fun b => (a, b))) (by omega) (by omega) (by rw [q1.f List.not_mem_nil]; exact e) (fun k hk => by rw [q1.r (by rw [List.mem_singleton]; omega)]; exact ef k hk) q2 (by rw [List.length_append, List.length_map]; omega)
    refine ⟨υ, q1.tr p1, ?_, ?_⟩
    · rw [el, ← List.append_assoc]
      exact p2
    · rw [List.length_append, List.length_map] at p3
      rw [p3, el, List.length_append, List.length_map, Nat.add_assoc]
theorem c_list {f : Nat → Int32} {r : Nat} (hr : hp_lay[r]? = some (0, 96, [], [])) (h22 : 22 < r) (hs : s < 8) (hn : n ≤ 24) (hN : iv_N N) (hb : ∀ a, a < n → ∀ b, bt (f a) b = true → b < n) (e : σ.2.2.1 (2 + 2 * s) 1 = nI n) (ef : ∀ k, k < 24 → σ.1 (3 + 2 * s) k = f k) (h96 : (lq f n 0 n).length ≤ 96) : ∃ τ, fr [r] [] σ τ ∧ lnC τ r (lq f n 0 n) ∧ f63 N (2 + 2 * s) r (hp σ, cs) = some (.inl (some (.int (nI (lq f n 0 n).length))), (hp τ, cs)) := by
  obtain ⟨τ, q1, q2, q3⟩ := c_li_out (N := N) (cs := cs) (f := f) hr h22 hs hn hN hb n 0 N σ [] (by omega) (by unfold iv_N at hN; omega) e ef (fun i a b h => by cases h) (by rw [List.length_nil]; omega)
  refine ⟨τ, q1, q2, ?_⟩
  unfold f63
  rw [List.length_nil, Nat.zero_add] at q3
  exact q3
end LI
