/-! lay, the model: lengths, the next order, all orders -/
section LYM
variable {cs : Nat × Nat} {N n w : Nat} {f : Nat → Int32} {P : Nat → Nat} {σ τ : hp_S}
theorem m_gap {p q : Nat} (hw1 : 1 ≤ w) (hw : w ≤ 24) (hp' : p < 24) (hq : q < 24) (e : σ.2.2.1 72 61 = nI w) : f261 N 72 (nI p) (nI q) (hp σ, cs) = some (.inl (some (.int (nI (gap w p q)))), (hp σ, cs)) := by
  have nw : ¬ nI w = 0 := nI_ne0 (by omega) (by omega)
  have h1 := Nat.mod_le p w
  have h2 := Nat.mod_le q w
  have h3 := Nat.div_le_self p w
  have h4 := Nat.div_le_self q w
  have h0 : (0 : Int32).toInt = 0 := rfl
  have av : ∀ a b : Nat, a < 2 ^ 30 → b < 2 ^ 30 → (0 ≤ nI a - nI b → nI a - nI b = nI (ady a b)) ∧ (¬ 0 ≤ nI a - nI b → -(nI a - nI b) = nI (ady a b)) := by
    intro a b ha hb
    have := abs_nI ha hb
    unfold pm_abs at this
    constructor
    · intro z
      rw [if_pos z] at this
      exact this
    · intro z
      rw [if_neg z, Int32.zero_sub] at this
      exact this
  obtain ⟨x1, x2⟩ := av (p % w) (q % w) (by omega) (by omega)
  obtain ⟨y1, y2⟩ := av (p / w) (q / w) (by omega) (by omega)
  have fin : ∀ x : Nat, g261_39 N (nI (p / w) - nI (q / w)) (nI x) (hp σ, cs) = some (.inl (some (.int (nI (x + ady (p / w) (q / w))))), (hp σ, cs)) := by
    intro x
    unfold g261_39 g261_52
    by_cases c : 0 ≤ nI (p / w) - nI (q / w)
    · rw [if_pos c, y1 c, nI_add]
    · rw [if_neg c, y2 c, nI_add]
  unfold f261
  rw [i72_61, e, if_neg nw, i72_61, e, if_neg nw, i72_61, e, if_neg nw, i72_61, e, if_neg nw, rem_nI (by omega) (by omega) (by omega), rem_nI (by omega) (by omega) (by omega), pk_div (by omega) (by omega) (by omega), pk_div (by omega) (by omega) (by omega)]
  by_cases c : 0 ≤ nI (p % w) - nI (q % w)
  · rw [if_pos c, x1 c, fin]
    rfl
  · rw [if_neg c, x2 c, fin]
    rfl
/-- the lines' length, line by line -/
def llY (w : Nat) (P : Nat → Nat) : List (Nat × Nat) → Nat
  | [] => 0
  | q :: L => gap w (P q.1) (P q.2) + llY w P L
theorem llY_app : ∀ (L M : List (Nat × Nat)), llY w P (L ++ M) = llY w P L + llY w P M
  | [], M => by show _ = 0 + _; rw [Nat.zero_add]; rfl
  | q :: L, M => by
    show gap w (P q.1) (P q.2) + llY w P (L ++ M) = gap w (P q.1) (P q.2) + llY w P L + llY w P M
    rw [llY_app L M]
    omega
theorem llY_map {a : Nat} : ∀ (l : List Nat), llY w P (l.map (fun b => (a, b))) = rsY w P (P a) l
  | [] => rfl
  | u :: l => by
    show gap w (P a) (P u) + llY w P (l.map (fun b => (a, b))) = gap w (P a) (P u) + rsY w P (P a) l
    rw [llY_map l]
theorem llY_lq : ∀ (m a : Nat), a + m = n → llY w P (lq f n a m) = sm (fun k => rsY w P (P (a + k)) (hl f n (a + k))) m
  | 0, a, _ => rfl
  | m + 1, a, h => by
    show llY w P ((hl f n a).map (fun b => (a, b)) ++ lq f n (a + 1) m) = _
    rw [llY_app, llY_map, llY_lq m (a + 1) (by omega), sm_front]
    rw [Nat.add_zero]
    congr 1
    exact sm_congr (fun k _ => by rw [show a + 1 + k = a + (k + 1) by omega])
theorem hl_rs {a x : Nat} (ha : a < n) : rsY w P x (hl f n a) = sm (fun b => if a < b ∧ bt (f a) b = true then gap w x (P b) else 0) n := by
  unfold hl
  rw [rsY_fil, show a + 1 + (n - (a + 1)) = n by omega]
  rfl
theorem llY_ln : llY w P (lq f n 0 n) = lnY f n w P := by
  rw [llY_lq n 0 (by omega)]
  unfold lnY
  refine sm_congr (fun a ha => ?_)
  rw [Nat.zero_add, hl_rs ha]
/-- the places at work -/
def PLy (σ : hp_S) (n : Nat) (P : Nat → Nat) : Prop := ∀ k, k < n → σ.1 105 k = nI (P k)
theorem lq_in (hw : gw f n) : ∀ (m a : Nat), a + m = n → n ≤ 24 → ∀ q, q ∈ lq f n a m → q.1 < n ∧ q.2 < n
  | 0, a, _, _, q, h => absurd h List.not_mem_nil
  | m + 1, a, h1, hn, q, h => by
    have h : q ∈ (hl f n a).map (fun b => (a, b)) ++ lq f n (a + 1) m := h
    rcases List.mem_append.mp h with z | z
    · obtain ⟨b, b1, b2⟩ := List.mem_map.mp z
      unfold hl at b1
      have b3 := List.mem_filter.mp b1
      have b4 := List.mem_range'_1.mp b3.1
      rw [← b2]
      exact ⟨by show a < n; omega, by show b < n; omega⟩
    · exact lq_in hw m (a + 1) (by omega) hn q z
theorem m_l4 {L : List (Nat × Nat)} (hn : n ≤ 24) (hw1 : 1 ≤ w) (hw : w ≤ 24) (hin : ∀ q, q ∈ L → q.1 < n ∧ q.2 < n) (hP : ∀ k, k < n → P k < n) (hL : lnM σ L) (h96 : L.length ≤ 96) (e : σ.2.2.1 72 61 = nI w) (h5 : PLy σ n P) : ∀ (m i u acc : Nat), i + m = L.length → m < u → g262_4 N u 72 (nI acc) (nI i) (hp σ, cs) = some (.inl (some (.int (nI (acc + llY w P (L.drop i))))), (hp σ, cs)) := by
  intro m
  induction m with
  | zero =>
    intro i u acc hi hu
    obtain ⟨u, rfl⟩ : ∃ q, u = q + 1 := ⟨u - 1, by omega⟩
    unfold g262_4
    rw [i72_20, hL.1, if_pos (nI_le (by omega) (by omega)), List.drop_eq_nil_of_le (by omega)]
    rfl
  | succ m ih =>
    intro i u acc hi hu
    obtain ⟨u, rfl⟩ : ∃ q, u = q + 1 := ⟨u - 1, by omega⟩
    have hiL : i < L.length := by omega
    obtain ⟨r1, r2⟩ := hL.2 i (L[i]).1 (L[i]).2 (List.getElem?_eq_getElem hiL)
    obtain ⟨n1, n2⟩ := hin L[i] (List.getElem_mem hiL)
    have p1 := hP _ n1
    have p2 := hP _ n2
    rw [List.drop_eq_getElem_cons hiL]
    rw [show llY w P (L[i] :: L.drop (i + 1)) = gap w (P (L[i]).1) (P (L[i]).2) + llY w P (L.drop (i + 1)) from rfl, show acc + (gap w (P (L[i]).1) (P (L[i]).2) + llY w P (L.drop (i + 1))) = acc + gap w (P (L[i]).1) (P (L[i]).2) + llY w P (L.drop (i + 1)) by omega, ← ih (i + 1) u (acc + gap w (P (L[i]).1) (P (L[i]).2)) (by omega) (by omega)]
    rw [g262_4]
    rw [i72_20, hL.1, if_neg (nI_ge hiL (by omega)), r72_63, r72_21, a79 (by omega), r1, a105 (by omega), h5 _ n1, r72_63, r72_22, a80 (by omega), r2, a105 (by omega), h5 _ n2, o72, m_gap hw1 hw (by omega) (by omega) e, lf_ci_r, nI_add, nI_1]
/-- all that the lengths rest on -/
def LZy (σ : hp_S) (n w : Nat) (f : Nat → Int32) : Prop := lnM σ (lq f n 0 n) ∧ σ.2.2.1 72 61 = nI w ∧ σ.2.2.1 72 4 = nI n
theorem LZy.fr {A : List Nat} {F : List (Nat × Nat)} (h : LZy σ n w f) (k : fr A F σ τ) (h1 : 79 ∉ A) (h2 : 80 ∉ A) (h3 : (72, 20) ∉ F) (h4 : (72, 61) ∉ F) (h5 : (72, 4) ∉ F) : LZy τ n w f := ⟨⟨by rw [k.f h3]; exact h.1.1, fun i a b e => by rw [k.r h1, k.r h2]; exact h.1.2 i a b e⟩, by rw [k.f h4]; exact h.2.1, by rw [k.f h5]; exact h.2.2⟩
theorem m_len {d : Nat} (hg : GW n d f) (hN : iv_N N) (hw1 : 1 ≤ w) (hw : w ≤ 24) (hP : ∀ k, k < n → P k < n) (hL : LZy σ n w f) (h5 : PLy σ n P) : f262 N 72 (hp σ, cs) = some (.inl (some (.int (nI (lnY f n w P)))), (hp σ, cs)) := by
  have := m_l4 (N := N) (cs := cs) (σ := σ) (n := n) (w := w) (P := P) hg.2.1 hw1 hw (lq_in hg.2.2.2.2.1 n 0 (by omega) hg.2.1) hP hL.1 hg.l96 hL.2.1 h5 (lq f n 0 n).length 0 N 0 (by omega) (by have := hg.l96; unfold iv_N at hN; omega)
  rw [List.drop_zero, Nat.zero_add, llY_ln] at this
  exact this
/-- two change places -/
theorem m_move {i j : Nat} (hn : n ≤ 24) (hi : i < n) (hj : j < n) (h5 : PLy σ n P) : f264 N 72 (nI i) (nI j) (hp σ, cs) = some (.inl none, (hp (hp_wi (hp_wi σ 105 i (nI (P j))) 105 j (nI (P i))), cs)) ∧ PLy (hp_wi (hp_wi σ 105 i (nI (P j))) 105 j (nI (P i))) n (swp P i j) := by
  constructor
  · unfold f264
    rw [r72_63, a105 (by omega), h5 i hi, r72_63, r72_63, a105 (by omega), h5 j hj, b105 (by omega), r72_63, b105 (by omega)]
  · intro k hk
    by_cases c : k = j
    · rw [c, hp_wi_at, swp_j]
    · rw [hp_wi_nj c]
      by_cases d : k = i
      · rw [d, hp_wi_at, swp_i]
      · rw [hp_wi_nj d, swp_n d c]
        exact h5 k hk
/-- the end of an order is turned round -/
theorem m_turn {i : Nat} (hn : n ≤ 24) : ∀ (m x y u : Nat) (P : Nat → Nat) (σ : hp_S), (x ≤ y ∧ y - x ≤ m ∨ y + 1 = x) → m < u → x + y = i + n → i < x → y < n → prm n P → PLy σ n P → ∃ τ P', fr [105] [] σ τ ∧ PLy τ n P' ∧ prm n P' ∧ (∀ k, k < n → P' k = if x ≤ k ∧ k ≤ y then P (x + y - k) else P k) ∧ g263_86 N u 72 (nI x) (nI y) (hp σ, cs) = some (.inl (some (.int 1)), (hp τ, cs)) := by
  intro m
  induction m using Nat.strongRecOn with
  | ind m ih =>
    intro x y u P σ hxy hu hs hx hy hP h5
    obtain ⟨u, rfl⟩ : ∃ q, u = q + 1 := ⟨u - 1, by omega⟩
    by_cases c : y ≤ x
    · refine ⟨σ, P, fr.rf, h5, hP, fun k hk => ?_, ?_⟩
      · by_cases d : x ≤ k ∧ k ≤ y
        · rw [if_pos d, show x + y - k = k by omega]
        · rw [if_neg d]
      · unfold g263_86
        rw [if_pos (nI_le c (by omega))]
    · obtain ⟨a1, a2⟩ := m_move (N := N) (cs := cs) (σ := σ) (P := P) (i := x) (j := y) hn (by omega) hy h5
      obtain ⟨τ, P', q1, q2, q3, q4, q5⟩ := ih (m - 1) (by omega) (x + 1) (y - 1) u (swp P x y) _ (by omega) (by omega) (by omega) (by omega) (by omega) (swp_prm hP (by omega) hy) a2
      refine ⟨τ, P', ((fr.wi (by decide)).tr (fr.wi (by decide))).tr q1, q2, q3, fun k hk => ?_, ?_⟩
      · rw [q4 k hk]
        by_cases d : x + 1 ≤ k ∧ k ≤ y - 1
        · rw [if_pos d, if_pos (by omega), swp_n (by omega) (by omega), show x + 1 + (y - 1) - k = x + y - k by omega]
        · rw [if_neg d]
          by_cases e1 : k = x
          · subst e1
            rw [swp_i, if_pos (by omega), show k + y - k = y by omega]
          · by_cases e2 : k = y
            · subst e2
              rw [swp_j, if_pos (by omega), show x + k - k = x by omega]
            · rw [swp_n e1 e2, if_neg (by omega)]
      · have hm1 : nI y + (-1) = nI (y - 1) := by
          rw [show nI y + (-1) = nI y - 1 from (Int32.sub_eq_add_neg _ _).symm]
          exact pk_sub (b := 1) (by omega)
        unfold g263_86
        rw [if_neg (nI_ge (by omega) (by omega)), o72, a1, lf_cv_r, nI_1, hm1]
        exact q5
/-- the one to change with -/
theorem m_s47 {i : Nat} (hn : n ≤ 24) (hin : i + 1 < n) (hP : prm n P) (h1 : P i < P (i + 1)) (e : σ.2.2.1 72 4 = nI n) (h5 : PLy σ n P) : ∀ (m j u : Nat), i + 1 + m = j → m < u → j < n → (∀ k, j < k → k < n → P k < P i) → ∃ j', i < j' ∧ j' < n ∧ P i < P j' ∧ (∀ k, j' < k → k < n → P k < P i) ∧ g263_47 N u 72 (nI i) (nI j) (hp σ, cs) = (lf_cv (f264 N 72 (nI i) (nI j') (hp σ, cs)) fun w10 => (lf_fi w10 72 12 4).bind fun v16 => g263_86 N N 72 (nI i + 1) (v16 - 1) w10) := by
  have hsm : ∀ k, k < n → P k < 2 ^ 31 := fun k hk => by have := hP.1 k hk; omega
  have stop : ∀ (j u : Nat), j < n → P i < P j → g263_47 N (u + 1) 72 (nI i) (nI j) (hp σ, cs) = (lf_cv (f264 N 72 (nI i) (nI j) (hp σ, cs)) fun w10 => (lf_fi w10 72 12 4).bind fun v16 => g263_86 N N 72 (nI i + 1) (v16 - 1) w10) := by
    intro j u hj hlt
    rw [g263_47]
    rw [r72_63, a105 (by omega), h5 j hj, r72_63, a105 (by omega), h5 i (by omega), if_pos (nI_le (by omega) (by have := hsm j hj; omega)), o72]
  intro m
  induction m with
  | zero =>
    intro j u hj hu hjn hk
    obtain ⟨u, rfl⟩ : ∃ q, u = q + 1 := ⟨u - 1, by omega⟩
    have ej : j = i + 1 := by omega
    subst ej
    exact ⟨i + 1, by omega, hjn, h1, hk, stop _ _ hjn h1⟩
  | succ m ih =>
    intro j u hj hu hjn hk
    obtain ⟨u, rfl⟩ : ∃ q, u = q + 1 := ⟨u - 1, by omega⟩
    by_cases c : P i < P j
    · exact ⟨j, by omega, hjn, c, hk, stop _ _ hjn c⟩
    · have hne : P j ≠ P i := fun z => by
        have := hP.2 j i hjn (by omega) z
        omega
      obtain ⟨j', q1, q2, q3, q4, q5⟩ := ih (j - 1) u (by omega) (by omega) (by omega) (fun k k1 k2 => by
        by_cases d : k = j
        · subst d; omega
        · exact hk k (by omega) k2)
      refine ⟨j', q1, q2, q3, q4, ?_⟩
      have hm1 : nI j + (-1) = nI (j - 1) := by
        rw [show nI j + (-1) = nI j - 1 from (Int32.sub_eq_add_neg _ _).symm]
        exact pk_sub (b := 1) (by omega)
      rw [← q5, g263_47]
      rw [r72_63, a105 (by omega), h5 j hjn, r72_63, a105 (by omega), h5 i (by omega), if_neg (nI_ge (by omega) (by have := hsm i (by omega); omega)), hm1]
/-- the next order -/
theorem m_next (hn1 : 1 ≤ n) (hn : n ≤ 24) (hN : iv_N N) (hP : prm n P) (e : σ.2.2.1 72 4 = nI n) (h5 : PLy σ n P) : (f263 N 72 (hp σ, cs) = some (.inl (some (.int 0)), (hp σ, cs)) ∧ ∀ Q, prm n Q → ¬ lxl n P Q) ∨ ∃ τ P', fr [105] [] σ τ ∧ PLy τ n P' ∧ prm n P' ∧ lxl n P P' ∧ (∀ Q, prm n Q → lxl n P Q → ¬ lxl n Q P') ∧ f263 N 72 (hp σ, cs) = some (.inl (some (.int 1)), (hp τ, cs)) := by
  have hsm : ∀ k, k < n → P k < 2 ^ 31 := fun k hk => by have := hP.1 k hk; omega
  -- i goes down from n - 2
  have down : ∀ (m u : Nat), m < n → m < u → (∀ k, m < k → k < n → P k < P (k - 1)) → (g263_7 N u 72 (nI m - 1) (hp σ, cs) = some (.inl (some (.int 0)), (hp σ, cs)) ∧ ∀ k, 0 < k → k < n → P k < P (k - 1)) ∨ ∃ i, i + 1 < n ∧ P i < P (i + 1) ∧ (∀ k, i + 1 < k → k < n → P k < P (k - 1)) ∧ g263_7 N u 72 (nI m - 1) (hp σ, cs) = g263_47 N N 72 (nI i) (nI (n - 1)) (hp σ, cs) := by
    intro m
    induction m with
    | zero =>
      intro u hm hu hd
      obtain ⟨u, rfl⟩ : ∃ q, u = q + 1 := ⟨u - 1, by omega⟩
      refine Or.inl ⟨?_, fun k k1 k2 => hd k k1 k2⟩
      unfold g263_7 g263_34
      rw [if_pos (show nI 0 - 1 < 0 by decide), if_neg (show ¬ 0 ≤ nI 0 - 1 by decide)]
    | succ m ih =>
      intro u hm hu hd
      obtain ⟨u, rfl⟩ : ∃ q, u = q + 1 := ⟨u - 1, by omega⟩
      have e1 : nI (m + 1) - 1 = nI m := pk_sub (b := 1) (by omega)
      rw [e1]
      by_cases c : P m < P (m + 1)
      · refine Or.inr ⟨m, hm, c, fun k k1 k2 => hd k k1 k2, ?_⟩
        have e2 : nI n - 1 = nI (n - 1) := pk_sub (b := 1) hn1
        unfold g263_7 g263_34
        rw [if_neg (nI_pos (by omega)), r72_63, a105 (by omega), h5 m (by omega), r72_63, nI_1, a105 (by omega), h5 (m + 1) hm, if_pos (nI_le (by omega) (by have := hsm (m + 1) hm; omega)), if_pos (show (0 : Int32) ≤ nI m from nI_le (a := 0) (by omega) (by omega)), i72_4, e, e2]
      · have hne : P m ≠ P (m + 1) := fun z => by
          have := hP.2 m (m + 1) (by omega) hm z
          omega
        have hm1 : nI m + (-1) = nI m - 1 := (Int32.sub_eq_add_neg _ _).symm
        have step : g263_7 N (u + 1) 72 (nI m) (hp σ, cs) = g263_7 N u 72 (nI m - 1) (hp σ, cs) := by
          rw [g263_7]
          rw [if_neg (nI_pos (by omega)), r72_63, a105 (by omega), h5 m (by omega), r72_63, nI_1, a105 (by omega), h5 (m + 1) hm, if_neg (nI_ge (by omega) (by have := hsm m (by omega); omega)), hm1]
        rw [step]
        exact ih u (by omega) (by omega) (fun k k1 k2 => by
          by_cases d : k = m + 1
          · subst d
            rw [show m + 1 - 1 = m by omega]
            omega
          · exact hd k (by omega) k2)
  have chain : ∀ (i : Nat), (∀ k, i < k → k < n → P k < P (k - 1)) → ∀ d a, i ≤ a → a + 1 + d < n → P (a + 1 + d) < P a := by
    intro i h d
    induction d with
    | zero =>
      intro a h1 h2
      have := h (a + 1) (by omega) (by omega)
      rw [show a + 1 - 1 = a by omega] at this
      exact this
    | succ d ih =>
      intro a h1 h2
      have := ih a h1 (by omega)
      have h3 := h (a + 1 + (d + 1)) (by omega) h2
      rw [show a + 1 + (d + 1) - 1 = a + 1 + d by omega] at h3
      omega
  have e0 : nI n - 2 = nI (n - 1) - 1 := by
    have : nI n = nI (n - 1) + nI 1 := by rw [nI_add, show n - 1 + 1 = n by omega]
    rw [this, show (2 : Int32) = nI 1 + 1 from rfl]
    grind
  have unf : f263 N 72 (hp σ, cs) = g263_7 N N 72 (nI (n - 1) - 1) (hp σ, cs) := by
    unfold f263
    rw [i72_4, e, e0]
  rcases down (n - 1) N (by omega) (by unfold iv_N at hN; omega) (fun k k1 k2 => by omega) with ⟨a1, a2⟩ | ⟨i, a1, a2, a3, a4⟩
  · refine Or.inl ⟨by rw [unf]; exact a1, fun Q hQ => last_ok hP (fun x y h1 h2 => ?_) hQ⟩
    have := chain 0 a2 (y - x - 1) x (Nat.zero_le _) (by omega)
    rw [show x + 1 + (y - x - 1) = y by omega] at this
    exact this
  · obtain ⟨j, b1, b2, b3, b4, b5⟩ := m_s47 (N := N) (cs := cs) (σ := σ) hn a1 hP a2 e h5 (n - 1 - (i + 1)) (n - 1) N (by omega) (by unfold iv_N at hN; omega) (by omega) (fun k k1 k2 => by omega)
    obtain ⟨c1, c2⟩ := m_move (N := N) (cs := cs) (σ := σ) (P := P) (i := i) (j := j) hn (by omega) b2 h5
    have hPs := swp_prm hP (show i < n by omega) b2
    obtain ⟨τ, P', d1, d2, d3, d4, d5⟩ := m_turn (N := N) (cs := cs) (n := n) (i := i) hn n (i + 1) (n - 1) N (swp P i j) _ (by omega) (by unfold iv_N at hN; omega) (by omega) (by omega) (by omega) hPs c2
    have hdec : ∀ x y, i < x → x < y → y < n → P y < P x := fun x y h0 h1 h2 => by
      have := chain (i + 1) a3 (y - x - 1) x (by omega) (by omega)
      rw [show x + 1 + (y - x - 1) = y by omega] at this
      exact this
    have sdec : ∀ x y, i < x → x < y → y < n → swp P i j y < swp P i j x := fun x y h0 h1 h2 => by
      by_cases z1 : x = j
      · subst z1
        rw [swp_j, swp_n (by omega) (by omega)]
        exact b4 y h1 h2
      · by_cases z2 : y = j
        · subst z2
          rw [swp_j, swp_n (by omega) (by omega)]
          have := hdec x y h0 h1 h2
          omega
        · rw [swp_n (by omega) z2, swp_n (by omega) z1]
          exact hdec x y h0 h1 h2
    obtain ⟨n1, n2⟩ := next_ok (P := P) (P' := P') (i := i) (j := j) hP d3 b1 b2 hdec b3 b4 (fun k hk => by rw [d4 k (by omega), if_neg (by omega), swp_n (by omega) (by omega)]) (by rw [d4 i (by omega), if_neg (by omega), swp_i]) (fun x y h0 h1 h2 => by
      rw [d4 x (by omega), d4 y h2, if_pos (by omega), if_pos (by omega)]
      exact sdec _ _ (by omega) (by omega) (by omega))
    refine Or.inr ⟨τ, P', ((fr.wi (by decide)).tr (fr.wi (by decide))).tr d1, d2, d3, n1, n2, ?_⟩
    rw [unf, a4, b5, c1, lf_cv_r, i72_4]
    rw [show (hp_wi (hp_wi σ 105 i (nI (P j))) 105 j (nI (P i))).2.2.1 72 4 = nI n from e, nI_1, show nI n - 1 = nI (n - 1) from pk_sub (b := 1) hn1]
    exact d5
/-- a row is kept -/
theorem m_keep57 {x1 : Int32} {k33 : Nat → Int32 → lf_W → lf_R} (hn : n ≤ 24) : ∀ (m k u : Nat) (σ : hp_S), k + m = n → m < u → σ.2.2.1 72 4 = nI n → PLy σ n P → (∀ j, j < k → σ.1 106 j = nI (P j)) → ∃ τ, fr [106] [] σ τ ∧ (∀ j, j < n → τ.1 106 j = nI (P j)) ∧ g266_57 N k33 u 72 x1 (nI k) (hp σ, cs) = k33 72 x1 (hp τ, cs) := by
  intro m
  induction m with
  | zero =>
    intro k u σ hk hu e h5 h6
    obtain ⟨u, rfl⟩ : ∃ q, u = q + 1 := ⟨u - 1, by omega⟩
    refine ⟨σ, fr.rf, fun j hj => h6 j (by omega), ?_⟩
    unfold g266_57
    rw [i72_4, e, if_pos (nI_le (by omega) (by omega))]
  | succ m ih =>
    intro k u σ hk hu e h5 h6
    obtain ⟨u, rfl⟩ : ∃ q, u = q + 1 := ⟨u - 1, by omega⟩
    obtain ⟨τ, q1, q2, q3⟩ := ih (k + 1) u (hp_wi σ 106 k (nI (P k))) (by omega) (by omega) e (fun j hj => by rw [hp_wi_ne (by decide)]; exact h5 j hj) (fun j hj => by
      by_cases c : j = k
      · rw [c, hp_wi_at]
      · rw [hp_wi_nj c]; exact h6 j (by omega))
    refine ⟨τ, (fr.wi (by decide)).tr q1, q2, ?_⟩
    unfold g266_57
    rw [i72_4, e, if_neg (nI_ge (by omega) (by omega)), r72_64, r72_63, a105 (by omega), h5 k (by omega), b106 (by omega), nI_1]
    exact q3
theorem m_keep7 {x1 : Int32} (hn : n ≤ 24) : ∀ (m k u : Nat) (σ : hp_S), k + m = n → m < u → σ.2.2.1 72 4 = nI n → PLy σ n P → (∀ j, j < k → σ.1 106 j = nI (P j)) → ∃ τ, fr [106] [] σ τ ∧ (∀ j, j < n → τ.1 106 j = nI (P j)) ∧ g266_7 N u 72 x1 (nI k) (hp σ, cs) = g266_33 N N 72 x1 (hp τ, cs) := by
  intro m
  induction m with
  | zero =>
    intro k u σ hk hu e h5 h6
    obtain ⟨u, rfl⟩ : ∃ q, u = q + 1 := ⟨u - 1, by omega⟩
    refine ⟨σ, fr.rf, fun j hj => h6 j (by omega), ?_⟩
    unfold g266_7
    rw [i72_4, e, if_pos (nI_le (by omega) (by omega))]
  | succ m ih =>
    intro k u σ hk hu e h5 h6
    obtain ⟨u, rfl⟩ : ∃ q, u = q + 1 := ⟨u - 1, by omega⟩
    obtain ⟨τ, q1, q2, q3⟩ := ih (k + 1) u (hp_wi σ 106 k (nI (P k))) (by omega) (by omega) e (fun j hj => by rw [hp_wi_ne (by decide)]; exact h5 j hj) (fun j hj => by
      by_cases c : j = k
      · rw [c, hp_wi_at]
      · rw [hp_wi_nj c]; exact h6 j (by omega))
    refine ⟨τ, (fr.wi (by decide)).tr q1, q2, ?_⟩
    unfold g266_7
    rw [i72_4, e, if_neg (nI_ge (by omega) (by omega)), r72_64, r72_63, a105 (by omega), h5 k (by omega), b106 (by omega), nI_1]
    exact q3
theorem m_keep88 {x1 : Int32} (hn : n ≤ 24) : ∀ (m k u : Nat) (σ : hp_S), k + m = n → m < u → σ.2.2.1 72 4 = nI n → (∀ j, j < n → σ.1 106 j = nI (P j)) → (∀ j, j < k → σ.1 105 j = nI (P j)) → ∃ τ, fr [105] [] σ τ ∧ PLy τ n P ∧ g266_88 N u 72 x1 (nI k) (hp σ, cs) = some (.inl (some (.int x1)), (hp τ, cs)) := by
  intro m
  induction m with
  | zero =>
    intro k u σ hk hu e h5 h6
    obtain ⟨u, rfl⟩ : ∃ q, u = q + 1 := ⟨u - 1, by omega⟩
    refine ⟨σ, fr.rf, fun j hj => h6 j (by omega), ?_⟩
    unfold g266_88
    rw [i72_4, e, if_pos (nI_le (by omega) (by omega))]
  | succ m ih =>
    intro k u σ hk hu e h5 h6
    obtain ⟨u, rfl⟩ : ∃ q, u = q + 1 := ⟨u - 1, by omega⟩
    obtain ⟨τ, q1, q2, q3⟩ := ih (k + 1) u (hp_wi σ 105 k (nI (P k))) (by omega) (by omega) e (fun j hj => by rw [hp_wi_ne (by decide)]; exact h5 j hj) (fun j hj => by
      by_cases c : j = k
      · rw [c, hp_wi_at]
      · rw [hp_wi_nj c]; exact h6 j (by omega))
    refine ⟨τ, (fr.wi (by decide)).tr q1, q2, ?_⟩
    unfold g266_88
    rw [i72_4, e, if_neg (nI_ge (by omega) (by omega)), r72_63, r72_64, a106 (by omega), h5 k (by omega), b105 (by omega), nI_1]
    exact q3
/-- all orders, one after the other -/
theorem m_thrL {d : Nat} (hg : GW n d f) (hn8 : n ≤ 8) (hN : iv_N N) (hw1 : 1 ≤ w) (hw : w ≤ 24) : ∀ (m u : Nat) (P B : Nat → Nat) (σ : hp_S), 8 ^ n ≤ cdY P n + m → m < u → prm n P → prm n B → LZy σ n w f → PLy σ n P → (∀ j, j < n → σ.1 106 j = nI (B j)) → (∀ Q, prm n Q → ¬ lxl n P Q → lnY f n w B ≤ lnY f n w Q ∧ (lnY f n w Q = lnY f n w B → ¬ lxl n Q B)) → (¬ lxl n P B) → ∃ τ R, fr [105, 106] [] σ τ ∧ PLy τ n R ∧ lbY f n w R ∧ g266_33 N u 72 (nI (lnY f n w B)) (hp σ, cs) = some (.inl (some (.int (nI (lnY f n w R)))), (hp τ, cs)) := by
  have hn := hg.2.1
  have hn1 := hg.1
  intro m
  induction m with
  | zero =>
    intro u P B σ hm hu hP
    have := cdY_lt (n := n) (P := P) (fun k hk => by have := hP.1 k hk; omega) n (Nat.le_refl _)
    omega
  | succ m ih =>
    intro u P B σ hm hu hP hB hL h5 h6 hI hPB
    obtain ⟨u, rfl⟩ : ∃ q, u = q + 1 := ⟨u - 1, by omega⟩
    rcases m_next (N := N) (cs := cs) (σ := σ) hn1 hn hN hP hL.2.2 h5 with ⟨a1, a2⟩ | ⟨τ1, P', a1, a2, a3, a4, a5, a6⟩
    · obtain ⟨τ, q1, q2, q3⟩ := m_keep88 (N := N) (cs := cs) (P := B) (x1 := nI (lnY f n w B)) hn n 0 N σ (by omega) (by unfold iv_N at hN; omega) hL.2.2 h6 (fun j hj => absurd hj (Nat.not_lt_zero _))
      refine ⟨τ, B, q1.wk (fun _ z => by simp at z; simp [z]) (fun _ z => z), q2, ⟨hB, fun Q hQ => hI Q hQ (a2 Q hQ)⟩, ?_⟩
      unfold g266_33
      rw [o72, a1, lf_ci_r, if_pos rfl]
      exact q3
    · have hL1 := hL.fr a1 (by decide) (by decide) List.not_mem_nil List.not_mem_nil List.not_mem_nil
      have hlen := m_len (N := N) (cs := cs) (P := P') hg hN hw1 hw a3.1 hL1 a2
      have hcd := cdY_lx (n := n) (P := P) (Q := P') (fun k hk => by have := hP.1 k hk; omega) a4
      have hbd1 := lnY_le (f := f) (w := w) hn a3.1
      have hbd2 := lnY_le (f := f) (w := w) hn hB.1
      have hcase : ∀ Q, prm n Q → ¬ lxl n P' Q → ¬ lxl n P Q ∨ ∀ k, k < n → Q k = P' k := fun Q hQ z => by
        by_cases y : lxl n P Q
        · exact Or.inr (lx_tot (a5 Q hQ y) z)
        · exact Or.inl y
      have pre : g266_33 N (u + 1) 72 (nI (lnY f n w B)) (hp σ, cs) = if nI (lnY f n w P') < nI (lnY f n w B) then g266_57 N (g266_33 N u) N 72 (nI (lnY f n w P')) 0 (hp τ1, cs) else g266_33 N u 72 (nI (lnY f n w B)) (hp τ1, cs) := by
        rw [g266_33]
        rw [o72, a6, lf_ci_r, if_neg (by decide), o72, hlen, lf_ci_r]
      by_cases c : lnY f n w P' < lnY f n w B
      · obtain ⟨τ2, b1, b2, b3⟩ := m_keep57 (N := N) (cs := cs) (P := P') (x1 := nI (lnY f n w P')) (k33 := g266_33 N u) hn n 0 N τ1 (by omega) (by unfold iv_N at hN; omega) hL1.2.2 a2 (fun j hj => absurd hj (Nat.not_lt_zero _))
        obtain ⟨τ, R, q1, q2, q3, q4⟩ := ih u P' P' τ2 (by omega) (by omega) a3 a3 (hL1.fr b1 (by decide) (by decide) List.not_mem_nil List.not_mem_nil List.not_mem_nil) (fun k hk => by rw [b1.r (by decide)]; exact a2 k hk) b2 (fun Q hQ z => by
          rcases hcase Q hQ z with y | y
          · have := (hI Q hQ y).1
            exact ⟨by omega, fun e => by omega⟩
          · rw [lnY_cg (P := Q) (Q := P') y]
            refine ⟨Nat.le_refl _, fun _ => ?_⟩
            rintro ⟨d9, d1, d2, d3⟩
            have := y d9 d1
            omega) (fun z => lx_asym z z)
        refine ⟨τ, R, ((a1.wk (fun _ z => by simp at z; simp [z]) (fun _ z => z)).tr (b1.wk (fun _ z => by simp at z; simp [z]) (fun _ z => z))).tr q1, q2, q3, ?_⟩
        rw [pre, if_pos (nI_lt c (by omega))]
        rw [show g266_57 N (g266_33 N u) N 72 (nI (lnY f n w P')) 0 (hp τ1, cs) = _ from b3]
        exact q4
      · obtain ⟨τ, R, q1, q2, q3, q4⟩ := ih u P' B τ1 (by omega) (by omega) a3 hB hL1 a2 (fun j hj => by rw [a1.r (by decide)]; exact h6 j hj) (fun Q hQ z => by
          rcases hcase Q hQ z with y | y
          · exact hI Q hQ y
          · rw [lnY_cg (P := Q) (Q := P') y]
            refine ⟨by omega, fun _ z2 => ?_⟩
            have hBQ : ¬ lxl n P B := hPB
            -- Q is P', after P; B is not after P
            obtain ⟨d9, d1, d2, d3⟩ := z2
            have z3 : lxl n P' B := ⟨d9, d1, fun k hk => by rw [← y k (by omega)]; exact d2 k hk, by rw [← y d9 d1]; exact d3⟩
            exact hPB (lx_trans a4 z3)) (fun z => hPB (lx_trans a4 z))
        refine ⟨τ, R, (a1.wk (fun _ z => by simp at z; simp [z]) (fun _ z => z)).tr q1, q2, q3, ?_⟩
        rw [pre, if_neg (nI_nlt (by omega) (by omega))]
        exact q4
theorem m_through {d : Nat} (hg : GW n d f) (hn8 : n ≤ 8) (hN : iv_N N) (hw1 : 1 ≤ w) (hw : w ≤ 24) (hL : LZy σ n w f) (h5 : PLy σ n (fun k => k)) : ∃ τ R, fr [105, 106] [] σ τ ∧ PLy τ n R ∧ lbY f n w R ∧ f266 N 72 (hp σ, cs) = some (.inl (some (.int (nI (lnY f n w R)))), (hp τ, cs)) := by
  have hn := hg.2.1
  have hlen := m_len (N := N) (cs := cs) (P := fun k => k) hg hN hw1 hw (fun k h => h) hL h5
  obtain ⟨σ1, a1, a2, a3⟩ := m_keep7 (N := N) (cs := cs) (P := fun k => k) (x1 := nI (lnY f n w (fun k => k))) hn n 0 N σ (by omega) (by unfold iv_N at hN; omega) hL.2.2 h5 (fun j hj => absurd hj (Nat.not_lt_zero _))
  have h8 : 8 ^ n ≤ 8 ^ 8 := Nat.pow_le_pow_right (by omega) hn8
  have first : ∀ Q, prm n Q → ¬ lxl n Q (fun k => k) := by
    rintro Q hQ ⟨e, e1, e2, e3⟩
    obtain ⟨k, k1, k2⟩ := prm_sur (prm_id (n := n)) (hQ.1 e e1)
    have h1 : Q e < e := e3
    have := e2 (Q e) h1
    have := hQ.2 (Q e) e (by omega) e1 this
    omega
  obtain ⟨τ, R, q1, q2, q3, q4⟩ := m_thrL (N := N) (cs := cs) hg hn8 hN hw1 hw (8 ^ n) N (fun k => k) (fun k => k) σ1 (by omega) (by unfold iv_N at hN; omega) prm_id prm_id (hL.fr a1 (by decide) (by decide) List.not_mem_nil List.not_mem_nil List.not_mem_nil) (fun k hk => by rw [a1.r (by decide)]; exact h5 k hk) a2 (fun Q hQ z => by
    have := lx_tot z (first Q hQ)
    rw [lnY_cg (P := Q) (Q := fun k => k) (fun k hk => (this k hk).symm)]
    exact ⟨Nat.le_refl _, fun _ => first Q hQ⟩) (fun z => lx_asym z z)
  refine ⟨τ, R, (a1.wk (fun _ z => by simp at z; simp [z]) (fun _ z => z)).tr q1, q2, q3, ?_⟩
  unfold f266
  rw [o72, hlen, lf_ci_r]
  rw [show g266_7 N N 72 (nI (lnY f n w (fun k => k))) 0 (hp σ, cs) = _ from a3]
  exact q4
end LYM
