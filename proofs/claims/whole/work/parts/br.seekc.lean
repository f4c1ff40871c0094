/-! seek, the class -/
section SC1
variable {cs : Nat × Nat} {N K a b deg : Nat} {M B : Int32} {σ τ : hp_S}
theorem us_or {f : Nat → Int32} {x y : Int32} : us f (x ||| y) = us f x ||| us f y := b_eq (fun i => by
  rw [us_bt, b_or_iff, us_bt, us_bt]
  constructor
  · rintro ⟨j, j1, j2⟩
    rcases b_or_iff.mp j1 with z | z
    · exact Or.inl ⟨j, z, j2⟩
    · exact Or.inr ⟨j, z, j2⟩
  · rintro (⟨j, j1, j2⟩ | ⟨j, j1, j2⟩)
    · exact ⟨j, b_or_iff.mpr (Or.inl j1), j2⟩
    · exact ⟨j, b_or_iff.mpr (Or.inr j1), j2⟩)
theorem gh_or {x : Nat} {u : Int32} : gh K a b (M ||| u) x = gh K a b M x ||| gh K a b u x := us_or
theorem gh_z {x : Nat} : gh K a b 0 x = 0 := us_0
theorem gh_u {s x : Nat} (h : gok K a b) (h1 : 1 ≤ s) (hs : s < a * b) (hx : x < a * b) : gh K a b (uS2 K a b s) x = lf_shl 1 (nI (gop K a b x s)) ||| lf_shl 1 (nI (gop K a b x (ginv K a b s))) := by
  have hn := h.2.2.1
  have g1 := (g_op h hx hs).1
  have g2 := (g_op h hx (g_inv h hs).1).1
  refine b_eq (fun i => ?_)
  rw [gh_bt h hx (uS2_good h h1 hs).1, b_or_iff, b_one (by omega), b_one (by omega)]
  constructor
  · rintro ⟨m, m1, m2⟩
    rcases (uS2_bt h hs).mp m1 with z | z
    · exact Or.inl (by rw [m2, z])
    · exact Or.inr (by rw [m2, z])
  · rintro (z | z)
    · exact ⟨s, (uS2_bt h hs).mpr (Or.inl rfl), z⟩
    · exact ⟨_, (uS2_bt h hs).mpr (Or.inr rfl), z⟩
/-- the class's units -/
def UC (σ : hp_S) (K a b : Nat) (U : List Int32) : Prop := σ.2.2.1 25 6 = nI U.length ∧ ∀ i, i < U.length → σ.1 26 i = U.getD i 0 ∧ ∀ x, x < a * b → σ.1 27 (24 * i + x) = gh K a b (U.getD i 0) x
theorem gF3.fr {A : List Nat} {F : List (Nat × Nat)} (h : gF3 σ K a b) (k : fr A F σ τ) (h0 : (25, 0) ∉ F) (h1 : (25, 1) ∉ F) (h2 : (25, 2) ∉ F) : gF3 τ K a b := ⟨by rw [k.f h0]; exact h.1, by rw [k.f h1]; exact h.2.1, by rw [k.f h2]; exact h.2.2⟩
theorem c_u49 {s L : Nat} {k7 : Nat → Int32 → lf_W → lf_R} (h : gok K a b) (hs : s < a * b) (hL : L < 24) : ∀ (m x u : Nat) (σ : hp_S), x + m = a * b → m < u → gF3 σ K a b → σ.2.2.1 25 6 = nI L → ∃ τ, fr [27] [] σ τ ∧ (∀ x', x' < a * b → τ.1 27 (24 * L + x') = if x ≤ x' then lf_shl 1 (nI (gop K a b x' s)) ||| lf_shl 1 (nI (gop K a b x' (ginv K a b s))) else σ.1 27 (24 * L + x')) ∧ (∀ j, j < 24 * L → τ.1 27 j = σ.1 27 j) ∧ g45_49 N k7 u 25 (nI s) (nI (ginv K a b s)) (nI x) (hp σ, cs) = g45_109 N k7 25 (nI s) (hp (hp_wf τ 25 6 (nI (L + 1))), cs) := by
  have hn := h.2.2.1
  have hgi := (g_inv h hs).1
  intro m
  induction m with
  | zero =>
    intro x u σ hx hu h3 h6
    obtain ⟨u, rfl⟩ : ∃ q, u = q + 1 := ⟨u - 1, by omega⟩
    refine ⟨σ, fr.rf, fun x' hx' => by rw [if_neg (by omega)], fun _ _ => rfl, ?_⟩
    unfold g45_49
    rw [i25_1, i25_2, h3.2.1, h3.2.2, pk_mul, if_pos (nI_le (by omega) (by omega)), i25_6, h6, w25_6, nI_1]
  | succ m ih =>
    intro x u σ hx hu h3 h6
    obtain ⟨u, rfl⟩ : ∃ q, u = q + 1 := ⟨u - 1, by omega⟩
    obtain ⟨τ, q1, q2, q3, q4⟩ := ih (x + 1) u (hp_wi σ 27 (24 * L + x) (lf_shl 1 (nI (gop K a b x s)) ||| lf_shl 1 (nI (gop K a b x (ginv K a b s))))) (by omega) (by omega) h3 h6
    refine ⟨τ, (fr.wi (by decide)).tr q1, fun x' hx' => ?_, fun j hj => ?_, ?_⟩
    · rw [q2 x' hx']
      by_cases c : x' = x
      · subst c
        rw [if_neg (by omega), if_pos (Nat.le_refl _), hp_wi_at]
      · rw [hp_wi_nj (by omega)]
        by_cases d : x ≤ x'
        · rw [if_pos d, if_pos (by omega)]
        · rw [if_neg d, if_neg (by omega)]
    · rw [q3 j hj, hp_wi_nj (by omega)]
    · unfold g45_49
      rw [i25_1, i25_2, h3.2.1, h3.2.2, pk_mul, if_neg (nI_ge (by omega) (by omega)), r25_5, i25_6, h6, o25, c_op h h3 (by omega) (by omega), lf_ci_r, o25, c_op h h3 (by omega) (by omega), lf_ci_r, ix_b, b27 (by omega), nI_1]
      exact q4
theorem uLst_len {m : Nat} : (uLst K a b m).length ≤ m := by
  unfold uLst uLs
  rw [List.length_map]
  have := List.length_filter_le (fun s => decide (s ≤ ginv K a b s)) (List.range' 1 m)
  rw [List.length_range'] at this
  exact this
theorem c_u7 (h : gok K a b) (hN : iv_N N) : ∀ (m s u : Nat) (σ : hp_S), 1 + s + m = a * b → m < u → gF3 σ K a b → UC σ K a b (uLst K a b s) → ∃ τ, fr [26, 27] [(25, 6)] σ τ ∧ UC τ K a b (uLst K a b (a * b - 1)) ∧ g45_7 N u 25 (nI (1 + s)) (hp σ, cs) = some (.inl none, (hp τ, cs)) := by
  have hn := h.2.2.1
  intro m
  induction m with
  | zero =>
    intro s u σ hs hu h3 hU
    obtain ⟨u, rfl⟩ : ∃ q, u = q + 1 := ⟨u - 1, by omega⟩
    refine ⟨σ, fr.rf, by rw [show a * b - 1 = s by omega]; exact hU, ?_⟩
    unfold g45_7
    rw [i25_1, i25_2, h3.2.1, h3.2.2, pk_mul, if_pos (nI_le (by omega) (by omega))]
  | succ m ih =>
    intro s u σ hs hu h3 hU
    obtain ⟨u, rfl⟩ : ∃ q, u = q + 1 := ⟨u - 1, by omega⟩
    have hs1 : 1 + s < a * b := by omega
    have hgi := (g_inv h hs1).1
    have hnl : ¬ nI (a * b) ≤ nI (1 + s) := nI_ge (by omega) (by omega)
    have hll := uLst_len (K := K) (a := a) (b := b) (m := s)
    by_cases c : 1 + s ≤ ginv K a b (1 + s)
    · have eU : uLst K a b (s + 1) = uLst K a b s ++ [uS2 K a b (1 + s)] := by
        unfold uLst
        rw [uLs_s, if_pos c, List.map_append]
        rfl
      obtain ⟨τ1, a1, a2, a3, a4⟩ := c_u49 (N := N) (cs := cs) (s := 1 + s) (L := (uLst K a b s).length) (k7 := g45_7 N u) h hs1 (by omega) (a * b) 0 N (hp_wi σ 26 (uLst K a b s).length (uS2 K a b (1 + s))) (by omega) (by unfold iv_N at hN; omega) h3 hU.1
      have w1 : fr [26, 27] [(25, 6)] σ (hp_wf τ1 25 6 (nI ((uLst K a b s).length + 1))) := ((fr.wi (by decide)).tr (a1.wk (fun _ z => by simp at z; simp [z]) (fun _ z => absurd z List.not_mem_nil))).tr (fr.wf (by decide))
      obtain ⟨τ, q1, q2, q3⟩ := ih (s + 1) u (hp_wf τ1 25 6 (nI ((uLst K a b s).length + 1))) (by omega) (by omega) (h3.fr w1 (by decide) (by decide) (by decide)) (by
        rw [eU]
        refine ⟨?_, fun i hi => ?_⟩
        · rw [hp_wf_at, List.length_append, List.length_singleton]
        · rw [List.length_append, List.length_singleton] at hi
          by_cases ci : i = (uLst K a b s).length
          · subst ci
            rw [show (uLst K a b s ++ [uS2 K a b (1 + s)]).getD (uLst K a b s).length 0 = uS2 K a b (1 + s) by rw [List.getD_eq_getElem?_getD, List.getElem?_append_right (Nat.le_refl _), Nat.sub_self]; rfl]
            refine ⟨?_, fun x hx => ?_⟩
            · show τ1.1 26 _ = _
              rw [a1.r (by decide), hp_wi_at]
            · show τ1.1 27 _ = _
              rw [a2 x hx, if_pos (Nat.zero_le _), gh_u h (by omega) hs1 hx]
          · rw [show (uLst K a b s ++ [uS2 K a b (1 + s)]).getD i 0 = (uLst K a b s).getD i 0 by rw [List.getD_eq_getElem?_getD, List.getD_eq_getElem?_getD, List.getElem?_append_left (by omega)]]
            obtain ⟨b1, b2⟩ := hU.2 i (by omega)
            refine ⟨?_, fun x hx => ?_⟩
            · show τ1.1 26 _ = _
              rw [a1.r (by decide), hp_wi_nj ci]
              exact b1
            · show τ1.1 27 _ = _
              rw [a3 _ (by omega), hp_wi_ne (by decide)]
              exact b2 x hx)
      refine ⟨τ, w1.tr q1, q2, ?_⟩
      unfold g45_7
      rw [i25_1, i25_2, h3.2.1, h3.2.2, pk_mul, if_neg hnl, o25, c_ginv h h3 hs1, lf_ci_r, if_neg (nI_nlt c (by omega)), r25_4, i25_6, hU.1, b26 (by omega)]
      rw [show g45_49 N (g45_7 N u) N 25 (nI (1 + s)) (nI (ginv K a b (1 + s))) 0 (hp (hp_wi σ 26 (uLst K a b s).length (lf_shl 1 (nI (1 + s)) ||| lf_shl 1 (nI (ginv K a b (1 + s))))), cs) = _ from a4]
      unfold g45_109
      rw [nI_1]
      exact q3
    · have eU : uLst K a b (s + 1) = uLst K a b s := by
        unfold uLst
        rw [uLs_s, if_neg c]
      obtain ⟨τ, q1, q2, q3⟩ := ih (s + 1) u σ (by omega) (by omega) h3 (by rw [eU]; exact hU)
      refine ⟨τ, q1, q2, ?_⟩
      unfold g45_7 g45_109
      rw [i25_1, i25_2, h3.2.1, h3.2.2, pk_mul, if_neg hnl, o25, c_ginv h h3 hs1, lf_ci_r, if_pos (nI_lt (by omega) (by omega)), nI_1]
      exact q3
theorem c_units (h : gok K a b) (hN : iv_N N) (h3 : gF3 σ K a b) : ∃ τ, fr [26, 27] [(25, 6)] σ τ ∧ UC τ K a b (uLst K a b (a * b - 1)) ∧ f45 N 25 (hp σ, cs) = some (.inl none, (hp τ, cs)) := by
  have hp0 : 0 < a * b := Nat.mul_pos h.1 h.2.1
  have w1 : fr [26, 27] [(25, 6)] σ (hp_wf σ 25 6 0) := fr.wf (by decide)
  obtain ⟨τ, q1, q2, q3⟩ := c_u7 (N := N) (cs := cs) h hN (a * b - 1) 0 N (hp_wf σ 25 6 0) (by omega) (by have := h.2.2.1; unfold iv_N at hN; omega) (h3.fr w1 (by decide) (by decide) (by decide)) ⟨hp_wf_at, fun i hi => absurd hi (Nat.not_lt_zero _)⟩
  refine ⟨τ, w1.tr q1, q2, ?_⟩
  unfold f45
  rw [w25_6]
  exact q3
/-- the rows of a layer -/
def LY (σ : hp_S) (K a b ly : Nat) (M : Int32) : Prop := ∀ x, x < a * b → σ.1 28 (24 * ly + x) = gh K a b M x
theorem gh_in (h : gok K a b) {x : Nat} (hx : x < a * b) (hM : good (a * b) M) {i : Nat} (hi : bt (gh K a b M x) i = true) : i < a * b := by
  obtain ⟨m, m1, m2⟩ := (gh_bt h hx hM).mp hi
  rw [m2]
  exact (g_op h hx (hM m m1).2).1
theorem c_j33 {ly d fa su : Nat} {r : Int32} {k14 : Nat → Int32 → Int32 → Int32 → Int32 → Int32 → Int32 → Int32 → lf_W → lf_R} (hn : a * b ≤ 24) (hly : ly ≤ 8) (hL : LY σ K a b ly M) : ∀ (c u : Nat) (X acc : Int32), (bl X).length = c → c < u → (∀ i, bt X i = true → i < a * b) → g47_33 N k14 u 25 (nI ly) M r (nI fa) (nI su) (nI d) acc X (hp σ, cs) = k14 25 (nI ly) M (r ||| (un (gh K a b M) (bl X) acc &&& (r ^^^ (-1)))) (un (gh K a b M) (bl X) acc &&& (r ^^^ (-1))) (if un (gh K a b M) (bl X) acc &&& (r ^^^ (-1)) = 0 then nI fa else nI d) (nI (su + d * i_pc (un (gh K a b M) (bl X) acc &&& (r ^^^ (-1))))) (nI (d + 1)) (hp σ, cs) := by
  intro c
  induction c with
  | zero =>
    intro u X acc hc hu hX
    obtain ⟨u, rfl⟩ : ∃ q, u = q + 1 := ⟨u - 1, by omega⟩
    have e0 : X = 0 := b_nothing.mpr (fun i hi => by
      have := bl_mem.mpr hi
      rw [List.eq_nil_of_length_eq_zero hc] at this
      cases this)
    subst e0
    have e1 : un (gh K a b M) (bl 0) acc = acc := by rw [bl_0]; rfl
    rw [e1]
    unfold g47_33 g47_95
    rw [if_pos rfl]
    by_cases cz : acc &&& (r ^^^ (-1)) = 0
    · rw [if_pos cz, if_pos cz, c_pc, lf_ci_r, pk_mul, nI_add, nI_1]
    · rw [if_neg cz, if_neg cz, c_pc, lf_ci_r, pk_mul, nI_add, nI_1]
  | succ c ih =>
    intro u X acc hc hu hX
    obtain ⟨u, rfl⟩ : ∃ q, u = q + 1 := ⟨u - 1, by omega⟩
    have h0 : ¬ X = 0 := fun e => by
      rw [e, bl_0] at hc
      cases hc
    obtain ⟨l, l1, l2, l3, l4, l5⟩ := bl_low h0
    have hl := hX l l2
    rw [l4, List.length_cons] at hc
    have := ih u (X &&& (X - 1)) (acc ||| gh K a b M l) (by omega) (by omega) (fun i hi => hX i (by
      rw [l3 i, Bool.and_eq_true] at hi
      exact hi.1))
    rw [l4, un_cons]
    rw [← this]
    rw [g47_33]
    rw [if_neg h0, r25_7, (l5 N (hp σ, cs)).1, lf_nest_r, lf_ci_r, ix_b, a28 (by omega), hL l hl]
theorem jq_in {h : Nat → Int32} {n : Nat} (hh : ∀ x, x < n → ∀ i, bt (h x) i = true → i < n) {e : Int32} (he : ∀ i, bt e i = true → i < n) : ∀ i, bt (us h e) i = true → i < n := by
  intro i hi
  obtain ⟨j, j1, j2⟩ := us_bt.mp hi
  exact hh j (he j j1) i j2
theorem c_j14 {ly : Nat} (h : gok K a b) (hN : iv_N N) (hly : ly ≤ 8) (hM : good (a * b) M) (hL : LY σ K a b ly M) : ∀ (k d u : Nat) (e r : Int32) (fa su : Nat), d + k = 24 → k < u → (∀ i, bt e i = true → i < a * b) → g47_14 N u 25 (nI ly) M r e (nI fa) (nI su) (nI (d + 1)) (hp σ, cs) = g47_116 N 25 M (jq (gh K a b M) k d e r fa su).2.2 (nI (jq (gh K a b M) k d e r fa su).1) (nI (jq (gh K a b M) k d e r fa su).2.1) (hp σ, cs) := by
  have hn := h.2.2.1
  intro k
  induction k with
  | zero =>
    intro d u e r fa su hd hu he
    obtain ⟨u, rfl⟩ : ∃ q, u = q + 1 := ⟨u - 1, by omega⟩
    have : d = 24 := by omega
    subst this
    unfold g47_14
    rw [if_pos (show (24 : Int32) < nI (24 + 1) from nI_lt (a := 24) (by omega) (by omega))]
    rfl
  | succ k ih =>
    intro d u e r fa su hd hu he
    obtain ⟨u, rfl⟩ : ∃ q, u = q + 1 := ⟨u - 1, by omega⟩
    have e1 : jq (gh K a b M) (k + 1) d e r fa su = if e = 0 then (fa, su, r) else jq (gh K a b M) k (d + 1) (us (gh K a b M) e &&& (r ^^^ (-1))) (r ||| (us (gh K a b M) e &&& (r ^^^ (-1)))) (if us (gh K a b M) e &&& (r ^^^ (-1)) = 0 then fa else d + 1) (su + (d + 1) * i_pc (us (gh K a b M) e &&& (r ^^^ (-1)))) := rfl
    rw [e1]
    by_cases c : e = 0
    · rw [if_pos c]
      unfold g47_14
      rw [if_neg (show ¬ (24 : Int32) < nI (d + 1) from nI_nlt (a := 24) (by omega) (by omega)), if_pos c]
    · rw [if_neg c]
      have hin : ∀ i, bt (us (gh K a b M) e &&& (r ^^^ (-1))) i = true → i < a * b := fun i hi => jq_in (fun x hx i hi => gh_in h hx hM hi) he i (b_andn.mp hi).1
      rw [← ih (d + 1) u _ _ _ _ (by omega) (by omega) hin]
      rw [g47_14]
      rw [if_neg (show ¬ (24 : Int32) < nI (d + 1) from nI_nlt (a := 24) (by omega) (by omega)), if_neg c, c_j33 (N := N) (cs := cs) hn hly hL (bl e).length N e 0 rfl (by have := bl_le e; unfold iv_N at hN; omega) he]
      rw [show un (gh K a b M) (bl e) 0 = us (gh K a b M) e from rfl]
      by_cases cz : us (gh K a b M) e &&& (r ^^^ (-1)) = 0
      · rw [if_pos cz, if_pos cz]
      · rw [if_neg cz, if_neg cz]
theorem jq_bd {h : Nat → Int32} : ∀ (k d : Nat) (e r : Int32) (fa su : Nat), d + k ≤ 24 → fa ≤ d → (jq h k d e r fa su).1 ≤ 24 ∧ (jq h k d e r fa su).2.1 ≤ su + k * 768
  | 0, d, e, r, fa, su, hd, hf => ⟨by show fa ≤ 24; omega, by show su ≤ _; omega⟩
  | k + 1, d, e, r, fa, su, hd, hf => by
    have e1 : jq h (k + 1) d e r fa su = if e = 0 then (fa, su, r) else jq h k (d + 1) (us h e &&& (r ^^^ (-1))) (r ||| (us h e &&& (r ^^^ (-1)))) (if us h e &&& (r ^^^ (-1)) = 0 then fa else d + 1) (su + (d + 1) * i_pc (us h e &&& (r ^^^ (-1)))) := rfl
    rw [e1]
    by_cases c : e = 0
    · rw [if_pos c]
      exact ⟨by show fa ≤ 24; omega, by show su ≤ _; omega⟩
    · rw [if_neg c]
      obtain ⟨a1, a2⟩ := jq_bd k (d + 1) (us h e &&& (r ^^^ (-1))) (r ||| (us h e &&& (r ^^^ (-1)))) (if us h e &&& (r ^^^ (-1)) = 0 then fa else d + 1) (su + (d + 1) * i_pc (us h e &&& (r ^^^ (-1)))) (by omega) (by split <;> omega)
      have hp9 : i_pc (us h e &&& (r ^^^ (-1))) ≤ 32 := by
        have := bl_le (us h e &&& (r ^^^ (-1)))
        rw [bl_len] at this
        exact this
      have hm9 : (d + 1) * i_pc (us h e &&& (r ^^^ (-1))) ≤ 24 * 32 := Nat.mul_le_mul (by omega) hp9
      exact ⟨a1, by omega⟩
theorem jv_bd : (jv K a b M).1 ≤ 24 ∧ (jv K a b M).2.1 ≤ 100000 := by
  obtain ⟨a1, a2⟩ := jq_bd (h := gh K a b M) 24 0 1 1 0 0 (by omega) (by omega)
  exact ⟨a1, by unfold jv; omega⟩
/-- the class's best so far -/
def CS (σ : hp_S) (K a b : Nat) (B : Int32) : Prop := σ.2.2.1 25 10 = B ∧ (¬ B = -1 → σ.2.2.1 25 8 = nI (jv K a b B).1 ∧ σ.2.2.1 25 9 = nI (jv K a b B).2.1)
theorem ipc32 (x : Int32) : i_pc x ≤ 32 := by
  have := bl_le x
  rw [bl_len] at this
  exact this
theorem c_bet (hB : CS σ K a b B) : ((B = -1 ∨ bet K a b M B) → f49 N 25 (nI (jv K a b M).1) (nI (jv K a b M).2.1) M (hp σ, cs) = some (.inl (some (.int 1)), (hp σ, cs))) ∧ (¬ (B = -1 ∨ bet K a b M B) → f49 N 25 (nI (jv K a b M).1) (nI (jv K a b M).2.1) M (hp σ, cs) = some (.inl (some (.int 0)), (hp σ, cs))) := by
  obtain ⟨h1, h2⟩ := hB
  obtain ⟨m1, m2⟩ := jv_bd (K := K) (a := a) (b := b) (M := M)
  obtain ⟨b1, b2⟩ := jv_bd (K := K) (a := a) (b := b) (M := B)
  have p1 := ipc32 M
  have p2 := ipc32 B
  unfold f49
  rw [i25_10, h1]
  by_cases c : B = -1
  · rw [if_pos c]
    unfold g49_16 g49_32
    rw [i25_10, h1, if_pos c]
    exact ⟨fun _ => rfl, fun z => absurd (Or.inl c) z⟩
  · obtain ⟨h3, h4⟩ := h2 c
    rw [if_neg c, i25_8, h3]
    have hor : (B = -1 ∨ bet K a b M B) ↔ bet K a b M B := ⟨fun z => z.resolve_left c, Or.inr⟩
    rw [hor]
    unfold bet
    by_cases c1 : (jv K a b M).1 = (jv K a b B).1
    · rw [if_pos (by rw [c1]), i25_9, h4]
      by_cases c2 : (jv K a b M).2.1 = (jv K a b B).2.1
      · rw [if_pos (by rw [c2]), c_pc, lf_ci_r, i25_10, h1, c_pc, lf_ci_r]
        by_cases c3 : i_pc M = i_pc B
        · rw [if_pos (by rw [c3]), i25_10, h1]
          by_cases c4 : B ≤ M
          · rw [if_pos c4]
            refine ⟨fun z => ?_, fun _ => rfl⟩
            exfalso
            rcases z with z | ⟨-, z | ⟨-, z | ⟨-, z⟩⟩⟩
            · omega
            · omega
            · omega
            · exact (fa_of_lt z).2.1 c4
          · rw [if_neg c4]
            exact ⟨fun _ => rfl, fun z => absurd (Or.inr ⟨c1, Or.inr ⟨c2, Or.inr ⟨c3, fa_of_nle c4⟩⟩⟩) z⟩
        · rw [if_neg (by rw [q_eq (by omega) (by omega)]; exact c3)]
          by_cases c4 : i_pc B ≤ i_pc M
          · rw [if_pos (nI_le c4 (by omega))]
            refine ⟨fun z => ?_, fun _ => rfl⟩
            exfalso
            rcases z with z | ⟨-, z | ⟨-, z | ⟨z, -⟩⟩⟩ <;> omega
          · rw [if_neg (nI_ge (by omega) (by omega))]
            exact ⟨fun _ => rfl, fun z => absurd (Or.inr ⟨c1, Or.inr ⟨c2, Or.inl (by omega)⟩⟩) z⟩
      · rw [if_neg (by rw [q_eq (by omega) (by omega)]; exact c2), i25_9, h4]
        by_cases c3 : (jv K a b B).2.1 ≤ (jv K a b M).2.1
        · rw [if_pos (nI_le c3 (by omega))]
          refine ⟨fun z => ?_, fun _ => rfl⟩
          exfalso
          rcases z with z | ⟨-, z | ⟨z, -⟩⟩ <;> omega
        · rw [if_neg (nI_ge (by omega) (by omega))]
          exact ⟨fun _ => rfl, fun z => absurd (Or.inr ⟨c1, Or.inl (by omega)⟩) z⟩
    · rw [if_neg (by rw [q_eq (by omega) (by omega)]; exact c1)]
      unfold g49_16 g49_32
      rw [i25_10, h1, if_neg c, i25_8, h3]
      by_cases c3 : (jv K a b B).1 ≤ (jv K a b M).1
      · rw [if_pos (nI_le c3 (by omega))]
        refine ⟨fun z => ?_, fun _ => rfl⟩
        exfalso
        rcases z with z | ⟨z, -⟩ <;> omega
      · rw [if_neg (nI_ge (by omega) (by omega))]
        exact ⟨fun _ => rfl, fun z => absurd (Or.inl (by omega)) z⟩
theorem good_ne {n : Nat} (h : good n M) (hn : n ≤ 24) : ¬ M = -1 := fun e => by
  have := (h 30 (by rw [e]; exact b_m1 30 (by omega))).2
  omega
/-- judge -/
theorem c_jdgS {ly : Nat} (h : gok K a b) (hN : iv_N N) (hly : ly ≤ 8) (hM : good (a * b) M) (h3 : gF3 σ K a b) (hL : LY σ K a b ly M) (hB : CS σ K a b B) : ∃ τ, fr [] [(25, 8), (25, 9), (25, 10)] σ τ ∧ CS τ K a b (jd K a b M B) ∧ f47 N 25 (nI ly) M (hp σ, cs) = some (.inl none, (hp τ, cs)) := by
  have hn := h.2.2.1
  have hp0 : 0 < a * b := Nat.mul_pos h.1 h.2.1
  have e1 : f47 N 25 (nI ly) M (hp σ, cs) = g47_116 N 25 M (jv K a b M).2.2 (nI (jv K a b M).1) (nI (jv K a b M).2.1) (hp σ, cs) := by
    unfold f47 jv
    exact c_j14 (N := N) (cs := cs) (σ := σ) h hN hly hM hL 24 0 N 1 1 0 0 (by omega) (by unfold iv_N at hN; omega) (fun i hi => by rw [b_i1.mp hi]; exact hp0)
  have eal : lf_shl 1 (nI (a * b)) - 1 = al (a * b) := rfl
  rw [e1]
  unfold g47_116
  rw [i25_1, i25_2, h3.2.1, h3.2.2, pk_mul, eal]
  by_cases c : (jv K a b M).2.2 = al (a * b)
  · rw [if_neg (fun z => z c), o25]
    by_cases d : B = -1 ∨ bet K a b M B
    · refine ⟨hp_wf (hp_wf (hp_wf σ 25 8 (nI (jv K a b M).1)) 25 9 (nI (jv K a b M).2.1)) 25 10 M, ((fr.wf (by decide)).tr (fr.wf (by decide))).tr (fr.wf (by decide)), ?_, ?_⟩
      · rw [jd_y ⟨c, d⟩]
        refine ⟨hp_wf_at, fun _ => ⟨?_, ?_⟩⟩
        · rw [hp_wf_ne (by decide), hp_wf_ne (by decide), hp_wf_at]
        · rw [hp_wf_ne (by decide), hp_wf_at]
      · rw [(c_bet hB).1 d, lf_ci_r, if_neg (by decide), w25_8, w25_9, w25_10]
    · refine ⟨σ, fr.rf, by rw [jd_n (fun z => d z.2)]; exact hB, ?_⟩
      rw [(c_bet hB).2 d, lf_ci_r, if_pos rfl]
  · refine ⟨σ, fr.rf, by rw [jd_n (fun z => c z.1)]; exact hB, ?_⟩
    rw [if_pos c]
theorem c_near (hB : CS σ K a b B) (hd : σ.2.2.1 25 3 = nI deg) (hd8 : deg ≤ 8) : f48 N 25 (hp σ, cs) = some (.inl (some (.int (if ¬ B = -1 ∧ (jv K a b B).1 = 2 ∧ i_pc B = deg then 1 else 0))), (hp σ, cs)) := by
  obtain ⟨h1, h2⟩ := hB
  obtain ⟨b1, b2⟩ := jv_bd (K := K) (a := a) (b := b) (M := B)
  have p2 := ipc32 B
  unfold f48
  rw [i25_10, h1]
  by_cases c : B = -1
  · rw [if_pos c, if_neg (fun z => z.1 c)]
  · rw [if_neg c, i25_8, (h2 c).1]
    by_cases d : (jv K a b B).1 = 2
    · rw [if_neg (fun z => z (by rw [d]; rfl)), i25_10, h1, c_pc, lf_ci_r, i25_3, hd]
      by_cases g : i_pc B = deg
      · rw [if_neg (fun z => z (by rw [g])), if_pos ⟨c, d, g⟩]
      · rw [if_pos (by rw [q_eq (by omega) (by omega)]; exact g), if_neg (fun z => g z.2.2)]
    · rw [if_pos (by rw [show (2 : Int32) = nI 2 from rfl, q_eq (by omega) (by omega)]; exact d), if_neg (fun z => d z.2.1)]
theorem sgc_full {j : Int32 → Int32 → Int32} {pr : Int32 → Int32 → Prop} {m B : Int32} : ∀ (us : List Int32), (∀ u, u ∈ us → ¬ i_pc (m ||| u) ≤ deg) → sgc j pr deg us m B = B
  | [], _ => rfl
  | u :: us, h => by
    rw [sgc_0 (h u List.mem_cons_self)]
    exact sgc_full us (fun v hv => h v (List.mem_cons_of_mem _ hv))
theorem drop_cons' {U : List Int32} {i : Nat} (h : i < U.length) : U.drop i = U.getD i 0 :: U.drop (i + 1) := by
  rw [List.drop_eq_getElem_cons h, List.getD_eq_getElem?_getD, List.getElem?_eq_getElem h]
  rfl
/-- what does not change -/
def SCo (σ : hp_S) (K a b deg : Nat) (U : List Int32) : Prop := gF3 σ K a b ∧ σ.2.2.1 25 3 = nI deg ∧ UC σ K a b U
theorem SCo.fr {U : List Int32} (h : SCo σ K a b deg U) (k : fr [28] [(25, 8), (25, 9), (25, 10)] σ τ) : SCo τ K a b deg U := ⟨h.1.fr k (by decide) (by decide) (by decide), by rw [k.f (by decide)]; exact h.2.1, by rw [k.f (by decide)]; exact h.2.2.1, fun i hi => by rw [k.r (by decide), k.r (by decide)]; exact h.2.2.2 i hi⟩
/-- a layer is laid upon another -/
theorem c_s66 {U : List Int32} {ly i : Nat} {x3 x5 : Int32} {self : Nat → Int32 → Int32 → Int32 → lf_W → lf_R} {k25 : Nat → Int32 → Int32 → Int32 → lf_W → lf_R} (hn : a * b ≤ 24) (hly : ly ≤ 7) (hi : i < U.length) (hU : U.length ≤ 23) : ∀ (m x u : Nat) (σ : hp_S), x + m = a * b → m < u → SCo σ K a b deg U → LY σ K a b ly M → (∀ x', x' < x → σ.1 28 (24 * (ly + 1) + x') = gh K a b (M ||| U.getD i 0) x') → ∃ τ, fr [28] [] σ τ ∧ (∀ j, j < 24 * (ly + 1) → τ.1 28 j = σ.1 28 j) ∧ LY τ K a b (ly + 1) (M ||| U.getD i 0) ∧ g46_66 N self k25 u 25 (nI ly) x3 (nI i) x5 (nI x) (hp σ, cs) = lf_cv (self 25 (nI (i + 1)) (nI (ly + 1)) x5 (hp τ, cs)) fun w6 => g46_139 N self k25 25 (nI ly) x3 (nI i) w6 := by
  intro m
  induction m with
  | zero =>
    intro x u σ hx hu hS hL hd
    obtain ⟨u, rfl⟩ : ∃ q, u = q + 1 := ⟨u - 1, by omega⟩
    refine ⟨σ, fr.rf, fun _ _ => rfl, fun x' hx' => hd x' (by omega), ?_⟩
    unfold g46_66
    rw [i25_1, i25_2, hS.1.2.1, hS.1.2.2, pk_mul, if_pos (nI_le (by omega) (by omega)), o25, nI_1, nI_1]
  | succ m ih =>
    intro x u σ hx hu hS hL hd
    obtain ⟨u, rfl⟩ : ∃ q, u = q + 1 := ⟨u - 1, by omega⟩
    have w1 : fr [28] [(25, 8), (25, 9), (25, 10)] σ (hp_wi σ 28 (24 * (ly + 1) + x) (gh K a b (M ||| U.getD i 0) x)) := fr.wi (by decide)
    obtain ⟨τ, q1, q2, q3, q4⟩ := ih (x + 1) u (hp_wi σ 28 (24 * (ly + 1) + x) (gh K a b (M ||| U.getD i 0) x)) (by omega) (by omega) (hS.fr w1) (fun x' hx' => by rw [hp_wi_nj (by omega)]; exact hL x' hx') (fun x' hx' => by
      by_cases c : x' = x
      · rw [c, hp_wi_at]
      · rw [hp_wi_nj (by omega)]; exact hd x' (by omega))
    refine ⟨τ, (fr.wi (by decide)).tr q1, fun j hj => by rw [q2 j hj, hp_wi_nj (by omega)], q3, ?_⟩
    unfold g46_66
    rw [i25_1, i25_2, hS.1.2.1, hS.1.2.2, pk_mul, if_neg (nI_ge (by omega) (by omega)), r25_7, r25_7, ix_b, a28 (by omega), r25_5, ix_b, a27 (by omega), hL x (by omega), (hS.2.2.2 i hi).2 x (by omega), ← gh_or, nI_1, ix_b, b28 (by omega), nI_1]
    exact q4
/-- the search -/
theorem c_search {U : List Int32} (h : gok K a b) (hN : iv_N N) (hd8 : deg ≤ 8) (hU : U.length ≤ 23) (hg : ∀ u, u ∈ U → good (a * b) u ∧ ¬ u = 0) (hdis : disj U) : ∀ (dp i ly : Nat) (M B : Int32) (σ : hp_S), i ≤ U.length → ly ≤ 8 → 9 ≤ ly + dp → ly ≤ i_pc M → good (a * b) M → (∀ u, u ∈ U.drop i → ∀ j, bt M j = true → ¬ bt u j = true) → SCo σ K a b deg U → CS σ K a b B → LY σ K a b ly M → ∃ τ, fr [28] [(25, 8), (25, 9), (25, 10)] σ τ ∧ (∀ j, j < 24 * (ly + 1) → τ.1 28 j = σ.1 28 j) ∧ (prn K a b deg M B → CS τ K a b B) ∧ (¬ prn K a b deg M B → CS τ K a b (sgc (jd K a b) (prn K a b deg) deg (U.drop i) M (jd K a b M B))) ∧ f46r N dp 25 (nI i) (nI ly) M (hp σ, cs) = some (.inl none, (hp τ, cs)) := by
  have hn := h.2.2.1
  intro dp
  induction dp with
  | zero => intro i ly M B σ _ h1 h2; omega
  | succ dp ih =>
    intro i ly M B σ hi hly hdp hpl hM hMd hS hB hL
    have loop : ∀ (m i u : Nat) (B : Int32) (σ : hp_S), i + m = U.length → m < u → (∀ u, u ∈ U.drop i → ∀ j, bt M j = true → ¬ bt u j = true) → SCo σ K a b deg U → CS σ K a b B → LY σ K a b ly M → ∃ τ, fr [28] [(25, 8), (25, 9), (25, 10)] σ τ ∧ (∀ j, j < 24 * (ly + 1) → τ.1 28 j = σ.1 28 j) ∧ CS τ K a b (sgc (jd K a b) (prn K a b deg) deg (U.drop i) M B) ∧ g46_25 N (f46r N dp) u 25 (nI ly) M (nI i) (hp σ, cs) = some (.inl none, (hp τ, cs)) := by
      intro m
      induction m with
      | zero =>
        intro i u B σ hi hu hMd hS hB hL
        obtain ⟨u, rfl⟩ : ∃ q, u = q + 1 := ⟨u - 1, by omega⟩
        refine ⟨σ, fr.rf, fun _ _ => rfl, ?_, ?_⟩
        · rw [List.drop_eq_nil_of_le (by omega)]
          exact hB
        · unfold g46_25
          rw [i25_6, hS.2.2.1, if_pos (nI_le (by omega) (by omega))]
      | succ m ihm =>
        intro i u B σ hi hu hMd hS hB hL
        obtain ⟨u, rfl⟩ : ∃ q, u = q + 1 := ⟨u - 1, by omega⟩
        have hiU : i < U.length := by omega
        have ed := drop_cons' hiU
        have hmem : U.getD i 0 ∈ U := by
          rw [List.getD_eq_getElem?_getD, List.getElem?_eq_getElem hiU]
          exact List.getElem_mem hiU
        have hug := hg _ hmem
        have hud : ∀ j, bt M j = true → ¬ bt (U.getD i 0) j = true := hMd _ (by rw [ed]; exact List.mem_cons_self)
        have hMd2 : ∀ u, u ∈ U.drop (i + 1) → ∀ j, bt M j = true → ¬ bt u j = true := fun u hu => hMd u (by rw [ed]; exact List.mem_cons_of_mem _ hu)
        have hpc : i_pc (M ||| U.getD i 0) = i_pc M + i_pc (U.getD i 0) := i_pc_dis hud
        have hup := i_pc_p hug.2
        by_cases c8 : ly = 8
        · refine ⟨σ, fr.rf, fun _ _ => rfl, ?_, ?_⟩
          · rw [sgc_full (U.drop i) (fun v hv => ?_)]
            · exact hB
            · have hvg := hg v (List.mem_of_mem_drop hv)
              have := i_pc_dis (hMd v hv)
              have := i_pc_p hvg.2
              omega
          · unfold g46_25
            rw [i25_6, hS.2.2.1, if_neg (nI_ge hiU (by omega)), if_pos (show (8 : Int32) ≤ nI ly from nI_le (a := 8) (by omega) (by omega))]
        · have hly7 : ly ≤ 7 := by omega
          have pre : g46_25 N (f46r N dp) (u + 1) 25 (nI ly) M (nI i) (hp σ, cs) = if nI deg < nI (i_pc (M ||| U.getD i 0)) then g46_139 N (f46r N dp) (g46_25 N (f46r N dp) u) 25 (nI ly) M (nI i) (hp σ, cs) else g46_66 N (f46r N dp) (g46_25 N (f46r N dp) u) N 25 (nI ly) M (nI i) (M ||| U.getD i 0) 0 (hp σ, cs) := by
            rw [g46_25]
            rw [i25_6, hS.2.2.1, if_neg (nI_ge hiU (by omega)), if_neg (show ¬ (8 : Int32) ≤ nI ly from nI_ge (b := 8) (by omega) (by omega)), r25_4, a26 (by omega), (hS.2.2.2 i hiU).1, c_pc, lf_ci_r, i25_3, hS.2.1]
          have hp32 := ipc32 (M ||| U.getD i 0)
          by_cases cf : i_pc (M ||| U.getD i 0) ≤ deg
          · have hnl : ¬ nI deg < nI (i_pc (M ||| U.getD i 0)) := nI_nlt cf (by omega)
            obtain ⟨σ1, a1, a2, a3, a4⟩ := c_s66 (N := N) (cs := cs) (deg := deg) (U := U) (ly := ly) (i := i) (M := M) (x3 := M) (x5 := M ||| U.getD i 0) (self := f46r N dp) (k25 := g46_25 N (f46r N dp) u) hn hly7 hiU hU (a * b) 0 N σ (by omega) (by unfold iv_N at hN; omega) hS hL (fun x' hx' => absurd hx' (Nat.not_lt_zero _))
            have w1 : fr [28] [(25, 8), (25, 9), (25, 10)] σ σ1 := a1.wk (fun _ z => z) (fun _ z => absurd z List.not_mem_nil)
            have hB1 : CS σ1 K a b B := ⟨by rw [a1.f List.not_mem_nil]; exact hB.1, fun z => by rw [a1.f List.not_mem_nil, a1.f List.not_mem_nil]; exact hB.2 z⟩
            obtain ⟨σ2, b1, b2, b3, b4, b5⟩ := ih (i + 1) (ly + 1) (M ||| U.getD i 0) B σ1 (by omega) (by omega) (by omega) (by omega) (good_or hM hug.1) (fun v hv j hj => by
              rcases b_or_iff.mp hj with z | z
              · exact hMd2 v hv j z
              · have hpw : (U.getD i 0 :: U.drop (i + 1)).Pairwise (fun u v => ∀ i, bt u i = true → ¬ bt v i = true) := by
                  rw [← ed]
                  exact List.Pairwise.sublist (List.drop_sublist i U) hdis
                exact (List.pairwise_cons.mp hpw).1 v hv j z) (hS.fr w1) hB1 a3
            have w2 := w1.tr b1
            have hL2 : LY σ2 K a b ly M := fun x hx => by rw [b2 _ (by omega), a2 _ (by omega)]; exact hL x hx
            have fin : ∀ B2, CS σ2 K a b B2 → sgc (jd K a b) (prn K a b deg) deg (U.drop i) M B = sgc (jd K a b) (prn K a b deg) deg (U.drop (i + 1)) M B2 → ∃ τ, fr [28] [(25, 8), (25, 9), (25, 10)] σ τ ∧ (∀ j, j < 24 * (ly + 1) → τ.1 28 j = σ.1 28 j) ∧ CS τ K a b (sgc (jd K a b) (prn K a b deg) deg (U.drop i) M B) ∧ g46_25 N (f46r N dp) (u + 1) 25 (nI ly) M (nI i) (hp σ, cs) = some (.inl none, (hp τ, cs)) := by
              intro B2 hB2 eB
              obtain ⟨τ, q1, q2, q3, q4⟩ := ihm (i + 1) u B2 σ2 (by omega) (by omega) hMd2 (hS.fr w2) hB2 hL2
              refine ⟨τ, w2.tr q1, fun j hj => by rw [q2 j hj, b2 j (by omega), a2 j hj], by rw [eB]; exact q3, ?_⟩
              rw [pre, if_neg hnl]
              rw [show g46_66 N (f46r N dp) (g46_25 N (f46r N dp) u) N 25 (nI ly) M (nI i) (M ||| U.getD i 0) 0 (hp σ, cs) = _ from a4, b5, lf_cv_r]
              unfold g46_139
              rw [nI_1]
              exact q4
            by_cases cp : prn K a b deg (M ||| U.getD i 0) B
            · exact fin B (b3 cp) (by rw [ed, sgc_1 cf cp])
            · exact fin _ (b4 cp) (by rw [ed, sgc_2 cf cp])
          · have hnl : nI deg < nI (i_pc (M ||| U.getD i 0)) := nI_lt (by omega) (by omega)
            obtain ⟨τ, q1, q2, q3, q4⟩ := ihm (i + 1) u B σ (by omega) (by omega) hMd2 hS hB hL
            refine ⟨τ, q1, q2, by rw [ed, sgc_0 cf]; exact q3, ?_⟩
            rw [pre, if_pos hnl]
            unfold g46_139
            rw [nI_1]
            exact q4
    have go : ¬ prn K a b deg M B → ∃ τ, fr [28] [(25, 8), (25, 9), (25, 10)] σ τ ∧ (∀ j, j < 24 * (ly + 1) → τ.1 28 j = σ.1 28 j) ∧ CS τ K a b (sgc (jd K a b) (prn K a b deg) deg (U.drop i) M (jd K a b M B)) ∧ g46_16 N (f46r N dp) 25 (nI i) (nI ly) M (hp σ, cs) = some (.inl none, (hp τ, cs)) := by
      intro _
      obtain ⟨σ1, a1, a2, a3⟩ := c_jdgS (N := N) (cs := cs) h hN hly hM hS.1 hL hB
      have w1 : fr [28] [(25, 8), (25, 9), (25, 10)] σ σ1 := a1.wk (fun _ z => absurd z List.not_mem_nil) (fun _ z => z)
      obtain ⟨τ, q1, q2, q3, q4⟩ := loop (U.length - i) i N (jd K a b M B) σ1 (by omega) (by unfold iv_N at hN; omega) hMd (hS.fr w1) a2 (fun x hx => by rw [a1.r List.not_mem_nil]; exact hL x hx)
      refine ⟨τ, w1.tr q1, fun j hj => by rw [q2 j hj, a1.r List.not_mem_nil], q3, ?_⟩
      unfold g46_16
      rw [o25, a3, lf_cv_r]
      exact q4
    by_cases cp : prn K a b deg M B
    · refine ⟨σ, fr.rf, fun _ _ => rfl, fun _ => hB, fun z => absurd cp z, ?_⟩
      unfold f46r
      rw [i25_10, hB.1, if_neg (fa_of_lt cp.1).2.1, o25, c_near hB hS.2.1 hd8, lf_ci_r, if_pos cp.2, if_neg (by decide)]
    · obtain ⟨τ, q1, q2, q3, q4⟩ := go cp
      refine ⟨τ, q1, q2, fun z => absurd z cp, fun _ => q3, ?_⟩
      unfold f46r
      rw [i25_10, hB.1]
      by_cases c1 : M ≤ B
      · rw [if_pos c1]
        exact q4
      · rw [if_neg c1, o25, c_near hB hS.2.1 hd8, lf_ci_r, if_neg (fun z => cp ⟨fa_of_nle c1, z⟩), if_pos rfl]
        exact q4
/-- the answer of seek -/
noncomputable def skA (K a b deg : Nat) : Int32 := sg (jd K a b) deg (uLst K a b (a * b - 1)) 0 (jd K a b 0 (-1))
theorem good_0 {n : Nat} : good n 0 := fun i hi => by rw [b_0] at hi; cases hi
theorem c_s16 {x0 : Int32} : ∀ (m x u : Nat) (σ : hp_S), x + m = 24 → m < u → (∀ j, j < x → σ.1 28 j = 0) → ∃ τ, fr [28] [] σ τ ∧ (∀ j, j < 24 → τ.1 28 j = 0) ∧ g44_16 N u 25 (nI x) (hp σ, cs) = (lf_cv (f46 N 25 0 0 0 (hp τ, cs)) fun w2 => (lf_fi w2 25 4 10).bind fun v8 => some (.inl (some (.int v8)), w2)) := by
  intro m
  induction m with
  | zero =>
    intro x u σ hx hu hz
    obtain ⟨u, rfl⟩ : ∃ q, u = q + 1 := ⟨u - 1, by omega⟩
    refine ⟨σ, fr.rf, fun j hj => hz j (by omega), ?_⟩
    unfold g44_16
    rw [if_pos (show (24 : Int32) ≤ nI x from nI_le (a := 24) (by omega) (by omega)), o25]
  | succ m ih =>
    intro x u σ hx hu hz
    obtain ⟨u, rfl⟩ : ∃ q, u = q + 1 := ⟨u - 1, by omega⟩
    obtain ⟨τ, q1, q2, q3⟩ := ih (x + 1) u (hp_wi σ 28 x 0) (by omega) (by omega) (fun j hj => by
      by_cases c : j = x
      · rw [c, hp_wi_at]
      · rw [hp_wi_nj c]; exact hz j (by omega))
    refine ⟨τ, (fr.wi (by decide)).tr q1, q2, ?_⟩
    unfold g44_16
    rw [if_neg (show ¬ (24 : Int32) ≤ nI x from nI_ge (b := 24) (by omega) (by omega)), r25_7, b28 (by omega), nI_1]
    exact q3
theorem c_seek (h : gok K a b) (hN : iv_N N) (hd8 : deg ≤ 8) (h3 : gF3 σ K a b) : ∃ τ, fr [26, 27, 28] [(25, 3), (25, 6), (25, 8), (25, 9), (25, 10)] σ τ ∧ f44 N 25 (nI deg) (hp σ, cs) = some (.inl (some (.int (skA K a b deg))), (hp τ, cs)) := by
  have hn := h.2.2.1
  obtain ⟨u1, u2, u3⟩ := uLst_ok h
  have w0 : fr [26, 27, 28] [(25, 3), (25, 6), (25, 8), (25, 9), (25, 10)] σ (hp_wf (hp_wf σ 25 3 (nI deg)) 25 10 (-1)) := (fr.wf (by decide)).tr (fr.wf (by decide))
  obtain ⟨σ1, a1, a2, a3⟩ := c_units (N := N) (cs := cs) (σ := hp_wf (hp_wf σ 25 3 (nI deg)) 25 10 (-1)) h hN (h3.fr w0 (by decide) (by decide) (by decide))
  have w1 : fr [26, 27, 28] [(25, 3), (25, 6), (25, 8), (25, 9), (25, 10)] σ σ1 := w0.tr (a1.wk (fun _ z => by simp at z; rcases z with z | z <;> simp [z]) (fun _ z => by simp at z; simp [z]))
  obtain ⟨σ2, b1, b2, b3⟩ := c_s16 (N := N) (cs := cs) (x0 := 0) 24 0 N σ1 (by omega) (by unfold iv_N at hN; omega) (fun j hj => absurd hj (Nat.not_lt_zero _))
  have w2 : fr [26, 27, 28] [(25, 3), (25, 6), (25, 8), (25, 9), (25, 10)] σ σ2 := w1.tr (b1.wk (fun _ z => by simp at z; simp [z]) (fun _ z => absurd z List.not_mem_nil))
  have hS : SCo σ2 K a b deg (uLst K a b (a * b - 1)) := by
    refine ⟨h3.fr w2 (by decide) (by decide) (by decide), ?_, ?_, fun i hi => ?_⟩
    · rw [b1.f List.not_mem_nil, a1.f (by decide), hp_wf_ne (by decide), hp_wf_at]
    · rw [b1.f List.not_mem_nil]; exact a2.1
    · rw [b1.r (by decide), b1.r (by decide)]; exact a2.2 i hi
  have hB : CS σ2 K a b (-1) := ⟨by rw [b1.f List.not_mem_nil, a1.f (by decide), hp_wf_at], fun z => absurd rfl z⟩
  obtain ⟨τ, q1, q2, q3, q4, q5⟩ := c_search (N := N) (cs := cs) (deg := deg) (U := uLst K a b (a * b - 1)) h hN hd8 u3 u1 u2 40 0 0 0 (-1) σ2 (Nat.zero_le _) (by omega) (by omega) (Nat.zero_le _) good_0 (fun u _ j hj => by rw [b_0] at hj; cases hj) hS hB (fun x hx => by rw [gh_z]; exact b2 _ (by omega))
  have hnp : ¬ prn K a b deg 0 (-1) := fun z => z.2.1 rfl
  have q4 := q4 hnp
  have ho : okB K a b (jd K a b 0 (-1)) := jd_ok good_0 (Or.inl rfl)
  rw [List.drop_zero, sgc_sg h _ _ _ (fun u hu => (u1 u hu).1) good_0 ho] at q4
  refine ⟨τ, w2.tr (q1.wk (fun _ z => by simp at z; simp [z]) (fun _ z => by simp at z; rcases z with z | z | z <;> simp [z])), ?_⟩
  unfold f44
  rw [w25_3, w25_10, o25, a3, lf_cv_r]
  rw [show g44_16 N N 25 0 (hp σ1, cs) = _ from b3]
  unfold f46
  rw [show f46r N 40 25 0 0 0 (hp σ2, cs) = _ from q5, lf_cv_r, i25_10, q4.1]
  rfl
end SC1
