/-! small nets, the class: sort, gather -/
section SMH
variable {cs : Nat × Nat} {N n x d k : Nat} {σ τ : hp_S}
theorem pp_I (hn1 : 1 ≤ n) (hn : n ≤ 6) : nI n * (nI n - 1) / 2 = nI (ppY n) := by
  rcases (show n = 1 ∨ n = 2 ∨ n = 3 ∨ n = 4 ∨ n = 5 ∨ n = 6 by omega) with h | h | h | h | h | h <;> subst h <;> decide +kernel
theorem c_s10 {x1 x2 : Int32} : ∀ (m v u : Nat) (σ : hp_S), v + m = 1024 → m < u → (∀ j, j < v → σ.1 48 j = 0) → ∃ τ, fr [48] [] σ τ ∧ (∀ j, j < 1024 → τ.1 48 j = 0) ∧ g97_10 N u 44 x1 x2 (nI v) (hp σ, cs) = g97_34 N N 44 x1 x2 0 (hp τ, cs) := by
  intro m
  induction m with
  | zero =>
    intro v u σ hv hu hd
    obtain ⟨u, rfl⟩ : ∃ q, u = q + 1 := ⟨u - 1, by omega⟩
    refine ⟨σ, fr.rf, fun j hj => hd j (by omega), ?_⟩
    unfold g97_10
    rw [r44_8, hp_len_i (a := 48) (n := 1024) rfl, Option.bind_some, if_pos (show (Int32.ofNat 1024) ≤ nI v from nI_le (a := 1024) (by omega) (by omega))]
  | succ m ih =>
    intro v u σ hv hu hd
    obtain ⟨u, rfl⟩ : ∃ q, u = q + 1 := ⟨u - 1, by omega⟩
    obtain ⟨τ, q1, q2, q3⟩ := ih (v + 1) u (hp_wi σ 48 v 0) (by omega) (by omega) (fun j hj => by
      by_cases c : j = v
      · rw [c, hp_wi_at]
      · rw [hp_wi_nj c]; exact hd j (by omega))
    refine ⟨τ, (fr.wi (by decide)).tr q1, q2, ?_⟩
    unfold g97_10
    rw [r44_8, hp_len_i (a := 48) (n := 1024) rfl, Option.bind_some, if_neg (show ¬ (Int32.ofNat 1024) ≤ nI v from nI_ge (b := 1024) (by omega) (by omega)), r44_8, b48 (by omega), nI_1]
    exact q3
theorem c_s34 {x2 : Int32} (hn1 : 1 ≤ n) (hn : n ≤ 6) (hN : iv_N N) : ∀ (m v u : Nat) (σ : hp_S), v + m = n - 1 → m < u → MKy σ n v → ∃ τ, fr [51, 52] [] σ τ ∧ MKy τ n (n - 1) ∧ g97_34 N u 44 (nI n) x2 (nI v) (hp σ, cs) = g97_58 N N 44 (nI n) x2 0 0 (hp τ, cs) := by
  have e1 : nI n - 1 = nI (n - 1) := pk_sub (b := 1) hn1
  intro m
  induction m with
  | zero =>
    intro v u σ hv hu hM
    obtain ⟨u, rfl⟩ : ∃ q, u = q + 1 := ⟨u - 1, by omega⟩
    refine ⟨σ, fr.rf, by rw [show n - 1 = v by omega]; exact hM, ?_⟩
    unfold g97_34
    rw [e1, if_pos (nI_le (by omega) (by omega))]
  | succ m ih =>
    intro v u σ hv hu hM
    obtain ⟨u, rfl⟩ : ∃ q, u = q + 1 := ⟨u - 1, by omega⟩
    obtain ⟨τ1, a1, a2, a3⟩ := c_mark (N := N) (cs := cs) hn hN (show v + 1 < n by omega) hM
    obtain ⟨τ, q1, q2, q3⟩ := ih (v + 1) u τ1 (by omega) (by omega) a2
    refine ⟨τ, a1.tr q1, q2, ?_⟩
    unfold g97_34
    rw [e1, if_neg (nI_ge (by omega) (by omega)), o44, a3, lf_cv_r, nI_1]
    exact q3
theorem c_sort (hn1 : 1 ≤ n) (hn : n ≤ 6) (hN : iv_N N) : ∃ τ, fr [45, 46, 47, 48, 49, 51, 52] [(44, 10)] σ τ ∧ τ.1 47 n = nI (klY n (2 ^ ppY n)).length ∧ (∀ j, j ≠ n → τ.1 47 j = σ.1 47 j) ∧ KDy (τ.1 45) (τ.1 46) n (klY n (2 ^ ppY n)) ∧ (∀ j, j < 156 * n ∨ 156 * n + 156 ≤ j → τ.1 45 j = σ.1 45 j ∧ τ.1 46 j = σ.1 46 j) ∧ f97 N 44 (nI n) (hp σ, cs) = some (.inl none, (hp τ, cs)) := by
  have h15 := pp_15 hn
  have hp15 : 2 ^ ppY n ≤ 2 ^ 15 := Nat.pow_le_pow_right (by omega) h15
  obtain ⟨σ1, a1, a2, a3⟩ := c_s10 (N := N) (cs := cs) (x1 := nI n) (x2 := nI (ppY n)) 1024 0 N σ (by omega) (by unfold iv_N at hN; omega) (fun j hj => absurd hj (Nat.not_lt_zero _))
  obtain ⟨σ2, b1, b2, b3⟩ := c_s34 (N := N) (cs := cs) (x2 := nI (ppY n)) hn1 hn hN (n - 1) 0 N σ1 (by omega) (by unfold iv_N at hN; omega) (fun v hv => absurd hv (Nat.not_lt_zero _))
  obtain ⟨τ, q1, q2, q3, q4, q5, q6⟩ := c_s58 (N := N) (cs := cs) hn1 hn hN (2 ^ ppY n) 0 N σ2 (by omega) (by unfold iv_N at hN; omega) b2 (fun y hy => by
    rw [b1.r (by decide), a2 _ (by omega), b_0]
    exact ⟨fun z => absurd z (by decide), fun z => by
      obtain ⟨-, m, m1, -⟩ := z
      omega⟩) (fun i hi => absurd hi (Nat.not_lt_zero _))
  refine ⟨τ, ((a1.wk (fun _ z => by simp at z; simp [z]) (fun _ z => absurd z List.not_mem_nil)).tr (b1.wk (fun _ z => by simp at z; rcases z with z | z <;> simp [z]) (fun _ z => absurd z List.not_mem_nil))).tr (q1.wk (fun _ z => by simp at z; rcases z with z | z | z | z | z <;> simp [z]) (fun _ z => z)), q2, fun j hj => by rw [q3 j hj, b1.r (by decide), a1.r (by decide)], q4, fun j hj => by rw [(q5 j hj).1, (q5 j hj).2, b1.r (by decide), a1.r (by decide), b1.r (by decide), a1.r (by decide)]; exact ⟨rfl, rfl⟩, ?_⟩
  unfold f97
  rw [pp_I hn1 hn]
  rw [show g97_10 N N 44 (nI n) (nI (ppY n)) 0 (hp σ, cs) = _ from a3]
  rw [show g97_34 N N 44 (nI n) (nI (ppY n)) 0 (hp σ1, cs) = _ from b3]
  exact q6
/-- which is better: fewer lines, then the lesser number -/
def ltY (n x m : Nat) : Prop := pcY n x < pcY n m ∨ (pcY n x = pcY n m ∧ x < m)
noncomputable def pkY (n : Nat) (o : Option Nat) (x : Nat) : Option Nat := match o with
  | none => some x
  | some m => @ite (Option Nat) (ltY n x m) (Classical.propDecidable _) (some x) (some m)
/-- what is gathered: how many, kinds, the best -/
noncomputable def stG (n d k : Nat) (st : Nat × Nat × Option Nat) (x : Nat) : Nat × Nat × Option Nat := @ite (Nat × Nat × Option Nat) (wtY n d k x) (Classical.propDecidable _) (st.1 + ctY (eqY n x) (2 ^ ppY n), st.2.1 + 1, pkY n st.2.2 x) st
def oI1 (n : Nat) : Option Nat → Int32
  | none => -1
  | some m => nI (pcY n m)
def oI2 : Option Nat → Int32
  | none => -1
  | some m => nI m
def GAy (σ : hp_S) (n : Nat) (st : Nat × Nat × Option Nat) : Prop := σ.2.2.1 44 1 = nI st.1 ∧ σ.2.2.1 44 2 = nI st.2.1 ∧ σ.2.2.1 44 3 = oI1 n st.2.2 ∧ σ.2.2.1 44 4 = oI2 st.2.2
def okO (n : Nat) (o : Option Nat) : Prop := ∀ m, o = some m → m < 2 ^ ppY n
theorem c_keep {st : Nat × Nat × Option Nat} (hn : n ≤ 6) (hx : x < 2 ^ ppY n) (hw : wtY n d k x) (ho : okO n st.2.2) (h : GAy σ n st) : ∃ τ, fr [] [(44, 1), (44, 2), (44, 3), (44, 4)] σ τ ∧ GAy τ n (stG n d k st x) ∧ f94 N 44 (nI x) (nI (ctY (eqY n x) (2 ^ ppY n))) (hp σ, cs) = some (.inl none, (hp τ, cs)) := by
  have h15 := pp_15 hn
  have hp15 : 2 ^ ppY n ≤ 2 ^ 15 := Nat.pow_le_pow_right (by omega) h15
  obtain ⟨h1, h2, h3, h4⟩ := h
  have es : stG n d k st x = (st.1 + ctY (eqY n x) (2 ^ ppY n), st.2.1 + 1, pkY n st.2.2 x) := if_pos hw
  have hpc : ∀ y, pcY n y ≤ 32 := fun y => by
    unfold pcY
    have := sm_le (F := fun i => if y.testBit i = true then 1 else 0) (G := fun _ => 1) (n := ppY n) (fun i _ => by
      (try dsimp only)
      split <;> omega)
    rw [sm_one] at this
    omega
  have w2 : fr [] [(44, 1), (44, 2), (44, 3), (44, 4)] σ (hp_wf (hp_wf σ 44 1 (nI (st.1 + ctY (eqY n x) (2 ^ ppY n)))) 44 2 (nI (st.2.1 + 1))) := (fr.wf (by decide)).tr (fr.wf (by decide))
  have yes : pkY n st.2.2 x = some x → ∃ τ, fr [] [(44, 1), (44, 2), (44, 3), (44, 4)] σ τ ∧ GAy τ n (stG n d k st x) ∧ g94_57 N 44 (nI x) (nI (pcY n x)) (hp (hp_wf (hp_wf σ 44 1 (nI (st.1 + ctY (eqY n x) (2 ^ ppY n)))) 44 2 (nI (st.2.1 + 1))), cs) = some (.inl none, (hp τ, cs)) := by
    intro e
    refine ⟨hp_wf (hp_wf (hp_wf (hp_wf σ 44 1 (nI (st.1 + ctY (eqY n x) (2 ^ ppY n)))) 44 2 (nI (st.2.1 + 1))) 44 3 (nI (pcY n x))) 44 4 (nI x), (w2.tr (fr.wf (by decide))).tr (fr.wf (by decide)), ?_, ?_⟩
    · rw [es, e]
      refine ⟨?_, ?_, ?_, hp_wf_at⟩
      · rw [hp_wf_ne (by decide), hp_wf_ne (by decide), hp_wf_ne (by decide), hp_wf_at]
      · rw [hp_wf_ne (by decide), hp_wf_ne (by decide), hp_wf_at]
      · rw [hp_wf_ne (by decide), hp_wf_at]
        rfl
    · unfold g94_57
      rw [w44_3, w44_4]
  have no : pkY n st.2.2 x = st.2.2 → GAy (hp_wf (hp_wf σ 44 1 (nI (st.1 + ctY (eqY n x) (2 ^ ppY n)))) 44 2 (nI (st.2.1 + 1))) n (stG n d k st x) := by
    intro e
    rw [es, e]
    refine ⟨?_, hp_wf_at, ?_, ?_⟩
    · rw [hp_wf_ne (by decide), hp_wf_at]
    · rw [hp_wf_ne (by decide), hp_wf_ne (by decide)]
      exact h3
    · rw [hp_wf_ne (by decide), hp_wf_ne (by decide)]
      exact h4
  have f3 : (hp_wf (hp_wf σ 44 1 (nI (st.1 + ctY (eqY n x) (2 ^ ppY n)))) 44 2 (nI (st.2.1 + 1))).2.2.1 44 3 = oI1 n st.2.2 := by
    rw [hp_wf_ne (by decide), hp_wf_ne (by decide)]
    exact h3
  have f4 : (hp_wf (hp_wf σ 44 1 (nI (st.1 + ctY (eqY n x) (2 ^ ppY n)))) 44 2 (nI (st.2.1 + 1))).2.2.1 44 4 = oI2 st.2.2 := by
    rw [hp_wf_ne (by decide), hp_wf_ne (by decide)]
    exact h4
  have pre : ∀ R : lf_R, (∀ w, w = (hp (hp_wf (hp_wf σ 44 1 (nI (st.1 + ctY (eqY n x) (2 ^ ppY n)))) 44 2 (nI (st.2.1 + 1))), cs) → ((lf_fi w 44 8 3).bind fun v13 => if v13 = (-1) then (g94_57 N 44 (nI x) (nI (pcY n x)) w) else ((lf_fi w 44 8 3).bind fun v16 => if nI (pcY n x) < v16 then (g94_57 N 44 (nI x) (nI (pcY n x)) w) else ((lf_fi w 44 8 3).bind fun v19 => if ¬ nI (pcY n x) = v19 then (some (.inl none, w)) else ((lf_fi w 44 8 4).bind fun v22 => if v22 ≤ nI x then (some (.inl none, w)) else (g94_57 N 44 (nI x) (nI (pcY n x)) w))))) = R) → f94 N 44 (nI x) (nI (ctY (eqY n x) (2 ^ ppY n))) (hp σ, cs) = R := by
    intro R hR
    unfold f94
    rw [c_pc, lf_ci_r, pcY_pc hn hx, i44_1, h1, nI_add, w44_1, i44_2]
    rw [show (hp_wf σ 44 1 (nI (st.1 + ctY (eqY n x) (2 ^ ppY n)))).2.2.1 44 2 = nI st.2.1 by rw [hp_wf_ne (by decide)]; exact h2, nI_1, w44_2]
    exact hR _ rfl
  cases ho2 : st.2.2 with
  | none =>
    obtain ⟨τ, q1, q2, q3⟩ := yes (by rw [ho2]; rfl)
    refine ⟨τ, q1, q2, pre _ (fun w hw => ?_)⟩
    subst hw
    rw [i44_3, f3, ho2, if_pos (show oI1 n none = -1 from rfl)]
    exact q3
  | some m =>
    have hm := ho m ho2
    have o1 : oI1 n st.2.2 = nI (pcY n m) := by rw [ho2]; rfl
    have o2 : oI2 st.2.2 = nI m := by rw [ho2]; rfl
    have p1 := hpc x
    have p2 := hpc m
    have ep : pkY n st.2.2 x = @ite (Option Nat) (ltY n x m) (Classical.propDecidable _) (some x) (some m) := by rw [ho2]; rfl
    by_cases c : ltY n x m
    · obtain ⟨τ, q1, q2, q3⟩ := yes (by rw [ep, if_pos c])
      refine ⟨τ, q1, q2, pre _ (fun w hw => ?_)⟩
      subst hw
      rw [i44_3, f3, o1, if_neg (by rw [q_ne1 (by omega)]; exact id), i44_3, f3, o1]
      rcases c with c | ⟨c1, c2⟩
      · rw [if_pos (nI_lt c (by omega))]
        exact q3
      · rw [if_neg (nI_nlt (by omega) (by omega)), i44_3, f3, o1, if_neg (fun z => z (by rw [c1])), i44_4, f4, o2, if_neg (nI_ge c2 (by omega))]
        exact q3
    · have hno := no (by rw [ep, if_neg c, ho2])
      refine ⟨_, w2, hno, pre _ (fun w hw => ?_)⟩
      subst hw
      unfold ltY at c
      rw [i44_3, f3, o1, if_neg (by rw [q_ne1 (by omega)]; exact id), i44_3, f3, o1, if_neg (nI_nlt (by omega) (by omega)), i44_3, f3, o1]
      by_cases e : pcY n x = pcY n m
      · rw [if_neg (fun z => z (by rw [e])), i44_4, f4, o2, if_pos (nI_le (by omega) (by omega))]
      · rw [if_pos (by rw [q_eq (by omega) (by omega)]; exact e)]
theorem okO_s {st : Nat × Nat × Option Nat} (hx : x < 2 ^ ppY n) (h : okO n st.2.2) : okO n (stG n d k st x).2.2 := by
  unfold stG
  by_cases c : wtY n d k x
  · rw [if_pos c]
    intro m hm
    have hm : pkY n st.2.2 x = some m := hm
    unfold pkY at hm
    cases ho : st.2.2 with
    | none =>
      rw [ho] at hm
      have : x = m := Option.some.inj hm
      omega
    | some j =>
      rw [ho] at hm
      have hm : @ite (Option Nat) (ltY n x j) (Classical.propDecidable _) (some x) (some j) = some m := hm
      by_cases e : ltY n x j
      · rw [if_pos e] at hm
        have : x = m := Option.some.inj hm
        omega
      · rw [if_neg e] at hm
        have := h j ho
        have : j = m := Option.some.inj hm
        omega
  · rw [if_neg c]
    exact h
/-- all kinds, one after the other -/
theorem c_g41 {L : List Nat} (hn1 : 1 ≤ n) (hn : n ≤ 6) (hN : iv_N N) (hk : k < 2 ^ 31) (hd : d ≤ 8) (hL : ∀ y, y ∈ L → y < 2 ^ ppY n) (h156 : L.length ≤ 156) : ∀ (m i u : Nat) (st : Nat × Nat × Option Nat) (σ : hp_S), i + m = L.length → m < u → σ.1 47 n = nI L.length → KDy (σ.1 45) (σ.1 46) n L → okO n st.2.2 → GAy σ n st → ∃ τ, fr [50] [(44, 0), (44, 1), (44, 2), (44, 3), (44, 4)] σ τ ∧ τ.2.2.1 44 0 = 1 ∧ GAy τ n ((L.drop i).foldl (stG n d k) st) ∧ g93_41 N u 44 (nI n) (nI d) (nI k) (nI (156 * n + i)) (hp σ, cs) = some (.inl none, (hp τ, cs)) := by
  have h15 := pp_15 hn
  have hp15 : 2 ^ ppY n ≤ 2 ^ 15 := Nat.pow_le_pow_right (by omega) h15
  intro m
  induction m with
  | zero =>
    intro i u st σ hi hu h47 hK ho hG
    obtain ⟨u, rfl⟩ : ∃ q, u = q + 1 := ⟨u - 1, by omega⟩
    refine ⟨hp_wf σ 44 0 1, fr.wf (by decide), hp_wf_at, ?_, ?_⟩
    · rw [List.drop_eq_nil_of_le (by omega)]
      obtain ⟨g1, g2, g3, g4⟩ := hG
      exact ⟨by rw [hp_wf_ne (by decide)]; exact g1, by rw [hp_wf_ne (by decide)]; exact g2, by rw [hp_wf_ne (by decide)]; exact g3, by rw [hp_wf_ne (by decide)]; exact g4⟩
    · unfold g93_41
      rw [r44_7, a47 (by omega), h47, ix_156, if_pos (nI_le (by omega) (by omega)), w44_0 (by decide)]
  | succ m ih =>
    intro i u st σ hi hu h47 hK ho hG
    obtain ⟨u, rfl⟩ : ∃ q, u = q + 1 := ⟨u - 1, by omega⟩
    have hiL : i < L.length := by omega
    obtain ⟨k1, k2⟩ := hK i hiL
    have hy := hL _ (gx_in hiL)
    obtain ⟨σ1, a1, a2, a3⟩ := c_unf (N := N) (cs := cs) (σ := σ) hn hN hy
    have ed : L.drop i = L.getD i 0 :: L.drop (i + 1) := by
      rw [List.drop_eq_getElem_cons hiL, List.getD_eq_getElem?_getD, List.getElem?_eq_getElem hiL]
      rfl
    have ef : (L.drop i).foldl (stG n d k) st = (L.drop (i + 1)).foldl (stG n d k) (stG n d k st (L.getD i 0)) := by
      rw [ed]
      rfl
    have hix : 156 * n + i < 1092 := by omega
    have hG1 : GAy σ1 n st := by
      obtain ⟨g1, g2, g3, g4⟩ := hG
      exact ⟨by rw [a1.f List.not_mem_nil]; exact g1, by rw [a1.f List.not_mem_nil]; exact g2, by rw [a1.f List.not_mem_nil]; exact g3, by rw [a1.f List.not_mem_nil]; exact g4⟩
    have pre : g93_41 N (u + 1) 44 (nI n) (nI d) (nI k) (nI (156 * n + i)) (hp σ, cs) = (lf_ci (f96 N 44 (nI n) (nI d) (nI k) (hp σ1, cs)) fun v24 w18 => if v24 = 0 then (g93_98 N (g93_41 N u) 44 (nI n) (nI d) (nI k) (nI (156 * n + i)) w18) else ((lf_fr w18 44 8 5).bind fun v26 => (lf_ri w18 v26 (nI (156 * n + i))).bind fun v28 => (lf_fr w18 44 8 6).bind fun v30 => (lf_ri w18 v30 (nI (156 * n + i))).bind fun v32 => if lf_is w18 44 8 = true then (lf_cv (f94 N 44 v28 v32 w18) fun w34 => g93_98 N (g93_41 N u) 44 (nI n) (nI d) (nI k) (nI (156 * n + i)) w34) else none)) := by
      rw [g93_41]
      rw [r44_7, a47 (by omega), h47, ix_156, if_neg (nI_ge (by omega) (by omega)), r44_5, a45 hix, k1, o44, a3, lf_cv_r, o44]
    obtain ⟨w1, w2⟩ := c_want (N := N) (cs := cs) (σ := σ1) (d := d) (k := k) (x := L.getD i 0) hn1 hn hN hk hd a2
    by_cases c : wtY n d k (L.getD i 0)
    · obtain ⟨σ2, b1, b2, b3⟩ := c_keep (N := N) (cs := cs) (σ := σ1) hn hy c ho hG1
      have wab : fr [50] [(44, 0), (44, 1), (44, 2), (44, 3), (44, 4)] σ σ2 := (a1.wk (fun _ z => z) (fun _ z => absurd z List.not_mem_nil)).tr (b1.wk (fun _ z => absurd z List.not_mem_nil) (fun _ z => by simp at z; rcases z with z | z | z | z <;> simp [z]))
      obtain ⟨τ, q1, q2, q3, q4⟩ := ih (i + 1) u (stG n d k st (L.getD i 0)) σ2 (by omega) (by omega) (by rw [wab.r (by decide)]; exact h47) (fun j hj => by rw [wab.r (by decide), wab.r (by decide)]; exact hK j hj) (okO_s hy ho) b2
      refine ⟨τ, wab.tr q1, q2, by rw [ef]; exact q3, ?_⟩
      rw [pre, w1 c, lf_ci_r, if_neg (by decide), r44_5, a45 hix, a1.r (by decide), k1, r44_6, a46 hix, a1.r (by decide), k2, o44, b3, lf_cv_r]
      unfold g93_98
      rw [nI_1]
      exact q4
    · have es : stG n d k st (L.getD i 0) = st := if_neg c
      have wab : fr [50] [(44, 0), (44, 1), (44, 2), (44, 3), (44, 4)] σ σ1 := a1.wk (fun _ z => z) (fun _ z => absurd z List.not_mem_nil)
      obtain ⟨τ, q1, q2, q3, q4⟩ := ih (i + 1) u st σ1 (by omega) (by omega) (by rw [a1.r (by decide)]; exact h47) (fun j hj => by rw [a1.r (by decide), a1.r (by decide)]; exact hK j hj) ho hG1
      refine ⟨τ, wab.tr q1, q2, by rw [ef, es]; exact q3, ?_⟩
      rw [pre, w2 c, lf_ci_r, if_pos rfl]
      unfold g93_98
      rw [nI_1]
      exact q4
end SMH
