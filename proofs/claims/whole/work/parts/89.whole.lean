/-! whole, far and sum by the model -/
def wI (f : Nat → Int32) (A : Int32) (a : Nat) : Nat → Nat → Nat × Nat → Option (Nat × Nat)
  | 0, _, q => some q
  | m + 1, b, q => if bt A b = true then (if gd f A a b < 24 then wI f A a m (b + 1) (if gd f A a b ≤ q.1 then q.1 else gd f A a b, q.2 + gd f A a b) else none) else wI f A a m (b + 1) q
def wO (f : Nat → Int32) (A : Int32) : Nat → Nat → Nat × Nat → Option (Nat × Nat)
  | 0, _, q => some q
  | m + 1, a, q => if bt A a = true then (wI f A a a 0 q).bind (wO f A m (a + 1)) else wO f A m (a + 1) q
section WH
variable {f : Nat → Int32} {A : Int32} {a : Nat}
theorem wI_some : ∀ (m b F S : Nat), (∀ i, b ≤ i → i < b + m → bt A i = true → gd f A a i < 24) → ∃ F', wI f A a m b (F, S) = some (F', S + sm (fun i => ic (bt A (b + i)) * gd f A a (b + i)) m) ∧ F ≤ F' ∧ (∀ i, b ≤ i → i < b + m → bt A i = true → gd f A a i ≤ F') ∧ (F' = F ∨ ∃ i, b ≤ i ∧ i < b + m ∧ bt A i = true ∧ gd f A a i = F')
  | 0, b, F, S, _ => ⟨F, rfl, Nat.le_refl _, fun i _ _ => by omega, Or.inl rfl⟩
  | m + 1, b, F, S, h => by
    have es : ∀ S, S + sm (fun i => ic (bt A (b + i)) * gd f A a (b + i)) (m + 1) = S + ic (bt A b) * gd f A a b + sm (fun i => ic (bt A (b + 1 + i)) * gd f A a (b + 1 + i)) m := by
      intro S
      rw [sm_front, sm_congr (F := fun i => ic (bt A (b + 1 + i)) * gd f A a (b + 1 + i)) (G := fun i => ic (bt A (b + (i + 1))) * gd f A a (b + (i + 1))) (fun k _ => by rw [show b + 1 + k = b + (k + 1) by omega])]
      rw [Nat.add_zero]
      omega
    by_cases c : bt A b = true
    · have hb := h b (by omega) (by omega) c
      obtain ⟨F', q1, q2, q3, q4⟩ := wI_some m (b + 1) (if gd f A a b ≤ F then F else gd f A a b) (S + gd f A a b) (fun i r1 r2 => h i (by omega) (by omega))
      have hF : F ≤ (if gd f A a b ≤ F then F else gd f A a b) ∧ gd f A a b ≤ (if gd f A a b ≤ F then F else gd f A a b) := by
        split <;> omega
      refine ⟨F', ?_, by omega, fun i r1 r2 r3 => ?_, ?_⟩
      · show (if bt A b = true then (if gd f A a b < 24 then _ else none) else _) = _
        rw [if_pos c, if_pos hb, es, c]
        show wI f A a m (b + 1) (if gd f A a b ≤ F then F else gd f A a b, S + gd f A a b) = _
        rw [q1, show ic true = 1 from rfl, Nat.one_mul]
      · by_cases e : i = b
        · rw [e]; omega
        · exact q3 i (by omega) (by omega) r3
      · rcases q4 with q4 | ⟨i, r1, r2, r3, r4⟩
        · by_cases d : gd f A a b ≤ F
          · rw [if_pos d] at q4; exact Or.inl q4
          · rw [if_neg d] at q4; exact Or.inr ⟨b, by omega, by omega, c, q4.symm⟩
        · exact Or.inr ⟨i, by omega, by omega, r3, r4⟩
    · obtain ⟨F', q1, q2, q3, q4⟩ := wI_some m (b + 1) F S (fun i r1 r2 => h i (by omega) (by omega))
      refine ⟨F', ?_, q2, fun i r1 r2 r3 => ?_, ?_⟩
      · show (if bt A b = true then _ else wI f A a m (b + 1) (F, S)) = _
        rw [if_neg c, es, ts_nt c, q1, show ic false = 0 from rfl, Nat.zero_mul]
        rfl
      · by_cases e : i = b
        · exact absurd (by rw [← e]; exact r3) c
        · exact q3 i (by omega) (by omega) r3
      · rcases q4 with q4 | ⟨i, r1, r2, r3, r4⟩
        · exact Or.inl q4
        · exact Or.inr ⟨i, by omega, by omega, r3, r4⟩
theorem wI_none : ∀ (m b : Nat) (q : Nat × Nat), (∃ i, b ≤ i ∧ i < b + m ∧ bt A i = true ∧ ¬ gd f A a i < 24) → wI f A a m b q = none
  | 0, b, q, h => by
    obtain ⟨i, h1, h2, -⟩ := h
    omega
  | m + 1, b, q, h => by
    obtain ⟨i, h1, h2, h3, h4⟩ := h
    show (if bt A b = true then (if gd f A a b < 24 then _ else none) else _) = _
    by_cases e : i = b
    · subst e
      rw [if_pos h3, if_neg h4]
    · by_cases c : bt A b = true
      · rw [if_pos c]
        by_cases d : gd f A a b < 24
        · rw [if_pos d]; exact wI_none m (b + 1) _ ⟨i, by omega, by omega, h3, h4⟩
        · rw [if_neg d]
      · rw [if_neg c]; exact wI_none m (b + 1) _ ⟨i, by omega, by omega, h3, h4⟩
theorem wO_some : ∀ (m a F S : Nat), a + m ≤ 24 → (∀ i j, a ≤ i → i < a + m → j < i → bt A i = true → bt A j = true → gd f A i j < 24) → ∃ F', wO f A m a (F, S) = some (F', S + sm (fun k => sm (fun b => gP f A (a + k) b) (a + k)) m) ∧ F ≤ F' ∧ (∀ i j, a ≤ i → i < a + m → j < i → bt A i = true → bt A j = true → gd f A i j ≤ F') ∧ (F' = F ∨ ∃ i j, a ≤ i ∧ i < a + m ∧ j < i ∧ bt A i = true ∧ bt A j = true ∧ gd f A i j = F')
  | 0, a, F, S, _, _ => ⟨F, rfl, Nat.le_refl _, fun i j _ _ => by omega, Or.inl rfl⟩
  | m + 1, a, F, S, ha, h => by
    have es : ∀ S, S + sm (fun k => sm (fun b => gP f A (a + k) b) (a + k)) (m + 1) = S + sm (fun b => gP f A a b) a + sm (fun k => sm (fun b => gP f A (a + 1 + k) b) (a + 1 + k)) m := by
      intro S
      rw [sm_front, sm_congr (F := fun k => sm (fun b => gP f A (a + 1 + k) b) (a + 1 + k)) (G := fun k => sm (fun b => gP f A (a + (k + 1)) b) (a + (k + 1))) (fun k _ => by rw [show a + 1 + k = a + (k + 1) by omega])]
      rw [Nat.add_zero]
      omega
    by_cases c : bt A a = true
    · obtain ⟨F1, p1, p2, p3, p4⟩ := wI_some (f := f) (A := A) (a := a) a 0 F S (fun i r1 r2 r3 => h a i (by omega) (by omega) (by omega) c r3)
      obtain ⟨F', q1, q2, q3, q4⟩ := wO_some m (a + 1) F1 (S + sm (fun b => gP f A a b) a) (by omega) (fun i j r1 r2 => h i j (by omega) (by omega))
      refine ⟨F', ?_, by omega, fun i j r1 r2 r3 r4 r5 => ?_, ?_⟩
      · show (if bt A a = true then (wI f A a a 0 (F, S)).bind (wO f A m (a + 1)) else _) = _
        rw [if_pos c, p1, Option.bind_some, es]
        have e1 : sm (fun i => ic (bt A (0 + i)) * gd f A a (0 + i)) a = sm (fun b => gP f A a b) a := by
          refine sm_congr (fun k _ => ?_)
          unfold gP
          rw [Nat.zero_add, c, Bool.true_and]
        rw [e1]
        exact q1
      · by_cases e : i = a
        · have := p3 j (by omega) (by omega) r5
          rw [e]; omega
        · exact q3 i j (by omega) (by omega) r3 r4 r5
      · rcases q4 with q4 | ⟨i, j, r1, r2, r3, r4, r5, r6⟩
        · rcases p4 with p4 | ⟨j, r1, r2, r3, r4⟩
          · exact Or.inl (q4.trans p4)
          · exact Or.inr ⟨a, j, by omega, by omega, by omega, c, r3, by rw [r4, q4]⟩
        · exact Or.inr ⟨i, j, by omega, by omega, r3, r4, r5, r6⟩
    · obtain ⟨F', q1, q2, q3, q4⟩ := wO_some m (a + 1) F S (by omega) (fun i j r1 r2 => h i j (by omega) (by omega))
      refine ⟨F', ?_, q2, fun i j r1 r2 r3 r4 r5 => ?_, ?_⟩
      · show (if bt A a = true then _ else wO f A m (a + 1) (F, S)) = _
        rw [if_neg c, es, q1]
        have e1 : sm (fun b => gP f A a b) a = 0 := by
          rw [sm_congr (G := fun _ => 0) (fun k _ => ?_), sm_0]
          unfold gP
          rw [ts_nt c]
          exact Nat.zero_mul _
        rw [e1]
        rfl
      · by_cases e : i = a
        · exact absurd (by rw [← e]; exact r4) c
        · exact q3 i j (by omega) (by omega) r3 r4 r5
      · rcases q4 with q4 | ⟨i, j, r1, r2, r3, r4, r5, r6⟩
        · exact Or.inl q4
        · exact Or.inr ⟨i, j, by omega, by omega, r3, r4, r5, r6⟩
theorem wO_none : ∀ (m a : Nat) (q : Nat × Nat), (∃ i j, a ≤ i ∧ i < a + m ∧ j < i ∧ bt A i = true ∧ bt A j = true ∧ ¬ gd f A i j < 24) → wO f A m a q = none
  | 0, a, q, h => by
    obtain ⟨i, j, h1, h2, -⟩ := h
    omega
  | m + 1, a, q, h => by
    obtain ⟨i, j, h1, h2, h3, h4, h5, h6⟩ := h
    show (if bt A a = true then (wI f A a a 0 q).bind (wO f A m (a + 1)) else wO f A m (a + 1) q) = _
    by_cases e : i = a
    · subst e
      rw [if_pos h4, wI_none i 0 q ⟨j, by omega, by omega, h5, h6⟩]
      rfl
    · by_cases c : bt A a = true
      · rw [if_pos c]
        cases wI f A a a 0 q with
        | none => rfl
        | some p => exact wO_none m (a + 1) p ⟨i, j, by omega, by omega, h3, h4, h5, h6⟩
      · rw [if_neg c]; exact wO_none m (a + 1) q ⟨i, j, by omega, by omega, h3, h4, h5, h6⟩
/-- both ways of reckoning -/
theorem wO_all {n : Nat} (hn : n ≤ 24) (hA : ∀ i, bt A i = true → i < n) (hf : ∀ a b, bt A a = true → bt A b = true → bt (f a) b = true → bt (f b) a = true) : wO f A n 0 (0, 0) = if dS f A 23 = 0 then some (gF f A, gS f A) else none := by
  by_cases hJ : dS f A 23 = 0
  · rw [if_pos hJ]
    have hG := gJ_iff.mp hJ
    obtain ⟨F', q1, q2, q3, q4⟩ := wO_some (f := f) (A := A) n 0 0 0 (by omega) (fun i j r1 r2 r3 r4 r5 => hG i j (by omega) (by omega) r4 r5)
    rw [q1, gS_eq hf hJ]
    have e1 : gF f A = F' := by
      refine gF_max hJ (fun a b ha hb h1 h2 => ?_) ?_
      · rcases Nat.lt_trichotomy b a with q | q | q
        · exact q3 a b (by omega) (by have := hA a h1; omega) q h1 h2
        · subst q; rw [gd_self ha]; omega
        · rw [gd_sym hf ha hb h1 h2]; exact q3 b a (by omega) (by have := hA b h2; omega) q h2 h1
      · rcases q4 with q4 | ⟨i, j, r1, r2, r3, r4, r5, r6⟩
        · exact Or.inl q4
        · exact Or.inr ⟨i, j, by omega, by omega, r4, r5, r6⟩
    rw [e1, sm_more (n := n) (m := 24) (F := fun a => sm (fun b => gP f A a b) a) hn (fun k r1 r2 => ?_)]
    · rw [Nat.zero_add, sm_congr (F := fun k => sm (fun b => gP f A (0 + k) b) (0 + k)) (G := fun a => sm (fun b => gP f A a b) a) (fun k _ => by rw [Nat.zero_add])]
    · rw [sm_congr (G := fun _ => 0) (fun b _ => ?_), sm_0]
      unfold gP
      rw [ts_nt (fun q => by have := hA k q; omega : ¬ bt A k = true)]
      exact Nat.zero_mul _
  · rw [if_neg hJ]
    have h1 : ¬ gJ f A := hJ
    rw [gJ_iff] at h1
    refine wO_none n 0 _ ?_
    apply Classical.byContradiction
    intro hno
    refine h1 (fun a b ha hb h2 h3 => ?_)
    apply Classical.byContradiction
    intro hlt
    rcases Nat.lt_trichotomy b a with q | q | q
    · exact hno ⟨a, b, by omega, by have := hA a h2; omega, q, h2, h3, hlt⟩
    · subst q; rw [gd_self ha] at hlt; omega
    · rw [gd_sym hf ha hb h2 h3] at hlt; exact hno ⟨b, a, by omega, by have := hA b h3; omega, q, h3, h2, hlt⟩
end WH
section WM
variable {f : Nat → Int32} {A : Int32} {n : Nat} {cs : Nat × Nat} {N : Nat}
theorem gdI_lt {v x : Nat} (h : gd f A v x < 24) : gdI f A v x = nI (gd f A v x) := by
  unfold gdI
  rw [if_pos h]
theorem gdI_no {v x : Nat} (h : ¬ gd f A v x < 24) : gdI f A v x = -1 := by
  unfold gdI
  rw [if_neg h]
theorem m_wh_in {a : Nat} (ha : a < 24) {k12 : Nat → Int32 → Int32 → lf_W → lf_R} : ∀ (m b u F S : Nat) (σ : hp_S), b + m = a → m < u → F ≤ 24 → σ.2.2.1 72 24 = nI F → σ.2.2.1 72 25 = nI S → (∀ k, k < a → σ.1 81 (24 * a + k) = gdI f A a k) → ∃ τ, fr [] [(72, 24), (72, 25)] σ τ ∧ (∀ F' S', wI f A a m b (F, S) = some (F', S') → F' ≤ 24 ∧ τ.2.2.1 72 24 = nI F' ∧ τ.2.2.1 72 25 = nI S' ∧ g222_39 N k12 u 72 A (nI a) (nI b) (hp σ, cs) = k12 72 A (nI (a + 1)) (hp τ, cs)) ∧ (wI f A a m b (F, S) = none → g222_39 N k12 u 72 A (nI a) (nI b) (hp σ, cs) = some (.inl (some (.int 0)), (hp τ, cs))) := by
  intro m
  induction m with
  | zero =>
    intro b u F S σ hb hu hF e1 e2 hd
    obtain ⟨u, rfl⟩ : ∃ q, u = q + 1 := ⟨u - 1, by omega⟩
    refine ⟨σ, fr.rf, fun F' S' q => ?_, fun q => by cases q⟩
    cases q
    refine ⟨hF, e1, e2, ?_⟩
    unfold g222_39 g222_115
    rw [if_pos (nI_le (by omega) (by omega)), nI_1]
  | succ m ih =>
    intro b u F S σ hb hu hF e1 e2 hd
    obtain ⟨u, rfl⟩ : ∃ q, u = q + 1 := ⟨u - 1, by omega⟩
    have hw : wI f A a (m + 1) b (F, S) = if bt A b = true then (if gd f A a b < 24 then wI f A a m (b + 1) (if gd f A a b ≤ F then F else gd f A a b, S + gd f A a b) else none) else wI f A a m (b + 1) (F, S) := rfl
    by_cases c : bt A b = true
    · have hd' := hd b (by omega)
      by_cases d : gd f A a b < 24
      · by_cases g : gd f A a b ≤ F
        · have hw' : wI f A a (m + 1) b (F, S) = wI f A a m (b + 1) (F, S + gd f A a b) := by rw [hw, if_pos c, if_pos d, if_pos g]
          obtain ⟨τ, q1, q2, q3⟩ := ih (b + 1) u F (S + gd f A a b) (hp_wf (hp_wf σ 72 25 (nI (S + gd f A a b))) 72 24 (nI F)) (by omega) (by omega) hF hp_wf_at (by rw [hp_wf_ne (by decide), hp_wf_at]) hd
          have hg : g222_39 N k12 (u + 1) 72 A (nI a) (nI b) (hp σ, cs) = g222_39 N k12 u 72 A (nI a) (nI (b + 1)) (hp (hp_wf (hp_wf σ 72 25 (nI (S + gd f A a b))) 72 24 (nI F)), cs) := by
            rw [g222_39]
            unfold g222_106 g222_109
            rw [if_neg (nI_ge (by omega) (by omega)), sh_bit (by omega), if_pos c, if_pos (by decide), r72_23, ix_a, a81 (by omega), hd', gdI_lt d, if_pos (by rw [q_ne1 (by omega)]; exact id), i72_25, e2, w72_25, i72_24, hp_wf_ne (by decide), e1, nI_add, if_pos (nI_le g (by omega)), i72_24, hp_wf_ne (by decide), e1, w72_24, nI_1]
          rw [hw', hg]
          exact ⟨τ, ((fr.wf (by decide)).tr (fr.wf (by decide))).tr q1, q2, q3⟩
        · have hw' : wI f A a (m + 1) b (F, S) = wI f A a m (b + 1) (gd f A a b, S + gd f A a b) := by rw [hw, if_pos c, if_pos d, if_neg g]
          obtain ⟨τ, q1, q2, q3⟩ := ih (b + 1) u (gd f A a b) (S + gd f A a b) (hp_wf (hp_wf σ 72 25 (nI (S + gd f A a b))) 72 24 (nI (gd f A a b))) (by omega) (by omega) (by omega) hp_wf_at (by rw [hp_wf_ne (by decide), hp_wf_at]) hd
          have hg : g222_39 N k12 (u + 1) 72 A (nI a) (nI b) (hp σ, cs) = g222_39 N k12 u 72 A (nI a) (nI (b + 1)) (hp (hp_wf (hp_wf σ 72 25 (nI (S + gd f A a b))) 72 24 (nI (gd f A a b))), cs) := by
            rw [g222_39]
            unfold g222_106 g222_109
            rw [if_neg (nI_ge (by omega) (by omega)), sh_bit (by omega), if_pos c, if_pos (by decide), r72_23, ix_a, a81 (by omega), hd', gdI_lt d, if_pos (by rw [q_ne1 (by omega)]; exact id), i72_25, e2, w72_25, i72_24, hp_wf_ne (by decide), e1, nI_add, if_neg (nI_ge (by omega) (by omega)), w72_24, nI_1]
          rw [hw', hg]
          exact ⟨τ, ((fr.wf (by decide)).tr (fr.wf (by decide))).tr q1, q2, q3⟩
      · have hw' : wI f A a (m + 1) b (F, S) = none := by rw [hw, if_pos c, if_neg d]
        have hg : g222_39 N k12 (u + 1) 72 A (nI a) (nI b) (hp σ, cs) = some (.inl (some (.int 0)), (hp σ, cs)) := by
          rw [g222_39]
          rw [if_neg (nI_ge (by omega) (by omega)), sh_bit (by omega), if_pos c, if_pos (by decide), r72_23, ix_a, a81 (by omega), hd', gdI_no d, if_neg (fun q => q rfl)]
        rw [hw', hg]
        refine ⟨σ, fr.rf, ?_, fun _ => rfl⟩
        intro F' S' q
        cases q
    · have hw' : wI f A a (m + 1) b (F, S) = wI f A a m (b + 1) (F, S) := by rw [hw, if_neg c]
      have hg : g222_39 N k12 (u + 1) 72 A (nI a) (nI b) (hp σ, cs) = g222_39 N k12 u 72 A (nI a) (nI (b + 1)) (hp σ, cs) := by
        rw [g222_39]
        unfold g222_109
        rw [if_neg (nI_ge (by omega) (by omega)), sh_bit (by omega), if_neg c, if_neg (fun q => q rfl), nI_1]
      rw [hw', hg]
      exact ih (b + 1) u F S σ (by omega) (by omega) hF e1 e2 hd
theorem m_wh_out (hn : n ≤ 24) (hN : iv_N N) (hA : ∀ i, bt A i = true → i < n) : ∀ (m a u F S : Nat) (σ : hp_S), a + m = n → m < u → F ≤ 24 → σ.2.2.1 72 4 = nI n → (∀ j, j < 24 → σ.1 76 j = f j) → σ.2.2.1 72 24 = nI F → σ.2.2.1 72 25 = nI S → ∃ τ, fr [81] [(72, 24), (72, 25)] σ τ ∧ (∀ F' S', wO f A m a (F, S) = some (F', S') → τ.2.2.1 72 24 = nI F' ∧ τ.2.2.1 72 25 = nI S' ∧ g222_12 N u 72 A (nI a) (hp σ, cs) = some (.inl (some (.int 1)), (hp τ, cs))) ∧ (wO f A m a (F, S) = none → g222_12 N u 72 A (nI a) (hp σ, cs) = some (.inl (some (.int 0)), (hp τ, cs))) := by
  intro m
  induction m with
  | zero =>
    intro a u F S σ ha hu hF e ef e1 e2
    obtain ⟨u, rfl⟩ : ∃ q, u = q + 1 := ⟨u - 1, by omega⟩
    refine ⟨σ, fr.rf, fun F' S' q => ?_, fun q => by cases q⟩
    cases q
    refine ⟨e1, e2, ?_⟩
    unfold g222_12
    rw [i72_4, e, if_pos (nI_le (by omega) (by omega))]
  | succ m ih =>
    intro a u F S σ ha hu hF e ef e1 e2
    obtain ⟨u, rfl⟩ : ∃ q, u = q + 1 := ⟨u - 1, by omega⟩
    have hw : wO f A (m + 1) a (F, S) = if bt A a = true then (wI f A a a 0 (F, S)).bind (wO f A m (a + 1)) else wO f A m (a + 1) (F, S) := rfl
    by_cases c : bt A a = true
    · obtain ⟨τ, q1, q2, q3, q4⟩ := m_spreads (N := N) (cs := cs) (f := f) (A := A) (v := a) (by omega) hn hN hA e ef
      have hg : g222_12 N (u + 1) 72 A (nI a) (hp σ, cs) = g222_39 N (g222_12 N u) N 72 A (nI a) (nI 0) (hp τ, cs) := by
        rw [g222_12]
        rw [i72_4, e, if_neg (nI_ge (by omega) (by omega)), sh_bit (by omega), if_pos c, if_pos (by decide), o72, q4, lf_cv_r]
        rfl
      rw [hw, if_pos c, hg]
      obtain ⟨υ, p1, p2, p3⟩ := m_wh_in (N := N) (cs := cs) (f := f) (A := A) (a := a) (k12 := g222_12 N u) (by omega) a 0 N F S τ (by omega) (by unfold iv_N at hN; omega) hF (by rw [q1.f List.not_mem_nil]; exact e1) (by rw [q1.f List.not_mem_nil]; exact e2) (fun k hk => q2 k (by omega))
      have w1 : fr [81] [(72, 24), (72, 25)] σ υ := (q1.wk (fun _ q => q) (fun q h => absurd h List.not_mem_nil)).tr (p1.wk (fun q h => absurd h List.not_mem_nil) (fun _ q => q))
      cases hi : wI f A a a 0 (F, S) with
      | none =>
        rw [Option.bind_none]
        refine ⟨υ, w1, ?_, fun _ => p3 hi⟩
        intro F' S' q
        cases q
      | some r =>
        obtain ⟨F', S'⟩ := r
        obtain ⟨r1, r2, r3, r4⟩ := p2 F' S' hi
        rw [Option.bind_some, r4]
        obtain ⟨ω, z1, z2, z3⟩ := ih (a + 1) u F' S' υ (by omega) (by omega) r1 (by rw [w1.f (by decide)]; exact e) (fun j hj => by rw [w1.r (by decide)]; exact ef j hj) r2 r3
        exact ⟨ω, w1.tr z1, z2, z3⟩
    · have hg : g222_12 N (u + 1) 72 A (nI a) (hp σ, cs) = g222_12 N u 72 A (nI (a + 1)) (hp σ, cs) := by
        rw [g222_12]
        unfold g222_115
        rw [i72_4, e, if_neg (nI_ge (by omega) (by omega)), sh_bit (by omega), if_neg c, if_neg (fun q => q rfl), nI_1]
      rw [hw, if_neg c, hg]
      exact ih (a + 1) u F S σ (by omega) (by omega) hF e ef e1 e2
/-- isWhole -/
theorem m_isWhole {σ : hp_S} (hn : n ≤ 24) (hN : iv_N N) (hA : ∀ i, bt A i = true → i < n) (hf : ∀ a b, bt A a = true → bt A b = true → bt (f a) b = true → bt (f b) a = true) (e : σ.2.2.1 72 4 = nI n) (ef : ∀ j, j < 24 → σ.1 76 j = f j) : ∃ τ, fr [81] [(72, 24), (72, 25)] σ τ ∧ (dS f A 23 = 0 → τ.2.2.1 72 24 = nI (gF f A) ∧ τ.2.2.1 72 25 = nI (gS f A)) ∧ f222 N 72 A (hp σ, cs) = some (.inl (some (.int (if dS f A 23 = 0 then 1 else 0))), (hp τ, cs)) := by
  obtain ⟨τ, q1, q2, q3⟩ := m_wh_out (N := N) (cs := cs) (f := f) (A := A) hn hN hA n 0 N 0 0 (hp_wf (hp_wf σ 72 24 0) 72 25 0) (by omega) (by unfold iv_N at hN; omega) (by omega) (by rw [hp_wf_ne (by decide), hp_wf_ne (by decide)]; exact e) ef (by rw [hp_wf_ne (by decide), hp_wf_at]; rfl) hp_wf_at
  have w1 : fr [81] [(72, 24), (72, 25)] σ τ := ((fr.wf (by decide)).tr (fr.wf (by decide))).tr q1
  rw [wO_all hn hA hf] at q2 q3
  unfold f222
  rw [w72_24, w72_25]
  by_cases hJ : dS f A 23 = 0
  · obtain ⟨r1, r2, r3⟩ := q2 (gF f A) (gS f A) (by rw [if_pos hJ])
    refine ⟨τ, w1, fun _ => ⟨r1, r2⟩, ?_⟩
    rw [if_pos hJ]
    exact r3
  · refine ⟨τ, w1, fun q => absurd q hJ, ?_⟩
    rw [if_neg hJ]
    exact q3 (by rw [if_neg hJ])
/-- price -/
theorem m_price {σ : hp_S} (hn : n ≤ 24) (hN : iv_N N) (hf : gw f n) (e : σ.2.2.1 72 4 = nI n) (ef : ∀ j, j < 24 → σ.1 76 j = f j) : ∃ τ, fr [81] [(72, 24), (72, 25)] σ τ ∧ f223 N 72 (hp σ, cs) = some (.inl (some (.int (nI (gPr f (lf_shl 1 (nI n) - 1))))), (hp τ, cs)) := by
  obtain ⟨τ, q1, q2, q3⟩ := m_isWhole (N := N) (cs := cs) (f := f) (A := lf_shl 1 (nI n) - 1) hn hN (fun i q => (al_bt (by omega)).mp q) (fun a b h1 h2 h3 => (hf a (by have := (al_bt (by omega)).mp h1; omega) b h3).2.2.2) e ef
  refine ⟨τ, q1, ?_⟩
  unfold f223 gPr
  rw [o72, m_all e, lf_ci_r, o72, q3, lf_ci_r]
  by_cases hJ : dS f (lf_shl 1 (nI n) - 1) 23 = 0
  · rw [if_pos hJ, if_pos hJ, if_neg (by decide), i72_24, i72_25, (q2 hJ).1, (q2 hJ).2, show (1000 : Int32) = nI 1000 from rfl, pk_mul, nI_add]
  · rw [if_neg hJ, if_neg hJ, if_pos rfl]
    rfl
end WM
