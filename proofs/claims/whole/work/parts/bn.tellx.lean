/-! tell, the model: a round of greatest sets -/
section TX
variable {n : Nat} {f : Nat → Int32} {K x : Int32}
theorem gx_in {L : List Nat} {i : Nat} (h : i < L.length) : L.getD i 0 ∈ L := by
  rw [List.getD_eq_getElem?_getD, List.getElem?_eq_getElem h]
  exact List.getElem_mem h
theorem gx_ex {L : List Nat} {v : Nat} (h : v ∈ L) : ∃ i, i < L.length ∧ L.getD i 0 = v := by
  obtain ⟨i, hi, e⟩ := List.getElem_of_mem h
  refine ⟨i, hi, ?_⟩
  rw [List.getD_eq_getElem?_getD, List.getElem?_eq_getElem hi]
  exact e
theorem gx_inj {L : List Nat} (hd : L.Nodup) {i j : Nat} (hi : i < L.length) (hj : j < L.length) (h : L.getD i 0 = L.getD j 0) : i = j := by
  exact (List.getD_inj hi hj hd).mp h
theorem pkL_mem {P : Nat → Bool} {v : Nat} : v ∈ pkL P n ↔ v < n ∧ P v = true := by
  unfold pkL
  rw [List.mem_filter, List.mem_range]
theorem pkL_nd {P : Nat → Bool} : (pkL P n).Nodup := List.Nodup.sublist List.filter_sublist List.nodup_range
theorem pkL_sm {P : Nat → Bool} : ∀ n, (pkL P n).length = sm (fun v => if P v = true then 1 else 0) n
  | 0 => rfl
  | n + 1 => by
    have ih := pkL_sm (P := P) n
    rw [pkL_s]
    show _ = sm (fun v => if P v = true then 1 else 0) n + (if P n = true then 1 else 0)
    by_cases c : P n = true
    · rw [if_pos c, if_pos c, List.length_append, List.length_singleton, ih]
    · rw [if_neg c, if_neg c, ih, Nat.add_zero]
theorem sm_one : ∀ m, sm (fun _ => 1) m = m
  | 0 => rfl
  | m + 1 => by
    show sm (fun _ => 1) m + 1 = _
    rw [sm_one m]
/-- all of a list are told: each has a teller of its own -/
theorem mt_full {L : List Nat} (hd : L.Nodup) (h : MT (tE f K L) L.length) : ∃ p : Nat → Nat, (∀ v, v ∈ L → bt (f v) (p v) = true ∧ bt K (p v) = true) ∧ ∀ v w, v ∈ L → w ∈ L → p v = p w → v = w := by
  obtain ⟨s, t, h1, h2⟩ := h
  have hs : ∀ i, i < L.length → s i < L.length := fun i hi => (tE_i.mp (h1 i hi).2.2).1
  have sur : ∀ a, a < L.length → ∃ i, i < L.length ∧ s i = a := by
    intro a ha
    apply Classical.byContradiction
    intro c
    have := sm_inj (P := fun _ => true) (Q := fun y => !decide (a = y)) (g := s) (n := L.length) (m := L.length) (fun i hi _ => ⟨hs i hi, by
      rw [decide_eq_false (fun e => c ⟨i, hi, e.symm⟩)]
      rfl⟩) (fun i j hi hj _ _ e => by
      rcases Nat.lt_trichotomy i j with q | q | q
      · exact absurd e (h2 i j q hj).1
      · exact q
      · exact absurd e.symm (h2 j i q hi).1)
    have e1 : sm (fun x => if (fun _ : Nat => true) x = true then 1 else 0) L.length = L.length := (sm_congr (G := fun _ => 1) (fun k _ => if_pos rfl)).trans (sm_one _)
    have e2 : sm (fun y => if (fun y => !decide (a = y)) y = true then 1 else 0) L.length + sm (fun k => if a = k then 1 else 0) L.length = L.length := by
      rw [← sm_add]
      refine (sm_congr (G := fun _ => 1) (fun k _ => ?_)).trans (sm_one _)
      by_cases d : a = k
      · rw [if_pos d]
        simp [d]
      · rw [if_neg d]
        simp [d]
    rw [sm_point ha] at e2
    rw [e1] at this
    have this : L.length ≤ sm (fun y => if (fun y => !decide (a = y)) y = true then 1 else 0) L.length := this
    omega
  obtain ⟨p, hp'⟩ : ∃ p : Nat → Nat, ∀ v, v ∈ L → ∃ i, i < L.length ∧ L.getD (s i) 0 = v ∧ p v = t i := Classical.axiomOfChoice (r := fun v y => v ∈ L → ∃ i, i < L.length ∧ L.getD (s i) 0 = v ∧ y = t i) (fun v => by
    by_cases c : v ∈ L
    · obtain ⟨a, a1, a2⟩ := gx_ex c
      obtain ⟨i, i1, i2⟩ := sur a a1
      exact ⟨t i, fun _ => ⟨i, i1, by rw [i2]; exact a2, rfl⟩⟩
    · exact ⟨0, fun z => absurd z c⟩)
  refine ⟨p, fun v hv => ?_, fun v w hv hw e => ?_⟩
  · obtain ⟨i, i1, i2, i3⟩ := hp' v hv
    have := (tE_i.mp (h1 i i1).2.2).2
    rw [i2, ← i3] at this
    exact this
  · obtain ⟨i, i1, i2, i3⟩ := hp' v hv
    obtain ⟨j, j1, j2, j3⟩ := hp' w hw
    have hij : i = j := by
      rcases Nat.lt_trichotomy i j with q | q | q
      · have := (h2 i j q j1).2
        rw [← i3, ← j3] at this
        exact absurd e this
      · exact q
      · have := (h2 j i q i1).2
        rw [← i3, ← j3] at this
        exact absurd e.symm this
    subst hij
    rw [← i2, ← j2]
theorem tE_sub {L1 L2 : List Nat} {k : Nat} (hd : L1.Nodup) (h2 : L2.length ≤ 24) (h1 : L1.length ≤ 24) (sub : ∀ v, v ∈ L1 → v ∈ L2) : (MT (tE f K L1) k → MT (tE f K L2) k) ∧ (VC (tE f K L2) k → VC (tE f K L1) k) := by
  obtain ⟨φ, hφ⟩ : ∃ φ : Nat → Nat, ∀ i, i < L1.length → φ i < L2.length ∧ L2.getD (φ i) 0 = L1.getD i 0 := Classical.axiomOfChoice (r := fun i y => i < L1.length → y < L2.length ∧ L2.getD y 0 = L1.getD i 0) (fun i => by
    by_cases c : i < L1.length
    · obtain ⟨a, a1, a2⟩ := gx_ex (sub _ (gx_in c))
      exact ⟨a, fun _ => ⟨a1, a2⟩⟩
    · exact ⟨0, fun z => absurd z c⟩)
  have inj : ∀ i j, i < L1.length → j < L1.length → φ i = φ j → i = j := fun i j hi hj e => gx_inj hd hi hj (by rw [← (hφ i hi).2, ← (hφ j hj).2, e])
  have tr : ∀ i y, tE f K L1 i y = true → tE f K L2 (φ i) y = true := by
    intro i y h
    obtain ⟨a1, a2, a3⟩ := tE_i.mp h
    exact tE_i.mpr ⟨(hφ i a1).1, by rw [(hφ i a1).2]; exact a2, a3⟩
  constructor
  · rintro ⟨s, t, a1, a2⟩
    refine ⟨fun i => φ (s i), t, fun i hi => ?_, fun i j hij hj => ⟨fun e => ?_, (a2 i j hij hj).2⟩⟩
    · obtain ⟨b1, b2, b3⟩ := a1 i hi
      have hl := (tE_i.mp b3).1
      exact ⟨by have := (hφ _ hl).1; show φ (s i) < 24; omega, b2, tr _ _ b3⟩
    · exact (a2 i j hij hj).1 (inj _ _ (tE_i.mp (a1 i (by omega)).2.2).1 (tE_i.mp (a1 j hj).2.2).1 e)
  · rintro ⟨A, B, a1, a2⟩
    refine ⟨fun i => decide (i < L1.length) && A (φ i), B, ?_, fun i y hi hy e => ?_⟩
    · have := sm_inj (P := fun i => decide (i < L1.length) && A (φ i)) (Q := A) (g := φ) (n := 24) (m := 24) (fun i hi hP => by
        have hP' := Bool.and_eq_true_iff.mp hP
        exact ⟨by have := (hφ i (of_decide_eq_true hP'.1)).1; omega, hP'.2⟩) (fun i j hi hj hPi hPj e => inj i j (of_decide_eq_true (Bool.and_eq_true_iff.mp hPi).1) (of_decide_eq_true (Bool.and_eq_true_iff.mp hPj).1) e)
      show sm (fun i => if (decide (i < L1.length) && A (φ i)) = true then 1 else 0) 24 + _ ≤ k
      omega
    · have hl := (tE_i.mp e).1
      rcases a2 (φ i) y (by have := (hφ i hl).1; omega) hy (tr i y e) with g | g
      · exact Or.inl (by show (decide (i < L1.length) && A (φ i)) = true; rw [decide_eq_true hl, g]; rfl)
      · exact Or.inr g
theorem mk_mask (P : Nat → Prop) (h : ∀ v, P v → v < 32) : ∃ s : Int32, ∀ v, bt s v = true ↔ P v := by
  have : ∀ m, m ≤ 32 → ∃ s : Int32, ∀ v, bt s v = true ↔ v < m ∧ P v := by
    intro m
    induction m with
    | zero => intro _; exact ⟨0, fun v => ⟨fun z => absurd z (by rw [b_0]; decide), fun z => absurd z.1 (Nat.not_lt_zero _)⟩⟩
    | succ m ih =>
      intro hm
      obtain ⟨s, hs⟩ := ih (by omega)
      by_cases c : P m
      · refine ⟨s ||| lf_shl 1 (nI m), fun v => ?_⟩
        rw [tk_on (by omega), hs v]
        constructor
        · rintro (z | z)
          · exact ⟨by omega, z.2⟩
          · subst z; exact ⟨by omega, c⟩
        · rintro ⟨z1, z2⟩
          by_cases d : v = m
          · exact Or.inr d
          · exact Or.inl ⟨by omega, z2⟩
      · refine ⟨s, fun v => ?_⟩
        rw [hs v]
        constructor
        · rintro ⟨z1, z2⟩
          exact ⟨by omega, z2⟩
        · rintro ⟨z1, z2⟩
          refine ⟨?_, z2⟩
          rcases Nat.lt_or_ge v m with d | d
          · exact d
          · have : v = m := by omega
            subst this
            exact absurd z2 c
  obtain ⟨s, hs⟩ := this 32 (Nat.le_refl _)
  exact ⟨s, fun v => ⟨fun z => ((hs v).mp z).2, fun z => (hs v).mpr ⟨h v z, z⟩⟩⟩
/-- a round of the model -/
def NxS (f : Nat → Int32) (n : Nat) (x s : Int32) (k : Nat) : Prop := ¬ s = 0 ∧ (∀ v, bt s v = true → v < n ∧ ¬ bt x v = true) ∧ i_pc s = k ∧ MT (tE f x (pkL (fun j => bt s j) n)) (pkL (fun j => bt s j) n).length
def NxM (f : Nat → Int32) (n : Nat) (x y : Int32) : Prop := (x = al n ∧ y = al n) ∨ (¬ x = al n ∧ ∃ s k, MT (tE f x (pkL (fun j => !bt x j) n)) k ∧ VC (tE f x (pkL (fun j => !bt x j) n)) k ∧ NxS f n x s k ∧ y = x ||| s)
theorem NxM_1 (x y : Int32) (hx : tkO n x) (h : NxM f n x y) : ∃ A, TS (fun v p => bt (f v) p) n (bt x) A ∧ ∀ v, bt y v = true ↔ bt x v = true ∨ A v = true := by
  rcases h with ⟨h1, h2⟩ | ⟨h1, s, k, h2, h3, ⟨h4, h5, h6, h7⟩, h8⟩
  · refine ⟨fun _ => false, ⟨fun v z => absurd z Bool.false_ne_true, id, fun v z => absurd z Bool.false_ne_true, fun v w z => absurd z Bool.false_ne_true⟩, fun v => ?_⟩
    rw [h1, h2]
    exact ⟨Or.inl, fun z => by
      rcases z with z | z
      · exact z
      · cases z⟩
  · obtain ⟨p, p1, p2⟩ := mt_full pkL_nd h7
    have hm : ∀ v, bt s v = true → v ∈ pkL (fun j => bt s j) n := fun v hv => pkL_mem.mpr ⟨(h5 v hv).1, hv⟩
    refine ⟨bt s, ⟨h5, p, fun v hv => ⟨(p1 v (hm v hv)).2, (p1 v (hm v hv)).1⟩, fun v w hv hw e => p2 v w (hm v hv) (hm w hw) e⟩, fun v => ?_⟩
    rw [h8, b_or_iff]
theorem NxM_2 (hn : n ≤ 24) (hw : gw f n) (hJ : dS f (al n) 23 = 0) (x : Int32) (A : Nat → Bool) (hx : tkO n x) (hx0 : ¬ x = 0) (h : TS (fun v p => bt (f v) p) n (bt x) A) : ∃ y, NxM f n x y ∧ ∀ v, bt x v = true ∨ A v = true → bt y v = true := by
  obtain ⟨a1, p, a2, a3⟩ := h
  by_cases hal : x = al n
  · refine ⟨al n, Or.inl ⟨hal, rfl⟩, fun v hv => ?_⟩
    rcases hv with z | z
    · rw [← hal]; exact z
    · exact (al_in hn).mpr (a1 v z).1
  have d1 : ∀ v, v ∈ pkL A n ↔ A v = true := fun v => by
    rw [pkL_mem]
    exact ⟨fun z => z.2, fun z => ⟨(a1 v z).1, z⟩⟩
  have d2 : ∀ v, v ∈ pkL (fun v => !bt x v && !A v) n ↔ v < n ∧ ¬ bt x v = true ∧ ¬ A v = true := fun v => by
    rw [pkL_mem, Bool.and_eq_true]
    cases bt x v <;> cases A v <;> simp
  have d0 : ∀ v, v ∈ pkL (fun j => !bt x j) n ↔ v < n ∧ ¬ bt x v = true := fun v => by
    rw [pkL_mem]
    cases bt x v <;> simp
  generalize hLA : pkL A n = LA at d1
  generalize hLB : pkL (fun v => !bt x v && !A v) n = LB at d2
  have ndA : LA.Nodup := by rw [← hLA]; exact pkL_nd
  have ndB : LB.Nodup := by rw [← hLB]; exact pkL_nd
  have nd : (LA ++ LB).Nodup := List.nodup_append.mpr ⟨ndA, ndB, fun u hu w hw e => by
    subst e
    exact ((d2 u).mp hw).2.2 ((d1 u).mp hu)⟩
  have hlen : (LA ++ LB).length ≤ 24 := by
    rw [List.length_append, ← hLA, ← hLB, pkL_sm, pkL_sm, ← sm_add]
    have := sm_le (F := fun k => (if A k = true then 1 else 0) + (if (fun v => !bt x v && !A v) k = true then 1 else 0)) (G := fun _ => 1) (n := n) (fun k _ => by
      (try dsimp only)
      by_cases c : A k = true
      · rw [if_pos c, if_neg (by rw [c, Bool.not_true, Bool.and_false]; decide)]
        exact Nat.le_refl _
      · rw [if_neg c]
        split <;> omega)
    rw [sm_one] at this
    exact Nat.le_trans this hn
  have hmem : ∀ v, v ∈ LA ++ LB ↔ v ∈ pkL (fun j => !bt x j) n := by
    intro v
    rw [List.mem_append, d1, d2, d0]
    constructor
    · rintro (z | z)
      · exact a1 v z
      · exact ⟨z.1, z.2.1⟩
    · intro z
      by_cases c : A v = true
      · exact Or.inl c
      · exact Or.inr ⟨z.1, z.2, c⟩
  have hleft : ∀ i, i < LA.length → (LA ++ LB).getD i 0 = LA.getD i 0 := fun i hi => by
    rw [List.getD_eq_getElem?_getD, List.getD_eq_getElem?_getD, List.getElem?_append_left hi]
  have hlA : LA.length ≤ (LA ++ LB).length := by rw [List.length_append]; omega
  obtain ⟨mt0, hmt⟩ : ∃ mt0 : Nat → Nat, ∀ y, (mt0 y = 99 ∧ ∀ v, A v = true → p v ≠ y) ∨ (mt0 y < LA.length ∧ A (LA.getD (mt0 y) 0) = true ∧ p (LA.getD (mt0 y) 0) = y) := Classical.axiomOfChoice (r := fun y i => (i = 99 ∧ ∀ v, A v = true → p v ≠ y) ∨ (i < LA.length ∧ A (LA.getD i 0) = true ∧ p (LA.getD i 0) = y)) (fun y => by
    by_cases c : ∃ v, A v = true ∧ p v = y
    · obtain ⟨v, c1, c2⟩ := c
      obtain ⟨i, i1, i2⟩ := gx_ex ((d1 v).mpr c1)
      exact ⟨i, Or.inr ⟨i1, by rw [i2]; exact c1, by rw [i2]; exact c2⟩⟩
    · exact ⟨99, Or.inl ⟨rfl, fun v hv e => c ⟨v, hv, e⟩⟩⟩)
  have hmt2 : ∀ y, mt0 y ≠ 99 → mt0 y < LA.length ∧ A (LA.getD (mt0 y) 0) = true ∧ p (LA.getD (mt0 y) 0) = y := fun y hy => (hmt y).resolve_left (fun z => hy z.1)
  obtain ⟨mt', D, Z, g1, g2, g3⟩ := mt_grow (m0 := (LA ++ LB).length) (G := fun i => if i < (LA ++ LB).length then f ((LA ++ LB).getD i 0) &&& x else 0) (i := LA.length) (mt := mt0) hlen hlA (fun i y z => (tE_i.mp (show tE f x (LA ++ LB) i y = true from z)).1) (by
    refine ⟨fun y hy h99 => ?_, fun y z hy hz h99 e => ?_, fun _ z => absurd z Bool.false_ne_true, fun _ _ _ z => absurd z Bool.false_ne_true, fun _ _ z => absurd z Bool.false_ne_true, fun i hi => Or.inl ?_⟩
    · obtain ⟨b1, b2, b3⟩ := hmt2 y h99
      refine ⟨b1, ?_⟩
      show tE f x (LA ++ LB) (mt0 y) y = true
      refine tE_i.mpr ⟨by omega, ?_, ?_⟩
      · rw [hleft _ b1]
        have := (a2 _ b2).2
        rw [b3] at this
        exact this
      · have := (a2 _ b2).1
        rw [b3] at this
        exact this
    · obtain ⟨b1, b2, b3⟩ := hmt2 y h99
      obtain ⟨c1, c2, c3⟩ := hmt2 z (e ▸ h99)
      rw [← b3, ← c3, e]
    · have hv := (d1 _).mp (gx_in hi)
      refine ⟨p (LA.getD i 0), by have := hx _ (a2 _ hv).1; omega, ?_⟩
      rcases hmt (p (LA.getD i 0)) with z | ⟨c1, c2, c3⟩
      · exact absurd rfl (z.2 _ hv)
      · exact gx_inj ndA c1 hi (a3 _ _ c2 hv c3))
  have g2 : VC (tE f x (LA ++ LB)) (mtn mt') := g2
  have g1 : AI (tE f x (LA ++ LB)) (LA ++ LB).length (LA ++ LB).length mt' D Z := g1
  have gM : MT (tE f x (LA ++ LB)) (mtn mt') := g1.mt hlen
  obtain ⟨e1, e2, -⟩ := g1
  have hl0 : (pkL (fun j => !bt x j) n).length ≤ 24 := Nat.le_trans pkL_le hn
  have kM := (tE_sub (f := f) (K := x) (k := mtn mt') nd hl0 hlen (fun v z => (hmem v).mp z)).1 gM
  have kV := (tE_sub (f := f) (K := x) (k := mtn mt') (L1 := pkL (fun j => !bt x j) n) pkL_nd hlen hl0 (fun v z => (hmem v).mpr z)).2 g2
  have hin : ∀ y, y < 24 → mt' y ≠ 99 → (LA ++ LB).getD (mt' y) 0 < n ∧ ¬ bt x ((LA ++ LB).getD (mt' y) 0) = true := fun y hy h99 => (d0 _).mp ((hmem _).mp (gx_in (e1 y hy h99).1))
  obtain ⟨s, hs⟩ := mk_mask (fun v => ∃ y, y < 24 ∧ mt' y ≠ 99 ∧ (LA ++ LB).getD (mt' y) 0 = v) (fun v ⟨y, y1, y2, y3⟩ => by have := (hin y y1 y2).1; omega)
  obtain ⟨q, hq⟩ : ∃ q : Nat → Nat, ∀ v, bt s v = true → q v < 24 ∧ mt' (q v) ≠ 99 ∧ (LA ++ LB).getD (mt' (q v)) 0 = v := Classical.axiomOfChoice (r := fun v y => bt s v = true → y < 24 ∧ mt' y ≠ 99 ∧ (LA ++ LB).getD (mt' y) 0 = v) (fun v => by
    by_cases c : bt s v = true
    · obtain ⟨y, hy⟩ := (hs v).mp c
      exact ⟨y, fun _ => hy⟩
    · exact ⟨0, fun z => absurd z c⟩)
  have hsn : ∀ v, bt s v = true → v < n ∧ ¬ bt x v = true := fun v hv => by
    obtain ⟨y, y1, y2, y3⟩ := (hs v).mp hv
    rw [← y3]
    exact hin y y1 y2
  have hpc : i_pc s = mtn mt' := by
    have em : mtn mt' = sm (fun y => if (fun y => decide (mt' y ≠ 99)) y = true then 1 else 0) 24 := sm_congr (fun y _ => by
      by_cases c : mt' y = 99
      · rw [if_pos c, if_neg (by simp [c])]
      · rw [if_neg c, if_pos (decide_eq_true c)])
    rw [em, i_pc_sm]
    apply Nat.le_antisymm
    · exact sm_inj (P := fun v => bt s v) (Q := fun y => decide (mt' y ≠ 99)) (g := q) (n := 32) (m := 24) (fun v _ hv => ⟨(hq v hv).1, decide_eq_true (hq v hv).2.1⟩) (fun v w _ _ hv hw e => by rw [← (hq v hv).2.2, ← (hq w hw).2.2, e])
    · refine sm_inj (P := fun y => decide (mt' y ≠ 99)) (Q := fun v => bt s v) (g := fun y => (LA ++ LB).getD (mt' y) 0) (n := 24) (m := 32) (fun y hy h99 => ?_) (fun y z hy hz hy9 hz9 e => ?_)
      · have h99 := of_decide_eq_true h99
        exact ⟨by have := (hin y hy h99).1; show (LA ++ LB).getD (mt' y) 0 < 32; omega, (hs _).mpr ⟨y, hy, h99, rfl⟩⟩
      · have hy9 := of_decide_eq_true hy9
        have hz9 := of_decide_eq_true hz9
        exact e2 y z hy hz hy9 (gx_inj nd (e1 y hy hy9).1 (e1 z hz hz9).1 e)
  refine ⟨x ||| s, Or.inr ⟨hal, s, mtn mt', kM, kV, ⟨fun e => ?_, hsn, hpc, ?_⟩, rfl⟩, fun v hv => ?_⟩
  · obtain ⟨a, ha⟩ : ∃ a, bt x a = true := Classical.byContradiction fun z => hx0 (b_nothing.mpr (fun i hi => z ⟨i, hi⟩))
    obtain ⟨b, hb, hbx⟩ : ∃ b, b < n ∧ ¬ bt x b = true := by
      apply Classical.byContradiction
      intro z
      exact hal (b_eq (fun i => ⟨fun q => (al_in hn).mpr (hx i q), fun q => Classical.byContradiction fun y => z ⟨i, (al_in hn).mp q, y⟩⟩))
    obtain ⟨v, y, v1, v2, v3, v4⟩ := tk_out hn hw hJ ha (hx a ha) _ b hb hbx (Nat.le_refl _)
    obtain ⟨i, i1, i2⟩ := gx_ex ((hmem v).mpr ((d0 v).mpr ⟨v1, v2⟩))
    have m1 : MT (tE f x (LA ++ LB)) 1 := ⟨fun _ => i, fun _ => y, fun _ _ => ⟨show i < 24 by omega, show y < 24 by have := hx y v3; omega, tE_i.mpr ⟨i1, by rw [i2]; exact v4, v3⟩⟩, fun i j hij hj => by omega⟩
    have := mt_vc m1 g2
    rw [e, i_pc_0] at hpc
    omega
  · have hl : (pkL (fun j => bt s j) n).length ≤ 24 := Nat.le_trans pkL_le hn
    have hb : ∀ i, i < (pkL (fun j => bt s j) n).length → bt s ((pkL (fun j => bt s j) n).getD i 0) = true := fun i hi => (pkL_mem.mp (gx_in hi)).2
    refine ⟨fun i => i, fun i => q ((pkL (fun j => bt s j) n).getD i 0), fun i hi => ?_, fun i j hij hj => ⟨fun e => by have e : i = j := e; omega, fun e => ?_⟩⟩
    · obtain ⟨q1, q2, q3⟩ := hq _ (hb i hi)
      have := tE_i.mp (e1 _ q1 q2).2
      rw [q3] at this
      exact ⟨show i < 24 by omega, q1, tE_i.mpr ⟨hi, this.2⟩⟩
    · have e : q ((pkL (fun j => bt s j) n).getD i 0) = q ((pkL (fun j => bt s j) n).getD j 0) := e
      have q1 := (hq _ (hb i (by omega))).2.2
      have q2 := (hq _ (hb j hj)).2.2
      rw [e] at q1
      have := gx_inj pkL_nd (by omega) hj (q1.symm.trans q2)
      omega
  · rw [b_or_iff]
    rcases hv with z | z
    · exact Or.inl z
    · refine Or.inr ((hs v).mpr ?_)
      obtain ⟨i, i1, i2⟩ := gx_ex ((d1 v).mpr z)
      obtain ⟨y, y1, y2⟩ := g3 i i1
      exact ⟨y, y1, by omega, by rw [y2, hleft i i1]; exact i2⟩
end TX
