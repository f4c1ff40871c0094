/-! the model gives way: back along the queue -/
section GW9
variable {cs : Nat × Nat} {N n x k : Nat} {E : Nat → Nat → Bool} {mt q tr : Nat → Nat} {D Z : Nat → Bool}
def RMt (σ : hp_S) (mt : Nat → Nat) : Prop := ∀ s, s < 24 → σ.1 111 s = if mt s = 99 then -1 else nI (mt s)
def Tj (q : Nat → Nat) (j : Nat) : Nat → Bool := fun s => (List.range j).any (fun i => decide (q i = s))
theorem Tj_iff {j s : Nat} : Tj q j s = true ↔ ∃ i, i < j ∧ q i = s := by
  unfold Tj
  rw [List.any_eq_true]
  constructor
  · rintro ⟨i, h1, h2⟩
    exact ⟨i, List.mem_range.mp h1, of_decide_eq_true h2⟩
  · rintro ⟨i, h1, h2⟩
    exact ⟨i, List.mem_range.mpr h1, decide_eq_true h2⟩
/-- the queue: who came to whom -/
def BT (E : Nat → Nat → Bool) (n x k : Nat) (q tr mt : Nat → Nat) : Prop := (∀ i, i < k → q i < 24) ∧ (∀ i j, i < j → j < k → q i ≠ q j) ∧ (∀ i, i < k → tr (q i) < n ∧ E (tr (q i)) (q i) = true) ∧ ∀ i, i < k → tr (q i) = x ∨ ∃ i', i' < i ∧ mt (q i') = tr (q i)
theorem m_left {y z : Nat} {mc : Nat → Nat} {σ : hp_S} (hz : z < 24) (hR : RMt σ mc) (hmc : ∀ s, s < 24 → mc s < 100) {k5 : Nat → Int32 → Int32 → Int32 → lf_W → lf_R} : ∀ (m v u : Nat) (lf : Int32), v + m = 24 → m < u → ∃ lf', (∀ u0, u0 < 24 → v ≤ u0 → mc u0 = z → (∀ s, s < 24 → mc s = z → s = u0) → lf' = nI u0) ∧ ((∀ s, v ≤ s → s < 24 → mc s ≠ z) → lf' = lf) ∧ g278_24 N k5 u 72 (nI x) (nI y) (nI z) lf (nI v) (hp σ, cs) = ((lf_fr (hp σ, cs) 72 12 69).bind fun v2 => (lf_wi (hp σ, cs) v2 (nI y) (nI z)).bind fun w4 => if nI z = nI x then (g278_72 N k5 72 (nI x) (nI y) lf' 0 w4) else (g278_72 N k5 72 (nI x) (nI y) lf' 1 w4)) := by
  intro m
  induction m with
  | zero =>
    intro v u lf hv hu
    obtain ⟨u, rfl⟩ : ∃ q, u = q + 1 := ⟨u - 1, by omega⟩
    refine ⟨lf, fun u0 h1 h2 => by omega, fun _ => rfl, ?_⟩
    unfold g278_24
    rw [if_pos (show (24 : Int32) ≤ nI v from nI_le (a := 24) (by omega) (by omega))]
  | succ m ih =>
    intro v u lf hv hu
    obtain ⟨u, rfl⟩ : ∃ q, u = q + 1 := ⟨u - 1, by omega⟩
    have hm9 := hmc v (by omega)
    by_cases c : mc v = z
    · obtain ⟨lf', a1, a2, a3⟩ := ih (v + 1) u (nI v) (by omega) (by omega)
      refine ⟨lf', fun u0 h1 h2 h3 h4 => ?_, fun h => absurd c (h v (by omega) (by omega)), ?_⟩
      · have : v = u0 := h4 v (by omega) c
        rw [← this]
        exact a2 (fun s h5 h6 h7 => by have := h4 s h6 h7; omega)
      · unfold g278_24 g278_47
        rw [if_neg (show ¬ (24 : Int32) ≤ nI v from nI_ge (b := 24) (by omega) (by omega)), r72_69, a111 (by omega), hR v (by omega), if_neg (c := mc v = 99) (by omega), if_neg (fun z => z (by rw [c])), nI_1]
        exact a3
    · obtain ⟨lf', a1, a2, a3⟩ := ih (v + 1) u lf (by omega) (by omega)
      refine ⟨lf', fun u0 h1 h2 h3 h4 => a1 u0 h1 (by
        by_cases e : u0 = v
        · rw [e] at h3; exact absurd h3 c
        · omega) h3 h4, fun h => a2 (fun s h5 h6 => h s (by omega) h6), ?_⟩
      unfold g278_24 g278_47
      rw [if_neg (show ¬ (24 : Int32) ≤ nI v from nI_ge (b := 24) (by omega) (by omega)), r72_69, a111 (by omega), hR v (by omega)]
      rw [if_pos (by
        by_cases d : mc v = 99
        · rw [if_pos d, Eq.comm, q_ne1 (by omega)]; exact id
        · rw [if_neg d, q_eq (by omega) (by omega)]; exact c), nI_1]
      exact a3
theorem m_gw (hn : n ≤ 24) (hN : iv_N N) (hx : x < n) (hB : BT E n x k q tr mt) (v1 : ∀ s, s < 24 → mt s ≠ 99 → mt s < n ∧ E (mt s) s = true) (v2 : ∀ s z, s < 24 → z < 24 → mt s ≠ 99 → mt s = mt z → s = z) (hD : ∀ x s, s < 24 → D x = true → E x s = true → Z s = true) (hZ : ∀ s, s < 24 → Z s = true → mt s ≠ 99 ∧ D (mt s) = true) (hno : ∀ s, s < 24 → mt s ≠ x) : ∀ (i u : Nat) (mc : Nat → Nat) (σ : hp_S), i < k → i + 1 < u → RMt σ mc → (∀ j, j < k → σ.1 112 (q j) = nI (tr (q j))) → ((mt (q i) = 99 ∧ mc = mt) ∨ (mt (q i) ≠ 99 ∧ SVo E n (mt (q i)) (Tj q (i + 1)) mt mc D Z)) → ∃ τ mt', fr [111] [] σ τ ∧ RMt τ mt' ∧ SVo E n x (fun _ => false) mt mt' D Z ∧ g278_5 N u 72 (nI x) (nI (q i)) 1 (hp σ, cs) = some (.inl none, (hp τ, cs)) := by
  obtain ⟨q1, q2, q3, q4⟩ := hB
  intro i
  induction i using Nat.strongRecOn with
  | ind i ih =>
    intro u mc σ hi hu hR h112 hst
    obtain ⟨u, rfl⟩ : ∃ q, u = q + 1 + 1 := ⟨u - 2, by omega⟩
    have hqi := q1 i hi
    obtain ⟨htn, htE⟩ := q3 i hi
    have hnT : ¬ Tj q i (q i) = true := by
      intro z
      obtain ⟨j, j1, j2⟩ := Tj_iff.mp z
      exact q2 j i j1 hi j2
    have hT2 : ∀ s, Tj q (i + 1) s = true ↔ Tj q i s = true ∨ s = q i := by
      intro s
      rw [Tj_iff, Tj_iff]
      constructor
      · rintro ⟨j, j1, j2⟩
        by_cases c : j = i
        · exact Or.inr (by rw [← j2, c])
        · exact Or.inl ⟨j, by omega, j2⟩
      · rintro (⟨j, j1, j2⟩ | h)
        · exact ⟨j, by omega, j2⟩
        · exact ⟨i, by omega, h.symm⟩
    have htT : ∀ s, s < 24 → mt s = tr (q i) → Tj q i s = true := by
      intro s hs e
      rcases q4 i hi with g | ⟨i', g1, g2⟩
      · exact absurd (by rw [e, g]) (hno s hs)
      · refine Tj_iff.mpr ⟨i', g1, ?_⟩
        exact (v2 s (q i') hs (q1 i' (by omega)) (by omega) (by rw [e, g2])).symm
    -- the new row
    have hnew : SVo E n (tr (q i)) (Tj q i) mt (svA mc (q i) (tr (q i))) D Z := by
      rcases hst with ⟨c, rfl⟩ | ⟨c, h⟩
      · exact SV_base hn htn hqi htE hnT c v1 v2 hD hZ htT
      · exact SV_rec hn htn hqi htE hnT c v2 hD hZ htT (Tj q (i + 1)) hT2 h
    have hmc : ∀ s, s < 24 → mc s < 100 := by
      intro s hs
      by_cases c9 : mc s = 99
      · omega
      · rcases hst with ⟨-, rfl⟩ | ⟨-, h⟩
        · have := (v1 s hs c9).1; omega
        · have := (h.2.2.2.2.2.2.2.2 s hs c9).1; omega
    obtain ⟨lf', l1, l2, l3⟩ := m_left (N := N) (cs := cs) (x := x) (y := q i) (z := tr (q i)) (σ := σ) (k5 := g278_5 N (u + 1)) (by omega) hR hmc 24 0 N (-1) (by omega) (by unfold iv_N at hN; omega)
    have hR2 : RMt (hp_wi σ 111 (q i) (nI (tr (q i)))) (svA mc (q i) (tr (q i))) := by
      intro s hs
      by_cases c : s = q i
      · rw [c, hp_wi_at, svA_at, if_neg (by omega)]
      · rw [hp_wi_nj c, svA_ne c]; exact hR s hs
    have epre : g278_5 N (u + 1 + 1) 72 (nI x) (nI (q i)) 1 (hp σ, cs) = if nI (tr (q i)) = nI x then (g278_72 N (g278_5 N (u + 1)) 72 (nI x) (nI (q i)) lf' 0 (hp (hp_wi σ 111 (q i) (nI (tr (q i)))), cs)) else (g278_72 N (g278_5 N (u + 1)) 72 (nI x) (nI (q i)) lf' 1 (hp (hp_wi σ 111 (q i) (nI (tr (q i)))), cs)) := by
      conv => lhs; unfold g278_5
      rw [if_neg (by decide), r72_70, a112 hqi, h112 i hi, show (0 : Int32) = nI 0 from rfl, l3, r72_69, b111 hqi]
      rfl
    by_cases c : tr (q i) = x
    · refine ⟨hp_wi σ 111 (q i) (nI (tr (q i))), svA mc (q i) (tr (q i)), fr.wi (by decide), hR2, ?_, ?_⟩
      · rw [c] at hnew
        rw [c]
        exact SV_weak (T3 := Tj q i) (fun s z => by cases z) (fun s h1 h2 => absurd h2 (hno s h1)) hnew
      · rw [epre, if_pos (by rw [c])]
        unfold g278_72 g278_82
        rw [if_pos rfl]
        unfold g278_5
        rw [if_pos rfl]
    · obtain ⟨i', g1, g2⟩ := (q4 i hi).resolve_left c
      have hqi' := q1 i' (by omega)
      have hlf : lf' = nI (q i') := by
        refine l1 (q i') hqi' (Nat.zero_le _) ?_ (fun s hs e => ?_)
        · rcases hst with ⟨-, rfl⟩ | ⟨-, h⟩
          · exact g2
          · rw [h.2.1 (q i') hqi' (Tj_iff.mpr ⟨i', by omega, rfl⟩)]; exact g2
        · rcases hst with ⟨-, rfl⟩ | ⟨-, h⟩
          · exact v2 s (q i') hs hqi' (by omega) (by rw [e, g2])
          · by_cases d : mc s = mt s
            · exact v2 s (q i') hs hqi' (by rw [← d, e]; omega) (by rw [← d, e, g2])
            · exfalso
              rcases h.2.2.2.2.1 s hs d with w | ⟨s0, w1, w2, w3⟩
              · have : q i' = q i := v2 (q i') (q i) hqi' hqi (by omega) (by rw [g2, ← e, w])
                exact q2 i' i g1 hi this
              · have : s0 = q i' := v2 s0 (q i') w1 hqi' (by rw [w3, e]; omega) (by rw [w3, e, g2])
                exact w2 (Tj_iff.mpr ⟨i', by omega, this.symm⟩)
      have hnext : SVo E n (mt (q i')) (Tj q (i' + 1)) mt (svA mc (q i) (tr (q i))) D Z := by
        rw [g2]
        refine SV_weak (T3 := Tj q i) (fun s z => ?_) (fun s h1 h2 => ?_) hnew
        · obtain ⟨j, j1, j2⟩ := Tj_iff.mp z
          exact Tj_iff.mpr ⟨j, by omega, j2⟩
        · exact Tj_iff.mpr ⟨i', by omega, (v2 s (q i') h1 hqi' (by omega) (by rw [h2, g2])).symm⟩
      obtain ⟨τ, mt', p1, p2, p3, p4⟩ := ih i' g1 (u + 1) (svA mc (q i) (tr (q i))) (hp_wi σ 111 (q i) (nI (tr (q i)))) (by omega) (by omega) hR2 (fun j hj => by rw [hp_wi_ne (by decide)]; exact h112 j hj) (Or.inr ⟨by omega, hnext⟩)
      refine ⟨τ, mt', (fr.wi (by decide)).tr p1, p2, p3, ?_⟩
      rw [epre, if_neg (by rw [q_eq (by omega) (by omega)]; exact c)]
      unfold g278_72 g278_82
      rw [if_neg (by decide), hlf]
      exact p4
end GW9
