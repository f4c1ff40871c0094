/-! the model's isMatched, matches -/
section IM
variable {cs : Nat × Nat} {N n x : Nat} {G : Nat → Int32} {mt : Nat → Nat} {D Z : Nat → Bool}
def BS (σ : hp_S) (q : Nat → Nat) (k : Nat) (tr : Nat → Nat) (S : Int32) : Prop := (∀ i, i < k → σ.1 113 i = nI (q i)) ∧ (∀ i, i < k → σ.1 112 (q i) = nI (tr (q i))) ∧ ∀ y, bt S y = true ↔ ∃ i, i < k ∧ q i = y
theorem BT.k24 {E : Nat → Nat → Bool} {k : Nat} {q tr : Nat → Nat} (h : BT E n x k q tr mt) : k ≤ 24 := inj_le h.2.1 h.1
theorem BT.add {E : Nat → Nat → Bool} {k y z : Nat} {q tr : Nat → Nat} (h : BT E n x k q tr mt) (hy : y < 24) (hnew : ∀ i, i < k → q i ≠ y) (hz : z < n) (hE : E z y = true) (hp9 : z = x ∨ ∃ i', i' < k ∧ mt (q i') = z) : BT E n x (k + 1) (qup q k y) (svA tr y z) mt := by
  obtain ⟨h1, h2, h3, h4⟩ := h
  have hq : ∀ i, i < k → qup q k y i = q i := fun i hi => qup_ne (by omega)
  have ht : ∀ i, i < k → svA tr y z (q i) = tr (q i) := fun i hi => svA_ne (hnew i hi)
  refine ⟨fun i hi => ?_, fun i j hij hj => ?_, fun i hi => ?_, fun i hi => ?_⟩
  · by_cases c : i = k
    · rw [c, qup_at]; exact hy
    · rw [hq i (by omega)]; exact h1 i (by omega)
  · rw [hq i (by omega)]
    by_cases c : j = k
    · rw [c, qup_at]; exact hnew i (by omega)
    · rw [hq j (by omega)]; exact h2 i j hij (by omega)
  · by_cases c : i = k
    · rw [c, qup_at, svA_at]; exact ⟨hz, hE⟩
    · rw [hq i (by omega), ht i (by omega)]; exact h3 i (by omega)
  · by_cases c : i = k
    · rw [c, qup_at, svA_at]
      rcases hp9 with g | ⟨i', g1, g2⟩
      · exact Or.inl g
      · exact Or.inr ⟨i', g1, by rw [hq i' g1]; exact g2⟩
    · rw [hq i (by omega), ht i (by omega)]
      rcases h4 i (by omega) with g | ⟨i', g1, g2⟩
      · exact Or.inl g
      · exact Or.inr ⟨i', g1, by rw [hq i' (by omega)]; exact g2⟩
theorem BS.add {σ : hp_S} {k y z : Nat} {q tr : Nat → Nat} {S : Int32} (h : BS σ q k tr S) (hy : y < 24) (hnew : ∀ i, i < k → q i ≠ y) : BS (hp_wi (hp_wi σ 113 k (nI y)) 112 y (nI z)) (qup q k y) (k + 1) (svA tr y z) (S ||| lf_shl 1 (nI y)) := by
  obtain ⟨h1, h2, h3⟩ := h
  have hq : ∀ i, i < k → qup q k y i = q i := fun i hi => qup_ne (by omega)
  refine ⟨fun i hi => ?_, fun i hi => ?_, fun w => ?_⟩
  · rw [hp_wi_ne (by decide)]
    by_cases c : i = k
    · rw [c, hp_wi_at, qup_at]
    · rw [hp_wi_nj c, hq i (by omega)]; exact h1 i (by omega)
  · by_cases c : i = k
    · rw [c, qup_at, hp_wi_at, svA_at]
    · rw [hq i (by omega), hp_wi_nj (hnew i (by omega)), hp_wi_ne (by decide), svA_ne (hnew i (by omega))]; exact h2 i (by omega)
  · rw [b_or_iff, b_one (by omega), h3 w]
    constructor
    · rintro (⟨i, i1, i2⟩ | g)
      · exact ⟨i, by omega, by rw [hq i i1]; exact i2⟩
      · exact ⟨k, by omega, by rw [qup_at, g]⟩
    · rintro ⟨i, i1, i2⟩
      by_cases c : i = k
      · rw [c, qup_at] at i2; exact Or.inr i2.symm
      · rw [hq i (by omega)] at i2; exact Or.inl ⟨i, by omega, i2⟩
theorem m_e8 (hn : n ≤ 24) (hx : x < n) : ∀ (m v u k : Nat) (q tr : Nat → Nat) (S : Int32) (σ : hp_S), v + m = 24 → m < u → BT (fun a b => bt (G a) b) n x k q tr mt → BS σ q k tr S → (∀ i, i < k → q i < v) → (∀ y, y < v → bt (G x) y = true → bt S y = true) → (∀ a, a < n → σ.1 110 a = G a) → ∃ τ q' k' tr' S', fr [112, 113] [] σ τ ∧ BT (fun a b => bt (G a) b) n x k' q' tr' mt ∧ BS τ q' k' tr' S' ∧ (∀ y, y < 24 → bt (G x) y = true → bt S' y = true) ∧ g277_8 N u 72 (nI x) S (nI k) (nI v) (hp σ, cs) = g277_68 N N 72 (nI x) S' (nI k') 0 (hp τ, cs) := by
  intro m
  induction m with
  | zero =>
    intro v u k q tr S σ hv hu hB hS hq hc h110
    obtain ⟨u, rfl⟩ : ∃ q, u = q + 1 := ⟨u - 1, by omega⟩
    refine ⟨σ, q, k, tr, S, fr.rf, hB, hS, fun y hy => hc y (by omega), ?_⟩
    unfold g277_8
    rw [if_pos (show (24 : Int32) ≤ nI v from nI_le (a := 24) (by omega) (by omega))]
  | succ m ih =>
    intro v u k q tr S σ hv hu hB hS hq hc h110
    obtain ⟨u, rfl⟩ : ∃ q, u = q + 1 := ⟨u - 1, by omega⟩
    unfold g277_8 g277_59
    rw [if_neg (show ¬ (24 : Int32) ≤ nI v from nI_ge (b := 24) (by omega) (by omega)), r72_68, a110 (by omega), h110 x hx, sh_bit (by omega)]
    by_cases c : bt (G x) v = true
    · have hnew : ∀ i, i < k → q i ≠ v := fun i hi e => by have := hq i hi; omega
      have hB2 := hB.add (y := v) (z := x) (by omega) hnew hx c (Or.inl rfl)
      have hk := hB2.k24
      obtain ⟨τ, q', k', tr', S', p1, p2, p3, p4, p5⟩ := ih (v + 1) u (k + 1) (qup q k v) (svA tr v x) (S ||| lf_shl 1 (nI v)) (hp_wi (hp_wi σ 113 k (nI v)) 112 v (nI x)) (by omega) (by omega) hB2 (hS.add (by omega) hnew) (fun i hi => by
        by_cases e : i = k
        · rw [e, qup_at]; omega
        · rw [qup_ne e]; have := hq i (by omega); omega) (fun y hy h => by
        rw [b_or_iff, b_one (by omega)]
        by_cases e : y = v
        · exact Or.inr e
        · exact Or.inl (hc y (by omega) h)) (fun a ha => by rw [hp_wi_ne (by decide), hp_wi_ne (by decide)]; exact h110 a ha)
      refine ⟨τ, q', k', tr', S', ((fr.wi (by decide)).tr (fr.wi (by decide))).tr p1, p2, p3, p4, ?_⟩
      rw [if_pos c, if_pos (by decide), r72_71, b113 (by omega), r72_70, b112 (by omega), nI_1, nI_1]
      exact p5
    · obtain ⟨τ, q', k', tr', S', p1, p2, p3, p4, p5⟩ := ih (v + 1) u k q tr S σ (by omega) (by omega) hB hS (fun i hi => by have := hq i hi; omega) (fun y hy h => by
        by_cases e : y = v
        · rw [e] at h; exact absurd h c
        · exact hc y (by omega) h) h110
      refine ⟨τ, q', k', tr', S', p1, p2, p3, p4, ?_⟩
      rw [if_neg c, if_neg (fun z => z rfl), nI_1]
      exact p5
theorem m_e116 {i : Nat} (hn : n ≤ 24) {k68 : Nat → Int32 → Int32 → Int32 → Int32 → lf_W → lf_R} : ∀ (m v u k : Nat) (q tr : Nat → Nat) (S : Int32) (σ : hp_S), v + m = 24 → m < u → i < k → mt (q i) < n → BT (fun a b => bt (G a) b) n x k q tr mt → BS σ q k tr S → (∀ y, y < v → bt (G (mt (q i))) y = true → bt S y = true) → (∀ a, a < n → σ.1 110 a = G a) → ∃ τ q' k' tr' S', fr [112, 113] [] σ τ ∧ BT (fun a b => bt (G a) b) n x k' q' tr' mt ∧ BS τ q' k' tr' S' ∧ k ≤ k' ∧ (∀ j, j < k → q' j = q j) ∧ (∀ y, bt S y = true → bt S' y = true) ∧ (∀ y, y < 24 → bt (G (mt (q i))) y = true → bt S' y = true) ∧ g277_116 N k68 u 72 (nI x) S (nI k) (nI i) (nI (mt (q i))) (nI v) (hp σ, cs) = k68 72 (nI x) S' (nI k') (nI (i + 1)) (hp τ, cs) := by
  intro m
  induction m with
  | zero =>
    intro v u k q tr S σ hv hu hi hm hB hS hc h110
    obtain ⟨u, rfl⟩ : ∃ q, u = q + 1 := ⟨u - 1, by omega⟩
    refine ⟨σ, q, k, tr, S, fr.rf, hB, hS, Nat.le_refl _, fun _ _ => rfl, fun _ h => h, fun y hy => hc y (by omega), ?_⟩
    unfold g277_116
    rw [if_pos (show (24 : Int32) ≤ nI v from nI_le (a := 24) (by omega) (by omega)), nI_1]
  | succ m ih =>
    intro v u k q tr S σ hv hu hi hm hB hS hc h110
    obtain ⟨u, rfl⟩ : ∃ q, u = q + 1 := ⟨u - 1, by omega⟩
    unfold g277_116 g277_179
    rw [if_neg (show ¬ (24 : Int32) ≤ nI v from nI_ge (b := 24) (by omega) (by omega)), r72_68, a110 (by omega), h110 _ hm, sh_bit (by omega), sh_bit (by omega)]
    by_cases c : bt (G (mt (q i))) v = true
    · rw [if_pos c, if_neg (c := (1 : Int32) = 0) (by decide)]
      by_cases c2 : bt S v = true
      · obtain ⟨τ, q', k', tr', S', p1, p2, p3, p4, p5, p6, p7, p8⟩ := ih (v + 1) u k q tr S σ (by omega) (by omega) hi hm hB hS (fun y hy h => by
          by_cases e : y = v
          · rw [e]; exact c2
          · exact hc y (by omega) h) h110
        refine ⟨τ, q', k', tr', S', p1, p2, p3, p4, p5, p6, p7, ?_⟩
        rw [if_pos c2, if_neg (fun z => z rfl), nI_1]
        exact p8
      · have hnew : ∀ j, j < k → q j ≠ v := fun j hj e => c2 ((hS.2.2 v).mpr ⟨j, hj, e⟩)
        have hB2 := hB.add (y := v) (z := mt (q i)) (by omega) hnew hm c (Or.inr ⟨i, hi, rfl⟩)
        have hk := hB2.k24
        have eqi : qup q k v i = q i := qup_ne (by omega)
        obtain ⟨τ, q', k', tr', S', p1, p2, p3, p4, p5, p6, p7, p8⟩ := ih (v + 1) u (k + 1) (qup q k v) (svA tr v (mt (q i))) (S ||| lf_shl 1 (nI v)) (hp_wi (hp_wi σ 113 k (nI v)) 112 v (nI (mt (q i)))) (by omega) (by omega) (by omega) (by rw [eqi]; exact hm) hB2 (hS.add (by omega) hnew) (fun y hy h => by
          rw [eqi] at h
          rw [b_or_iff, b_one (by omega)]
          by_cases e : y = v
          · exact Or.inr e
          · exact Or.inl (hc y (by omega) h)) (fun a ha => by rw [hp_wi_ne (by decide), hp_wi_ne (by decide)]; exact h110 a ha)
        rw [eqi] at p7 p8
        refine ⟨τ, q', k', tr', S', ((fr.wi (by decide)).tr (fr.wi (by decide))).tr p1, p2, p3, by omega, fun j hj => by rw [p5 j (by omega), qup_ne (by omega)], fun y h => p6 y (b_or_iff.mpr (Or.inl h)), p7, ?_⟩
        rw [if_neg c2, if_pos (by decide), r72_71, b113 (by omega), r72_70, b112 (by omega), nI_1, nI_1]
        exact p8
    · obtain ⟨τ, q', k', tr', S', p1, p2, p3, p4, p5, p6, p7, p8⟩ := ih (v + 1) u k q tr S σ (by omega) (by omega) hi hm hB hS (fun y hy h => by
        by_cases e : y = v
        · rw [e] at h; exact absurd h c
        · exact hc y (by omega) h) h110
      refine ⟨τ, q', k', tr', S', p1, p2, p3, p4, p5, p6, p7, ?_⟩
      rw [if_neg c, if_pos rfl, nI_1]
      exact p8
theorem m_q68 (hn : n ≤ 24) (hN : iv_N N) (hx : x < n) (v1 : ∀ s, s < 24 → mt s ≠ 99 → mt s < n ∧ bt (G (mt s)) s = true) (v2 : ∀ s z, s < 24 → z < 24 → mt s ≠ 99 → mt s = mt z → s = z) (hD : ∀ x s, s < 24 → D x = true → bt (G x) s = true → Z s = true) (hZ : ∀ s, s < 24 → Z s = true → mt s ≠ 99 ∧ D (mt s) = true) (hno : ∀ s, s < 24 → mt s ≠ x) : ∀ (m i u k : Nat) (q tr : Nat → Nat) (S : Int32) (σ : hp_S), i + m = 24 → m < u → i ≤ k → BT (fun a b => bt (G a) b) n x k q tr mt → BS σ q k tr S → (∀ y, y < 24 → bt (G x) y = true → bt S y = true) → (∀ j, j < i → mt (q j) ≠ 99 ∧ ∀ y, y < 24 → bt (G (mt (q j))) y = true → bt S y = true) → (∀ a, a < n → σ.1 110 a = G a) → RMt σ mt → ∃ τ, fr [111, 112, 113] [] σ τ ∧ ((g277_68 N u 72 (nI x) S (nI k) (nI i) (hp σ, cs) = some (.inl (some (.int 0)), (hp τ, cs)) ∧ RMt τ mt ∧ ∃ V : Nat → Bool, (∀ s, s < 24 → bt (G x) s = true → V s = true) ∧ ∀ s, s < 24 → V s = true → mt s ≠ 99 ∧ ∀ z, z < 24 → bt (G (mt s)) z = true → V z = true) ∨ ∃ mt', g277_68 N u 72 (nI x) S (nI k) (nI i) (hp σ, cs) = some (.inl (some (.int 1)), (hp τ, cs)) ∧ RMt τ mt' ∧ SVo (fun a b => bt (G a) b) n x (fun _ => false) mt mt' D Z) := by
  have stop : ∀ (u i k : Nat) (q tr : Nat → Nat) (S : Int32) (σ : hp_S), i = k → k ≤ 24 → BS σ q k tr S → (∀ y, y < 24 → bt (G x) y = true → bt S y = true) → (∀ j, j < i → mt (q j) ≠ 99 ∧ ∀ y, y < 24 → bt (G (mt (q j))) y = true → bt S y = true) → RMt σ mt → ∃ τ, fr [111, 112, 113] [] σ τ ∧ ((g277_68 N (u + 1) 72 (nI x) S (nI k) (nI i) (hp σ, cs) = some (.inl (some (.int 0)), (hp τ, cs)) ∧ RMt τ mt ∧ ∃ V : Nat → Bool, (∀ s, s < 24 → bt (G x) s = true → V s = true) ∧ ∀ s, s < 24 → V s = true → mt s ≠ 99 ∧ ∀ z, z < 24 → bt (G (mt s)) z = true → V z = true) ∨ ∃ mt', g277_68 N (u + 1) 72 (nI x) S (nI k) (nI i) (hp σ, cs) = some (.inl (some (.int 1)), (hp τ, cs)) ∧ RMt τ mt' ∧ SVo (fun a b => bt (G a) b) n x (fun _ => false) mt mt' D Z) := by
    intro u i k q tr S σ hik hk hS hc hp9 hR
    refine ⟨σ, fr.rf, Or.inl ⟨?_, hR, fun s => bt S s, hc, fun s h1 h2 => ?_⟩⟩
    · unfold g277_68
      rw [if_pos (nI_le (by omega) (by omega))]
    · obtain ⟨j, j1, j2⟩ := (hS.2.2 s).mp h2
      have := hp9 j (by omega)
      rw [j2] at this
      exact this
  intro m
  induction m with
  | zero =>
    intro i u k q tr S σ hi hu hik hB hS hc hp9 h110 hR
    obtain ⟨u, rfl⟩ : ∃ q, u = q + 1 := ⟨u - 1, by omega⟩
    have := hB.k24
    exact stop u i k q tr S σ (by omega) this hS hc hp9 hR
  | succ m ih =>
    intro i u k q tr S σ hi hu hik hB hS hc hp9 h110 hR
    obtain ⟨u, rfl⟩ : ∃ q, u = q + 1 := ⟨u - 1, by omega⟩
    have hk24 := hB.k24
    by_cases ck : i = k
    · exact stop u i k q tr S σ ck hk24 hS hc hp9 hR
    · have hqi := hB.1 i (by omega)
      have e113 := hS.1 i (by omega)
      have e111 := hR (q i) hqi
      by_cases c : mt (q i) = 99
      · obtain ⟨τ, mt', p1, p2, p3, p4⟩ := m_gw (N := N) (cs := cs) (D := D) (Z := Z) hn hN hx hB v1 v2 hD hZ hno i N mt σ (by omega) (by unfold iv_N at hN; omega) hR hS.2.1 (Or.inl ⟨c, rfl⟩)
        refine ⟨τ, p1.wk (fun _ z => by simp at z; simp [z]) (fun _ z => z), Or.inr ⟨mt', ?_, p2, p3⟩⟩
        unfold g277_68 f278
        rw [if_neg (nI_ge (by omega) (by omega)), r72_71, a113 (by omega), e113, r72_69, a111 hqi, e111, if_pos c, if_neg (fun z => z rfl), o72, p4, lf_cv_r]
      · have hmn := (v1 (q i) hqi c).1
        obtain ⟨σ1, q', k', tr', S', p1, p2, p3, p4, p5, p6, p7, p8⟩ := m_e116 (N := N) (cs := cs) (x := x) (i := i) (k68 := g277_68 N u) hn 24 0 N k q tr S σ (by omega) (by unfold iv_N at hN; omega) (by omega) hmn hB hS (fun y hy => absurd hy (Nat.not_lt_zero _)) h110
        obtain ⟨τ, r1, r2⟩ := ih (i + 1) u k' q' tr' S' σ1 (by omega) (by omega) (by omega) p2 p3 (fun y hy h => p6 y (hc y hy h)) (fun j hj => by
          by_cases e : j = i
          · rw [e, p5 i (by omega)]; exact ⟨c, p7⟩
          · rw [p5 j (by omega)]
            have := hp9 j (by omega)
            exact ⟨this.1, fun y hy h => p6 y (this.2 y hy h)⟩) (fun a ha => by rw [p1.r (by decide)]; exact h110 a ha) (fun s hs => by rw [p1.r (by decide)]; exact hR s hs)
        have epre : g277_68 N (u + 1) 72 (nI x) S (nI k) (nI i) (hp σ, cs) = g277_68 N u 72 (nI x) S' (nI k') (nI (i + 1)) (hp σ1, cs) := by
          conv => lhs; unfold g277_68
          rw [if_neg (nI_ge (by omega) (by omega)), r72_71, a113 (by omega), e113, r72_69, a111 hqi, e111, if_neg c, if_pos (by rw [q_ne1 (by omega)]; exact id), r72_69, a111 hqi, e111, if_neg c, show (0 : Int32) = nI 0 from rfl, p8]
        refine ⟨τ, (p1.wk (fun _ z => by simp at z; rcases z with z | z <;> simp [z]) (fun _ z => z)).tr r1, ?_⟩
        rw [epre]
        exact r2
/-- isMatched -/
theorem m_im {σ : hp_S} {y : Int32} (hn : n ≤ 24) (hN : iv_N N) (hx : x < n) (v1 : ∀ s, s < 24 → mt s ≠ 99 → mt s < n ∧ bt (G (mt s)) s = true) (v2 : ∀ s z, s < 24 → z < 24 → mt s ≠ 99 → mt s = mt z → s = z) (hD : ∀ x s, s < 24 → D x = true → bt (G x) s = true → Z s = true) (hZ : ∀ s, s < 24 → Z s = true → mt s ≠ 99 ∧ D (mt s) = true) (hno : ∀ s, s < 24 → mt s ≠ x) (h110 : ∀ a, a < n → σ.1 110 a = G a) (hR : RMt σ mt) : ∃ τ, fr [111, 112, 113] [] σ τ ∧ ((f277 N 72 (nI x) y (hp σ, cs) = some (.inl (some (.int 0)), (hp τ, cs)) ∧ RMt τ mt ∧ ∃ V : Nat → Bool, (∀ s, s < 24 → bt (G x) s = true → V s = true) ∧ ∀ s, s < 24 → V s = true → mt s ≠ 99 ∧ ∀ z, z < 24 → bt (G (mt s)) z = true → V z = true) ∨ ∃ mt', f277 N 72 (nI x) y (hp σ, cs) = some (.inl (some (.int 1)), (hp τ, cs)) ∧ RMt τ mt' ∧ SVo (fun a b => bt (G a) b) n x (fun _ => false) mt mt' D Z) := by
  obtain ⟨σ1, q, k, tr, S, a1, a2, a3, a4, a5⟩ := m_e8 (N := N) (cs := cs) (G := G) (mt := mt) hn hx 24 0 N 0 (fun _ => 0) (fun _ => 0) 0 σ (by omega) (by unfold iv_N at hN; omega) ⟨fun i hi => absurd hi (Nat.not_lt_zero _), fun i j _ hj => absurd hj (Nat.not_lt_zero _), fun i hi => absurd hi (Nat.not_lt_zero _), fun i hi => absurd hi (Nat.not_lt_zero _)⟩ ⟨fun i hi => absurd hi (Nat.not_lt_zero _), fun i hi => absurd hi (Nat.not_lt_zero _), fun y => by
    rw [b_0]
    exact ⟨fun z => absurd z (by decide), fun ⟨i, hi, _⟩ => absurd hi (Nat.not_lt_zero _)⟩⟩ (fun i hi => absurd hi (Nat.not_lt_zero _)) (fun y hy => absurd hy (Nat.not_lt_zero _)) h110
  obtain ⟨τ, r1, r2⟩ := m_q68 (N := N) (cs := cs) (D := D) (Z := Z) hn hN hx v1 v2 hD hZ hno 24 0 N k q tr S σ1 (by omega) (by unfold iv_N at hN; omega) (by omega) a2 a3 a4 (fun j hj => absurd hj (Nat.not_lt_zero _)) (fun a ha => by rw [a1.r (by decide)]; exact h110 a ha) (fun s hs => by rw [a1.r (by decide)]; exact hR s hs)
  refine ⟨τ, (a1.wk (fun _ z => by simp at z; rcases z with z | z <;> simp [z]) (fun _ z => z)).tr r1, ?_⟩
  have e : f277 N 72 (nI x) y (hp σ, cs) = g277_68 N N 72 (nI x) S (nI k) (nI 0) (hp σ1, cs) := by
    unfold f277
    exact a5
  rw [e]
  exact r2
end IM
