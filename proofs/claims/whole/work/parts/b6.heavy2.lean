section HW
variable {cs : Nat × Nat} {N n d s : Nat} {f : Nat → Int32} {nu : Nat → Nat → Nat}
def hpi (nu : Nat → Nat → Nat) (a : Nat) : List Nat → Nat → Nat
  | [], p => p
  | b :: l, p => hpi nu a l (max p (nu a b))
def hpo (f : Nat → Int32) (nu : Nat → Nat → Nat) : Nat → Nat → Nat → Nat
  | 0, _, p => p
  | m + 1, a, p => hpo f nu m (a + 1) (hpi nu a (bl (f a)) p)
/-- a line's worst pattern, as the class finds it and as the model does -/
def PatC (N n : Nat) (f : Nat → Int32) (nu : Nat → Nat → Nat) : Prop := ∀ (σ : hp_S) (cs : Nat × Nat) (a b : Nat), a < n → bt (f a) b = true → (∀ x t, x < n → t < n → σ.1 62 (24 * x + t) = hnx f (al n) x t) → (∀ y r, y < n → r < n → σ.1 63 (24 * y + r) = thr f n y r n) → ∃ τ, fr [68, 69] [(61, 10)] σ τ ∧ f124 N 61 (nI n) (nI a) (nI b) (hp σ, cs) = some (.inl (some (.int (nI (nu a b)))), (hp τ, cs))
def PatM (N n : Nat) (f : Nat → Int32) (nu : Nat → Nat → Nat) : Prop := ∀ (σ : hp_S) (cs : Nat × Nat) (a b : Nat), a < n → bt (f a) b = true → σ.2.2.1 72 4 = nI n → (∀ x t, x < n → t < n → σ.1 107 (24 * x + t) = hnx f (al n) x t) → ∃ τ, fr [110, 111, 112, 113] [] σ τ ∧ f275 N 72 (nI a) (nI b) (hp σ, cs) = some (.inl (some (.int (nI (nu a b)))), (hp τ, cs))
theorem max9 {a b : Nat} (ha : a < 2 ^ 31) (hb : b < 2 ^ 31) : lf_max (nI a) (nI b) = nI (max a b) := by
  unfold lf_max
  by_cases c : a < b
  · rw [if_pos (nI_lt c hb), Nat.max_eq_right (Nat.le_of_lt c)]
  · rw [if_neg (nI_nlt (by omega) ha), Nat.max_eq_left (by omega)]
theorem c_pt1 {a : Nat} (hs : s < 8) (hg : GW n d f) (hN : iv_N N) (hJ : dS f (al n) 23 = 0) (hC : PatC N n f nu) (hnu : ∀ a b, a < n → bt (f a) b = true → nu a b ≤ gL f n a b) (ha : a < n) {k12 : Nat → Nat → Int32 → Int32 → lf_W → lf_R} : ∀ (l : List Nat) (u p : Nat) (x : Int32) (σ : hp_S), bl x = l → l.length < u → (∀ b, b ∈ l → bt (f a) b = true) → p ≤ 576 → NV σ s n d f → (∀ x t, x < n → t < n → σ.1 62 (24 * x + t) = hnx f (al n) x t) → (∀ y r, y < n → r < n → σ.1 63 (24 * y + r) = thr f n y r n) → ∃ τ, fr [68, 69] [(61, 10)] σ τ ∧ hpi nu a l p ≤ 576 ∧ g123_28 N k12 u 61 (2 + 2 * s) (nI p) (nI a) x (hp σ, cs) = k12 61 (2 + 2 * s) (nI (hpi nu a l p)) (nI (a + 1)) (hp τ, cs) := by
  have h1 := hg.1
  have hn := hg.2.1
  have hw := hg.2.2.2.2.1
  intro l
  induction l with
  | nil =>
    intro u p x σ hl hu hb hp9 hv h62 h63
    obtain ⟨u, rfl⟩ : ∃ q, u = q + 1 := ⟨u - 1, by omega⟩
    have hx0 : x = 0 := by
      apply Classical.byContradiction
      intro z
      obtain ⟨l, -, -, -, e, -⟩ := bl_low z
      rw [e] at hl
      cases hl
    refine ⟨σ, fr.rf, hp9, ?_⟩
    unfold g123_28
    rw [if_pos hx0, nI_1]
    rfl
  | cons b l ih =>
    intro u p x σ hl hu hb hp9 hv h62 h63
    obtain ⟨u, rfl⟩ : ∃ q, u = q + 1 := ⟨u - 1, by rw [List.length_cons] at hu; omega⟩
    rw [List.length_cons] at hu
    have hx0 : ¬ x = 0 := by
      intro z
      rw [z, bl_0] at hl
      cases hl
    obtain ⟨l', l1, l2, l3, e, el⟩ := bl_low hx0
    rw [e] at hl
    obtain ⟨e1, e2⟩ := List.cons.inj hl
    subst e1
    have hbt := hb l' List.mem_cons_self
    have hbn := (hw a (by omega) l' hbt).2.1
    have hle := gL_le (f := f) (n := n) (a := a) (b := l') hn hw hJ
    have hnl := hnu a l' ha hbt
    have hpi' : hpi nu a (l' :: l) p = hpi nu a l (max p (nu a l')) := rfl
    rw [hpi']
    unfold g123_28 g123_71
    rw [if_neg hx0, (el N _).1, lf_nest_r, lf_ci_r, sN_1 hs, hv.1, o61, c_along h1 hn hw hJ hN ha hbn h62 h63, lf_ci_r]
    by_cases c : gL f n a l' ≤ p
    · rw [if_pos (nI_le c (by omega)), Nat.max_eq_left (by omega)]
      exact ih u p (x &&& (x - 1)) σ e2 (by omega) (fun c hc => hb c (List.mem_cons_of_mem _ hc)) hp9 hv h62 h63
    · obtain ⟨σ1, q1, q2⟩ := hC σ cs a l' ha hbt h62 h63
      obtain ⟨τ, p1, p2, p3⟩ := ih u (max p (nu a l')) (x &&& (x - 1)) σ1 e2 (by omega) (fun c hc => hb c (List.mem_cons_of_mem _ hc)) (by omega) (hv.fr q1 (by simp; omega) (by simp <;> omega) (by simp <;> omega)) (fun x t hx ht => by rw [q1.r (by decide)]; exact h62 x t hx ht) (fun x t hx ht => by rw [q1.r (by decide)]; exact h63 x t hx ht)
      refine ⟨τ, q1.tr p1, p2, ?_⟩
      rw [if_neg (nI_ge (by omega) (by omega)), sN_1 hs, hv.1, o61, q2, lf_ci_r, max9 (by omega) (by omega)]
      exact p3
theorem c_pt2 (hs : s < 8) (hg : GW n d f) (hN : iv_N N) (hJ : dS f (al n) 23 = 0) (hC : PatC N n f nu) (hnu : ∀ a b, a < n → bt (f a) b = true → nu a b ≤ gL f n a b) : ∀ (m a u p : Nat) (σ : hp_S), a + m = n → m < u → p ≤ 576 → NV σ s n d f → (∀ x t, x < n → t < n → σ.1 62 (24 * x + t) = hnx f (al n) x t) → (∀ y r, y < n → r < n → σ.1 63 (24 * y + r) = thr f n y r n) → ∃ τ, fr [68, 69] [(61, 10)] σ τ ∧ g123_12 N u 61 (2 + 2 * s) (nI p) (nI a) (hp σ, cs) = some (.inl (some (.int (nI (hpo f nu m a p)))), (hp τ, cs)) := by
  have hn := hg.2.1
  intro m
  induction m with
  | zero =>
    intro a u p σ ha hu hp9 hv h62 h63
    obtain ⟨u, rfl⟩ : ∃ q, u = q + 1 := ⟨u - 1, by omega⟩
    refine ⟨σ, fr.rf, ?_⟩
    unfold g123_12
    rw [sN_1 hs, hv.1, if_pos (nI_le (by omega) (by omega))]
    rfl
  | succ m ih =>
    intro a u p σ ha hu hp9 hv h62 h63
    obtain ⟨u, rfl⟩ : ∃ q, u = q + 1 := ⟨u - 1, by omega⟩
    obtain ⟨τ, q1, q2, q3⟩ := c_pt1 (N := N) (cs := cs) (a := a) (k12 := g123_12 N u) hs hg hN hJ hC hnu (by omega) (bl (f a)) N p (f a) σ rfl (by have := bl_le (f a); unfold iv_N at hN; omega) (fun b hb => bl_mem.mp hb) hp9 hv h62 h63
    obtain ⟨υ, p1, p2⟩ := ih (a + 1) u _ τ (by omega) (by omega) q2 (hv.fr q1 (by simp; omega) (by simp <;> omega) (by simp <;> omega)) (fun x t hx ht => by rw [q1.r (by decide)]; exact h62 x t hx ht) (fun x t hx ht => by rw [q1.r (by decide)]; exact h63 x t hx ht)
    refine ⟨υ, q1.tr p1, ?_⟩
    unfold g123_12
    rw [sN_1 hs, hv.1, if_neg (nI_ge (by omega) (by omega)), sN_r hs, sN_ri hs (by omega), hv.2.2 a (by omega), q3]
    exact p2
/-- the model -/
theorem m_hv1 {a W : Nat} (hg : GW n d f) (hN : iv_N N) (hJ : dS f (al n) 23 = 0) (hW : W ≤ 2) (hM : W = 2 → PatM N n f nu) (hnu : ∀ a b, a < n → bt (f a) b = true → nu a b ≤ gL f n a b) (ha : a < n) {k56 : Nat → Int32 → Int32 → Int32 → Int32 → Int32 → lf_W → lf_R} : ∀ (m b u p : Nat) (q : hvq) (σ : hp_S), b + m = n → m < u → hvk q → p ≤ 576 → σ.2.2.1 72 4 = nI n → (∀ j, j < 24 → σ.1 76 j = f j) → (∀ a b, a < 24 → b < 24 → σ.1 109 (24 * a + b) = nI (gL f n a b)) → (∀ x t, x < n → t < n → σ.1 107 (24 * x + t) = hnx f (al n) x t) → ∃ τ, fr [110, 111, 112, 113] [] σ τ ∧ hvk (hvi f n a ((List.range' b m).filter (fun c => bt (f a) c)) q) ∧ (if W = 2 then hpi nu a ((List.range' b m).filter (fun c => bt (f a) c)) p else p) ≤ 576 ∧ g279_68 N k56 u 72 (nI W) (nI q.1) q.2 (nI p) (nI a) (nI b) (hp σ, cs) = k56 72 (nI W) (nI (hvi f n a ((List.range' b m).filter (fun c => bt (f a) c)) q).1) (hvi f n a ((List.range' b m).filter (fun c => bt (f a) c)) q).2 (nI (if W = 2 then hpi nu a ((List.range' b m).filter (fun c => bt (f a) c)) p else p)) (nI (a + 1)) (hp τ, cs) := by
  have hn := hg.2.1
  have hw := hg.2.2.2.2.1
  intro m
  induction m with
  | zero =>
    intro b u p q σ hb hu hq hp9 e ef hl hh
    obtain ⟨u, rfl⟩ : ∃ q, u = q + 1 := ⟨u - 1, by omega⟩
    have e0 : ∀ P : Nat → Bool, (List.range' b 0).filter P = [] := fun P => rfl
    rw [e0]
    have e1 : (if W = 2 then hpi nu a [] p else p) = p := by split <;> rfl
    refine ⟨σ, fr.rf, hq, by rw [e1]; exact hp9, ?_⟩
    unfold g279_68
    rw [i72_4, e, if_pos (nI_le (by omega) (by omega)), nI_1, e1]
    rfl
  | succ m ih =>
    intro b u p q σ hb hu hq hp9 e ef hl hh
    obtain ⟨u, rfl⟩ : ∃ q, u = q + 1 := ⟨u - 1, by omega⟩
    have er : List.range' b (m + 1) = b :: List.range' (b + 1) m := rfl
    rw [er]
    unfold g279_68 g279_173
    rw [i72_4, e, if_neg (nI_ge (by omega) (by omega)), o72, m_joined (by omega) (by omega), lf_ci_r, ef a (by omega)]
    by_cases c : bt (f a) b = true
    · have ec : (b :: List.range' (b + 1) m).filter (fun c => bt (f a) c) = b :: (List.range' (b + 1) m).filter (fun c => bt (f a) c) := by simp only [List.filter, c]
      have hpos := gL_pos hn hw hJ ha c
      have hle := gL_le (f := f) (n := n) (a := a) (b := b) hn hw hJ
      have hnl := hnu a b ha c
      have hok := hvs_ok (f := f) (n := n) (a := a) (b := b) hn hw hJ (by omega) (by omega) hq
      rw [ec, if_pos c, if_pos (c := ¬ (1 : Int32) = 0) (by decide)]
      have hq5 := hq.1
      -- the heaviest
      have step1 : (if q.2 = -1 then g279_114 N k56 (g279_68 N k56 u) 72 (nI W) (nI p) (nI a) (nI b) (hp σ, cs) else ((lf_fr (hp σ, cs) 72 12 67).bind fun v13 => (lf_ri (hp σ, cs) v13 ((24 * nI a) + nI b)).bind fun v15 => if v15 ≤ nI q.1 then (g279_138 N k56 (g279_68 N k56 u) 72 (nI W) (nI q.1) q.2 (nI p) (nI a) (nI b) (hp σ, cs)) else (g279_114 N k56 (g279_68 N k56 u) 72 (nI W) (nI p) (nI a) (nI b) (hp σ, cs)))) = g279_138 N k56 (g279_68 N k56 u) 72 (nI W) (nI (hvs f n a b q).1) (hvs f n a b q).2 (nI p) (nI a) (nI b) (hp σ, cs) := by
        have e114 : g279_114 N k56 (g279_68 N k56 u) 72 (nI W) (nI p) (nI a) (nI b) (hp σ, cs) = g279_138 N k56 (g279_68 N k56 u) 72 (nI W) (nI (gL f n a b)) (nI (32 * a + b)) (nI p) (nI a) (nI b) (hp σ, cs) := by
          unfold g279_114
          rw [r72_67, ix_a, a109 (by omega), hl a b (by omega) (by omega), show (32 : Int32) = nI 32 from rfl, pk_mul, nI_add]
        by_cases c1 : q.2 = -1
        · have hz : q.1 = 0 := by
            rcases hq.2 with h | h
            · exact h.2
            · exact absurd c1 h.1
          have ehv : hvs f n a b q = (gL f n a b, nI (32 * a + b)) := by unfold hvs; rw [if_pos (by omega)]
          rw [if_pos c1, e114, ehv]
        · rw [if_neg c1, r72_67, ix_a, a109 (by omega), hl a b (by omega) (by omega)]
          by_cases c2 : q.1 < gL f n a b
          · have ehv : hvs f n a b q = (gL f n a b, nI (32 * a + b)) := by unfold hvs; rw [if_pos c2]
            rw [if_neg (nI_ge c2 (by omega)), e114, ehv]
          · have ehv : hvs f n a b q = q := by unfold hvs; rw [if_neg c2]
            rw [if_pos (nI_le (by omega) (by omega)), ehv]
      rw [step1]
      have hi1 : hvi f n a (b :: (List.range' (b + 1) m).filter (fun c => bt (f a) c)) q = hvi f n a ((List.range' (b + 1) m).filter (fun c => bt (f a) c)) (hvs f n a b q) := rfl
      have hi2 : hpi nu a (b :: (List.range' (b + 1) m).filter (fun c => bt (f a) c)) p = hpi nu a ((List.range' (b + 1) m).filter (fun c => bt (f a) c)) (max p (nu a b)) := rfl
      rw [hi1, hi2]
      by_cases cW : W = 2
      · obtain ⟨σ1, q1, q2⟩ := hM cW σ cs a b ha c e hh
        obtain ⟨τ, p1, p2, p3, p4⟩ := ih (b + 1) u (max p (nu a b)) (hvs f n a b q) σ1 (by omega) (by omega) hok (by omega) (by rw [q1.f List.not_mem_nil]; exact e) (fun j hj => by rw [q1.r (by decide)]; exact ef j hj) (fun x y hx hy => by rw [q1.r (by decide)]; exact hl x y hx hy) (fun x y hx hy => by rw [q1.r (by decide)]; exact hh x y hx hy)
        refine ⟨τ, q1.tr p1, p2, ?_, ?_⟩
        · rw [if_pos cW] at p3 ⊢; exact p3
        · rw [if_pos cW] at p4 ⊢
          subst cW
          unfold g279_138 g279_155 g279_171 g279_173
          rw [if_neg (fun z => z rfl), o72, q2, lf_ci_r, nI_1]
          by_cases g : nu a b ≤ p
          · rw [if_pos (nI_le g (by omega))]
            rw [Nat.max_eq_left g] at p4 ⊢
            exact p4
          · rw [if_neg (nI_ge (Nat.lt_of_not_le g) (by omega))]
            rw [Nat.max_eq_right (Nat.le_of_lt (Nat.lt_of_not_le g))] at p4 ⊢
            exact p4
      · obtain ⟨τ, p1, p2, p3, p4⟩ := ih (b + 1) u p (hvs f n a b q) σ (by omega) (by omega) hok hp9 e ef hl hh
        refine ⟨τ, p1, p2, ?_, ?_⟩
        · rw [if_neg cW] at p3 ⊢; exact p3
        · rw [if_neg cW] at p4 ⊢
          have hW2 : ¬ nI W = 2 := by
            rw [show (2 : Int32) = nI 2 from rfl, q_eq (by omega) (by omega)]
            exact cW
          unfold g279_138 g279_155 g279_171 g279_173
          rw [if_pos hW2, if_pos (show (0 : Int32) ≤ nI p from nI_le (a := 0) (by omega) (by omega)), nI_1]
          exact p4
    · have ec : (b :: List.range' (b + 1) m).filter (fun c => bt (f a) c) = (List.range' (b + 1) m).filter (fun c => bt (f a) c) := by
        have c' : bt (f a) b = false := ts_nt c
        simp only [List.filter, c']
      obtain ⟨τ, p1, p2, p3, p4⟩ := ih (b + 1) u p q σ (by omega) (by omega) hq hp9 e ef hl hh
      rw [ec]
      refine ⟨τ, p1, p2, p3, ?_⟩
      rw [if_neg c, if_neg (fun z => z rfl), nI_1]
      exact p4
theorem m_hv2 {W : Nat} (hg : GW n d f) (hN : iv_N N) (hJ : dS f (al n) 23 = 0) (hW : W ≤ 2) (hM : W = 2 → PatM N n f nu) (hnu : ∀ a b, a < n → bt (f a) b = true → nu a b ≤ gL f n a b) : ∀ (m a u p : Nat) (q : hvq) (σ : hp_S), a + m = n → m < u → hvk q → p ≤ 576 → σ.2.2.1 72 4 = nI n → (∀ j, j < 24 → σ.1 76 j = f j) → (∀ a b, a < 24 → b < 24 → σ.1 109 (24 * a + b) = nI (gL f n a b)) → (∀ x t, x < n → t < n → σ.1 107 (24 * x + t) = hnx f (al n) x t) → ∃ τ, fr [110, 111, 112, 113] [] σ τ ∧ g279_56 N u 72 (nI W) (nI q.1) q.2 (nI p) (nI a) (hp σ, cs) = some (.inl (some (.int (if W = 0 then nI (hvo f n m a q).1 else if W = 1 then (hvo f n m a q).2 else nI (hpo f nu m a p)))), (hp τ, cs)) := by
  have hn := hg.2.1
  have hw := hg.2.2.2.2.1
  intro m
  induction m with
  | zero =>
    intro a u p q σ ha hu hq hp9 e ef hl hh
    obtain ⟨u, rfl⟩ : ∃ q, u = q + 1 := ⟨u - 1, by omega⟩
    refine ⟨σ, fr.rf, ?_⟩
    unfold g279_56
    rw [i72_4, e, if_pos (nI_le (by omega) (by omega))]
    by_cases c0 : W = 0
    · subst c0
      rw [if_neg (fun z => z rfl), if_pos rfl]
      rfl
    · by_cases c1 : W = 1
      · subst c1
        rw [if_pos (by decide), if_neg (fun z => z rfl), if_neg (by decide), if_pos rfl]
        rfl
      · have c2 : W = 2 := by omega
        subst c2
        rw [if_pos (by decide), if_pos (by decide), if_neg (by decide), if_neg (by decide)]
        rfl
  | succ m ih =>
    intro a u p q σ ha hu hq hp9 e ef hl hh
    obtain ⟨u, rfl⟩ : ∃ q, u = q + 1 := ⟨u - 1, by omega⟩
    have hbl : (List.range' 0 n).filter (fun c => bt (f a) c) = bl (f a) := (bl_n (by omega) (fun i hi => (hw a (by omega) i hi).2.1)).symm
    obtain ⟨τ, q1, q2, q3, q4⟩ := m_hv1 (N := N) (cs := cs) (nu := nu) (a := a) (W := W) (k56 := g279_56 N u) hg hN hJ hW hM hnu (by omega) n 0 N p q σ (by omega) (by unfold iv_N at hN; omega) hq hp9 e ef hl hh
    rw [hbl] at q2 q3 q4
    obtain ⟨υ, p1, p2⟩ := ih (a + 1) u _ _ τ (by omega) (by omega) q2 q3 (by rw [q1.f List.not_mem_nil]; exact e) (fun j hj => by rw [q1.r (by decide)]; exact ef j hj) (fun x y hx hy => by rw [q1.r (by decide)]; exact hl x y hx hy) (fun x y hx hy => by rw [q1.r (by decide)]; exact hh x y hx hy)
    refine ⟨υ, q1.tr p1, ?_⟩
    have e1 : g279_56 N (u + 1) 72 (nI W) (nI q.1) q.2 (nI p) (nI a) (hp σ, cs) = g279_68 N (g279_56 N u) N 72 (nI W) (nI q.1) q.2 (nI p) (nI a) 0 (hp σ, cs) := by
      conv => lhs; unfold g279_56
      rw [i72_4, e, if_neg (nI_ge (by omega) (by omega))]
    rw [e1, show (0 : Int32) = nI 0 from rfl, q4, p2]
    by_cases c0 : W = 0
    · rw [if_pos c0, if_pos c0]
      rfl
    · by_cases c1 : W = 1
      · rw [if_neg c0, if_pos c1, if_neg c0, if_pos c1]
        rfl
      · rw [if_neg c0, if_neg c1, if_neg c0, if_neg c1, if_pos (by omega)]
        rfl
end HW
