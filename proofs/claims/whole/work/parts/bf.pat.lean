section PT
variable {cs : Nat × Nat} {N n : Nat} {f : Nat → Int32}
def pcE (f : Nat → Int32) (n a b x y : Nat) : Prop := 0 < pc9 f (al n) (24 * a + b) y (gd f (al n) x y) x
theorem m_c36 {a b x : Nat} (hn : n ≤ 24) (hN : iv_N N) (hw : gw f n) (hJ : dS f (al n) 23 = 0) (ha : a < n) (hb : b < n) (hx : x < n) {k25 : Nat → Int32 → Int32 → Int32 → lf_W → lf_R} : ∀ (c y u : Nat) (σ : hp_S), y + c = n → c < u → σ.2.2.1 72 4 = nI n → (∀ x t, x < n → t < n → σ.1 107 (24 * x + t) = hnx f (al n) x t) → (∀ v, bt (σ.1 110 x) v = true ↔ v < y ∧ pcE f n a b x v) → ∃ τ, fr [110] [] σ τ ∧ (∀ z, z ≠ x → τ.1 110 z = σ.1 110 z) ∧ (∀ v, bt (τ.1 110 x) v = true ↔ v < n ∧ pcE f n a b x v) ∧ g275_36 N k25 u 72 (nI a) (nI b) (nI x) (nI y) (hp σ, cs) = k25 72 (nI a) (nI b) (nI (x + 1)) (hp τ, cs) := by
  intro c
  induction c with
  | zero =>
    intro y u σ hy hu e h107 hbits
    obtain ⟨u, rfl⟩ : ∃ q, u = q + 1 := ⟨u - 1, by omega⟩
    have : y = n := by omega
    subst this
    refine ⟨σ, fr.rf, fun _ _ => rfl, hbits, ?_⟩
    unfold g275_36
    rw [i72_4, e, if_pos (nI_le (by omega) (by omega)), nI_1]
  | succ c ih =>
    intro y u σ hy hu e h107 hbits
    obtain ⟨u, rfl⟩ : ∃ q, u = q + 1 := ⟨u - 1, by omega⟩
    have h51 := m_c51 (N := N) (cs := cs) (σ := σ) (k25 := k25) (k36 := g275_36 N k25 u) hn hw hJ ha hb hx (show y < n by omega) h107 (gd f (al n) x y) x N false hx rfl (by have := gd_le (f := f) (A := al n) (v := x) (x := y); unfold iv_N at hN; omega)
    rw [show (if false = true then (1 : Int32) else 0) = 0 from rfl] at h51
    by_cases p : pcE f n a b x y
    · have p' : 0 < pc9 f (al n) (24 * a + b) y (gd f (al n) x y) x := p
      rw [if_pos (Or.inr p')] at h51
      obtain ⟨τ, q1, q2, q3, q4⟩ := ih (y + 1) u (hp_wi σ 110 x (σ.1 110 x ||| lf_shl 1 (nI y))) (by omega) (by omega) e (fun x t hx ht => by rw [hp_wi_ne (by decide)]; exact h107 x t hx ht) (fun v => by
        rw [hp_wi_at, b_or_iff, b_one (by omega), hbits v]
        constructor
        · rintro (z | z)
          · exact ⟨by omega, z.2⟩
          · rw [z]; exact ⟨by omega, p⟩
        · rintro ⟨z1, z2⟩
          by_cases d : v = y
          · exact Or.inr d
          · exact Or.inl ⟨by omega, z2⟩)
      refine ⟨τ, (fr.wi (by decide)).tr q1, fun z hz => by rw [q2 z hz, hp_wi_nj hz], q3, ?_⟩
      unfold g275_36
      rw [i72_4, e, if_neg (nI_ge (by omega) (by omega)), h51]
      exact q4
    · have p' : ¬ (false = true ∨ 0 < pc9 f (al n) (24 * a + b) y (gd f (al n) x y) x) := fun z => by
        rcases z with z | z
        · cases z
        · exact p z
      rw [if_neg p'] at h51
      obtain ⟨τ, q1, q2, q3, q4⟩ := ih (y + 1) u σ (by omega) (by omega) e h107 (fun v => by
        rw [hbits v]
        constructor
        · rintro ⟨z1, z2⟩; exact ⟨by omega, z2⟩
        · rintro ⟨z1, z2⟩
          refine ⟨?_, z2⟩
          apply Classical.byContradiction
          intro d
          have : v = y := by omega
          rw [this] at z2
          exact p z2)
      refine ⟨τ, q1, q2, q3, ?_⟩
      unfold g275_36
      rw [i72_4, e, if_neg (nI_ge (by omega) (by omega)), h51]
      exact q4
theorem m_c25 {a b : Nat} (hn : n ≤ 24) (hN : iv_N N) (hw : gw f n) (hJ : dS f (al n) 23 = 0) (ha : a < n) (hb : b < n) : ∀ (c x u : Nat) (σ : hp_S), x + c = n → c < u → σ.2.2.1 72 4 = nI n → (∀ x t, x < n → t < n → σ.1 107 (24 * x + t) = hnx f (al n) x t) → (∀ z, z < x → ∀ v, bt (σ.1 110 z) v = true ↔ v < n ∧ pcE f n a b z v) → (∀ z, x ≤ z → z < n → σ.1 110 z = 0) → ∃ τ, fr [110] [] σ τ ∧ (∀ z, z < n → ∀ v, bt (τ.1 110 z) v = true ↔ v < n ∧ pcE f n a b z v) ∧ g275_25 N u 72 (nI a) (nI b) (nI x) (hp σ, cs) = lf_ci (f276 N 72 (nI n) (hp τ, cs)) fun v12 w6 => some (.inl (some (.int v12)), w6) := by
  intro c
  induction c with
  | zero =>
    intro x u σ hx hu e h107 hd h0
    obtain ⟨u, rfl⟩ : ∃ q, u = q + 1 := ⟨u - 1, by omega⟩
    have : x = n := by omega
    subst this
    refine ⟨σ, fr.rf, hd, ?_⟩
    unfold g275_25
    rw [i72_4, e, if_pos (nI_le (by omega) (by omega)), i72_4, e, o72]
  | succ c ih =>
    intro x u σ hx hu e h107 hd h0
    obtain ⟨u, rfl⟩ : ∃ q, u = q + 1 := ⟨u - 1, by omega⟩
    obtain ⟨σ1, q1, q2, q3, q4⟩ := m_c36 (N := N) (cs := cs) (a := a) (b := b) (x := x) (k25 := g275_25 N u) hn hN hw hJ ha hb (by omega) n 0 N σ (by omega) (by unfold iv_N at hN; omega) e h107 (fun v => by
      rw [h0 x (by omega) (by omega), b_0]
      exact ⟨fun z => absurd z (by decide), fun z => absurd z.1 (Nat.not_lt_zero _)⟩)
    obtain ⟨τ, p1, p2, p3⟩ := ih (x + 1) u σ1 (by omega) (by omega) (by rw [q1.f List.not_mem_nil]; exact e) (fun x t hx ht => by rw [q1.r (by decide)]; exact h107 x t hx ht) (fun z hz v => by
      by_cases d : z = x
      · rw [d]; exact q3 v
      · rw [q2 z d]; exact hd z (by omega) v) (fun z h1 h2 => by rw [q2 z (by omega)]; exact h0 z (by omega) h2)
    refine ⟨τ, q1.tr p1, p2, ?_⟩
    unfold g275_25
    rw [i72_4, e, if_neg (nI_ge (by omega) (by omega)), show (0 : Int32) = nI 0 from rfl, q4]
    exact p3
theorem m_c2 {a b : Nat} (hn : n ≤ 24) : ∀ (c x u : Nat) (σ : hp_S), x + c = n → c < u → σ.2.2.1 72 4 = nI n → (∀ z, z < x → σ.1 110 z = 0) → ∃ τ, fr [110] [] σ τ ∧ (∀ z, z < n → τ.1 110 z = 0) ∧ g275_2 N u 72 (nI a) (nI b) (nI x) (hp σ, cs) = g275_25 N N 72 (nI a) (nI b) 0 (hp τ, cs) := by
  intro c
  induction c with
  | zero =>
    intro x u σ hx hu e h0
    obtain ⟨u, rfl⟩ : ∃ q, u = q + 1 := ⟨u - 1, by omega⟩
    refine ⟨σ, fr.rf, fun z hz => h0 z (by omega), ?_⟩
    unfold g275_2
    rw [i72_4, e, if_pos (nI_le (by omega) (by omega))]
  | succ c ih =>
    intro x u σ hx hu e h0
    obtain ⟨u, rfl⟩ : ∃ q, u = q + 1 := ⟨u - 1, by omega⟩
    obtain ⟨τ, q1, q2, q3⟩ := ih (x + 1) u (hp_wi σ 110 x 0) (by omega) (by omega) e (fun z hz => by
      by_cases d : z = x
      · rw [d, hp_wi_at]
      · rw [hp_wi_nj d]; exact h0 z (by omega))
    refine ⟨τ, (fr.wi (by decide)).tr q1, q2, ?_⟩
    unfold g275_2
    rw [i72_4, e, if_neg (nI_ge (by omega) (by omega)), r72_68, b110 (by omega), nI_1]
    exact q3
theorem ct_self (hn : n ≤ 24) (hw : gw f n) (hJ : dS f (al n) 23 = 0) {t : Nat} (ht : t < n) : ∀ k x, x < n → gd f (al n) x t = k → ct f (al n) t t k x = 0 := by
  intro k
  induction k with
  | zero => intro x _ _; rfl
  | succ k ih =>
    intro x hx hk
    have hxt : x ≠ t := by
      intro q
      rw [q, gd_self (by omega)] at hk
      omega
    obtain ⟨-, h2, -, h4⟩ := hop_ok hn hw hJ hx ht hxt
    show (if x = t then 1 else 0) + ct f (al n) t t k (hq f (al n) x t) = 0
    rw [if_neg hxt, ih _ h2 (by omega)]
/-- couplesOf: a greatest matching, the other way round -/
theorem m_couples {a b : Nat} {σ : hp_S} (hn : n ≤ 24) (hw : gw f n) (hJ : dS f (al n) 23 = 0) (hN : iv_N N) (ha : a < n) (hb : b < n) (e : σ.2.2.1 72 4 = nI n) (h107 : ∀ x t, x < n → t < n → σ.1 107 (24 * x + t) = hnx f (al n) x t) : ∃ τ k, fr [110, 111, 112, 113] [] σ τ ∧ MT (fun x y => Ept f n a b y x) k ∧ VC (fun x y => Ept f n a b y x) k ∧ f275 N 72 (nI a) (nI b) (hp σ, cs) = some (.inl (some (.int (nI k))), (hp τ, cs)) := by
  obtain ⟨σ1, q1, q2, q3⟩ := m_c2 (N := N) (cs := cs) (a := a) (b := b) hn n 0 N σ (by omega) (by unfold iv_N at hN; omega) e (fun z hz => absurd hz (Nat.not_lt_zero _))
  obtain ⟨σ2, p1, p2, p3⟩ := m_c25 (N := N) (cs := cs) (a := a) (b := b) hn hN hw hJ ha hb n 0 N σ1 (by omega) (by unfold iv_N at hN; omega) (by rw [q1.f List.not_mem_nil]; exact e) (fun x t hx ht => by rw [q1.r (by decide)]; exact h107 x t hx ht) (fun z hz => absurd hz (Nat.not_lt_zero _)) (fun z _ hz => q2 z hz)
  have hbit : ∀ x y, bt ((fun x => if x < n then σ2.1 110 x else 0) x) y = true ↔ Ept f n a b y x = true := by
    intro x y
    show bt (if x < n then σ2.1 110 x else 0) y = true ↔ bt (gpt f n a b y) x = true
    rw [gpt_bt hn]
    by_cases cx : x < n
    · rw [if_pos cx, p2 x cx y]
      unfold pcE
      constructor
      · rintro ⟨h1, h2⟩
        rw [pc_ct hn hw hJ h1 (show b < 24 by omega) _ _ cx rfl] at h2
        by_cases c : hq f (al n) a y = b
        · rw [if_pos c] at h2
          refine ⟨⟨h1, fun z => ?_, c⟩, cx, h2⟩
          rw [z, ct_self hn hw hJ ha _ x cx rfl] at h2
          omega
        · rw [if_neg c] at h2; omega
      · rintro ⟨⟨h1, h2, h3⟩, h4, h5⟩
        refine ⟨h1, ?_⟩
        rw [pc_ct hn hw hJ h1 (show b < 24 by omega) _ _ cx rfl, if_pos h3]
        exact h5
    · rw [if_neg cx, b_0]
      exact ⟨fun z => absurd z (by decide), fun z => absurd z.2.1 cx⟩
  have hfun : (fun x y => bt ((fun x => if x < n then σ2.1 110 x else 0) x) y) = fun x y => Ept f n a b y x := by
    funext x y
    rw [Bool.eq_iff_iff]
    exact hbit x y
  obtain ⟨τ, k, r1, r2, r3, r4⟩ := m_matches (N := N) (cs := cs) (m0 := n) (G := fun x => if x < n then σ2.1 110 x else 0) (σ := σ2) hn hN (fun x y h => by
    apply Classical.byContradiction
    intro c
    have h' : bt (if x < n then σ2.1 110 x else 0) y = true := h
    rw [if_neg c, b_0] at h'
    cases h') (fun x hx => by show _ = if x < n then σ2.1 110 x else 0; rw [if_pos hx])
  rw [hfun] at r2 r3
  refine ⟨τ, k, ((q1.tr p1).wk (fun _ z => by simp at z; simp [z]) (fun _ z => z)).tr (r1.wk (fun _ z => by simp at z; rcases z with z | z | z <;> simp [z]) (fun _ z => z)), r2, r3, ?_⟩
  unfold f275
  rw [show (0 : Int32) = nI 0 from rfl, q3, show (0 : Int32) = nI 0 from rfl, p3, r4, lf_ci_r]
theorem pat_all (hN : iv_N N) : Pat N := by
  intro n d f hg hJ
  have h1 := hg.1
  have hn := hg.2.1
  have hw := hg.2.2.2.2.1
  have hex : ∀ p : Nat × Nat, ∃ k, p.1 < n → p.2 < n → MT (Ept f n p.1 p.2) k ∧ VC (Ept f n p.1 p.2) k := by
    rintro ⟨a, b⟩
    by_cases ha : a < n
    · by_cases hb : b < n
      · obtain ⟨τ, k, -, r2, r3, -⟩ := c_match (N := N) (cs := (0, 0)) (f := f) (a := a) (b := b) (σ := ((fun r j => if r = 62 then hnx f (al n) (j / 24) (j % 24) else if r = 63 then thr f n (j / 24) (j % 24) n else 0), fun _ _ => 0, fun _ _ => 0, fun _ _ => 0)) hn hw hJ hN ha hb (fun x t hx ht => by
          show hnx f (al n) ((24 * x + t) / 24) ((24 * x + t) % 24) = hnx f (al n) x t
          rw [show (24 * x + t) / 24 = x by omega, show (24 * x + t) % 24 = t by omega]) (fun x t hx ht => by
          show thr f n ((24 * x + t) / 24) ((24 * x + t) % 24) n = thr f n x t n
          rw [show (24 * x + t) / 24 = x by omega, show (24 * x + t) % 24 = t by omega])
        exact ⟨k, fun _ _ => ⟨r2, r3⟩⟩
      · exact ⟨0, fun _ z => absurd z hb⟩
    · exact ⟨0, fun z => absurd z ha⟩
  obtain ⟨nu, hnu⟩ := Classical.axiomOfChoice hex
  have uniq : ∀ a b k, a < n → b < n → MT (Ept f n a b) k → VC (Ept f n a b) k → k = nu (a, b) := fun a b k ha hb h2 h3 => by
    obtain ⟨g1, g2⟩ := hnu (a, b) ha hb
    exact Nat.le_antisymm (mt_vc h2 g2) (mt_vc g1 h3)
  refine ⟨fun a b => nu (a, b), fun σ cs a b ha hab h62 h63 => ?_, fun σ cs a b ha hab e h107 => ?_, fun a b ha hab => ?_⟩
  · have hb := (hw a (by omega) b hab).2.1
    obtain ⟨τ, k, r1, r2, r3, r4⟩ := c_match (N := N) (cs := cs) (σ := σ) hn hw hJ hN ha hb h62 h63
    refine ⟨τ, r1, ?_⟩
    rw [r4, uniq a b k ha hb r2 r3]
  · have hb := (hw a (by omega) b hab).2.1
    obtain ⟨τ, k, r1, r2, r3, r4⟩ := m_couples (N := N) (cs := cs) (σ := σ) (a := a) (b := b) hn hw hJ hN ha hb e h107
    refine ⟨τ, r1, ?_⟩
    rw [r4, uniq a b k ha hb r2.flip r3.flip]
  · have hb := (hw a (by omega) b hab).2.1
    obtain ⟨g1, g2⟩ := hnu (a, b) ha hb
    refine mt_vc g1 ⟨fun t => decide (gpt f n a b t ≠ 0), fun _ => false, ?_, fun x y hx hy h => ?_⟩
    · have e0 : sm (fun y => if (fun _ : Nat => false) y = true then 1 else 0) 24 = 0 := (sm_congr (G := fun _ => 0) (fun _ _ => by rw [if_neg (fun q => Bool.false_ne_true q)])).trans sm_0
      rw [e0, Nat.add_zero, sm_more (n := n) (m := 24) hn (fun t q1 _ => by
        rw [if_neg (by
          rw [decide_eq_true_iff]
          intro z
          apply z
          unfold gpt
          rw [if_neg (fun w => by omega)])])]
      refine sm_le (fun t ht => ?_)
      by_cases c : gpt f n a b t = 0
      · rw [if_neg (by rw [decide_eq_true_iff]; exact fun z => z c)]
        exact Nat.zero_le _
      · rw [if_pos (decide_eq_true c)]
        have hs : ∃ s, bt (gpt f n a b t) s = true := by
          apply Classical.byContradiction
          intro z
          exact c (b_nothing.mpr (fun s hs => z ⟨s, hs⟩))
        obtain ⟨s, hs⟩ := hs
        obtain ⟨⟨k1, k2, k3⟩, k4, k5⟩ := (gpt_bt hn).mp hs
        rw [if_pos k3]
        have := sm_ge (F := fun s => ct f (al n) a t (gd f (al n) s t) s) (k := s) k4
        have h6 : ct f (al n) a t (gd f (al n) s t) s ≤ sm (fun s => ct f (al n) a t (gd f (al n) s t) s) n := this
        omega
    · refine Or.inl (decide_eq_true (fun z => ?_))
      have h' : bt (gpt f n a b x) y = true := h
      rw [z, b_0] at h'
      cases h'
end PT
theorem case_heavy2 {J : iv_J} {rd : iv_rd} {N : Nat} (hN : iv_N N) : iv_caseN J rd N g327_2496 := case_heavy hN (pat_all hN)
