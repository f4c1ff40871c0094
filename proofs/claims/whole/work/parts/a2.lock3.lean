/-! the model peels the other way -/
section LM
variable {cs : Nat × Nat} {N n d : Nat} {f : Nat → Int32} {H : Nat → Nat → Nat}
def MS (σ : hp_S) (n : Nat) (st : Nat → Bool) : Prop := ∀ x y, x < n → y < n → σ.1 108 (24 * x + y) = if st (24 * x + y) = true then 1 else 0
theorem m_le {σ : hp_S} {a b : Nat} {st : Nat → Bool} (hn : n ≤ 24) (hH : ∀ x t, x < n → t < n → x ≠ t → H x t < n) (ha : a < n) (hb : b < n) (e : σ.2.2.1 72 4 = nI n) (hh : hops σ 107 H n) (hS : MS σ n st) : ∀ (m t u : Nat), t + m = n → m < u → ∃ v : Int32, (v = 0 ∨ v = 1) ∧ (v = 1 ↔ ∃ t', t ≤ t' ∧ t' < n ∧ a ≠ t' ∧ b ≠ t' ∧ H a t' = b ∧ st (24 * b + H b t') = true) ∧ g271_2 N u 72 (nI a) (nI b) (nI t) (hp σ, cs) = some (.inl (some (.int v)), (hp σ, cs)) := by
  intro m
  induction m with
  | zero =>
    intro t u ht hu
    obtain ⟨u, rfl⟩ : ∃ q, u = q + 1 := ⟨u - 1, by omega⟩
    refine ⟨0, Or.inl rfl, ⟨fun q => absurd q (by decide), fun ⟨t', q1, q2, _⟩ => by omega⟩, ?_⟩
    unfold g271_2
    rw [i72_4, e, if_pos (nI_le (by omega) (by omega))]
  | succ m ih =>
    intro t u ht hu
    obtain ⟨u, rfl⟩ : ∃ q, u = q + 1 := ⟨u - 1, by omega⟩
    obtain ⟨v, q1, q2, q3⟩ := ih (t + 1) u (by omega) (by omega)
    have skip : (a ≠ t → b ≠ t → H a t = b → st (24 * b + H b t) = true → False) → (v = 1 ↔ ∃ t', t ≤ t' ∧ t' < n ∧ a ≠ t' ∧ b ≠ t' ∧ H a t' = b ∧ st (24 * b + H b t') = true) := by
      intro hno
      rw [q2]
      constructor
      · rintro ⟨t', a1, a2⟩
        exact ⟨t', by omega, a2⟩
      · rintro ⟨t', a1, a2, a3, a4, a5, a6⟩
        by_cases c : t' = t
        · subst c; exact absurd a6 (hno a3 a4 a5)
        · exact ⟨t', by omega, a2, a3, a4, a5, a6⟩
    unfold g271_2 g271_64
    rw [i72_4, e, if_neg (nI_ge (by omega) (by omega))]
    by_cases c1 : t = b
    · refine ⟨v, q1, skip (fun _ h _ _ => h c1.symm), ?_⟩
      rw [if_pos (by rw [c1]), nI_1]
      exact q3
    · rw [if_neg (by rw [q_eq (by omega) (by omega)]; exact c1)]
      by_cases c2 : t = a
      · refine ⟨v, q1, skip (fun h _ _ _ => h c2.symm), ?_⟩
        rw [if_pos (by rw [c2]), nI_1]
        exact q3
      · have hlt := hH a t ha (by omega) (fun q => c2 q.symm)
        rw [if_neg (by rw [q_eq (by omega) (by omega)]; exact c2), r72_65, ix_a, a107 (by omega), hh a t ha (by omega), if_neg (c := a = t) (fun q => c2 q.symm)]
        by_cases c3 : H a t = b
        · have hlt2 := hH b t hb (by omega) (fun q => c1 q.symm)
          rw [if_pos (by rw [c3]), r72_66, r72_65, ix_a, a107 (by omega), hh b t hb (by omega), if_neg (c := b = t) (fun q => c1 q.symm), ix_a, a108 (by omega), hS b _ hb hlt2]
          by_cases c4 : st (24 * b + H b t) = true
          · refine ⟨1, Or.inr rfl, ⟨fun _ => ⟨t, by omega, by omega, fun q => c2 q.symm, fun q => c1 q.symm, c3, c4⟩, fun _ => rfl⟩, ?_⟩
            rw [if_pos c4, if_neg (by decide)]
          · refine ⟨v, q1, skip (fun _ _ _ h => c4 h), ?_⟩
            rw [if_neg c4, if_pos rfl, nI_1]
            exact q3
        · refine ⟨v, q1, skip (fun _ _ h _ => c3 h), ?_⟩
          rw [if_neg (by rw [q_eq (by omega) (by omega)]; exact c3), nI_1]
          exact q3
def lcn (st : Nat → Bool) : Nat := sm (fun j => if st j = true then 1 else 0) 576
/-- the ranks of what has fallen -/
def MI (f : Nat → Int32) (H : Nat → Nat → Nat) (n : Nat) (st : Nat → Bool) (r : Nat → Nat) (c : Nat) : Prop := (∀ j, st j = true → LN f j) ∧ (∀ j, LN f j → ¬ st j = true → r j < c) ∧ (∀ x t, x < n → t < n → x ≠ t → H x t ≠ t → ¬ st (24 * x + H x t) = true → ¬ st (24 * H x t + H (H x t) t) = true ∧ r (24 * H x t + H (H x t) t) < r (24 * x + H x t))
theorem MI.ln {st : Nat → Bool} {r : Nat → Nat} {c : Nat} (h : MI f H n st r c) : ∀ j, st j = true → LN f j := h.1
theorem MI.r0 {st : Nat → Bool} {r : Nat → Nat} {c : Nat} (h : MI f H n st r c) : ∀ j, LN f j → ¬ st j = true → r j < c := h.2.1
theorem MI.rk {st : Nat → Bool} {r : Nat → Nat} {c : Nat} (h : MI f H n st r c) : ∀ x t, x < n → t < n → x ≠ t → H x t ≠ t → ¬ st (24 * x + H x t) = true → ¬ st (24 * H x t + H (H x t) t) = true ∧ r (24 * H x t + H (H x t) t) < r (24 * x + H x t) := h.2.2
def ldd (H : Nat → Nat → Nat) (n : Nat) (st : Nat → Bool) (a b : Nat) : Prop := ∃ t, t < n ∧ a ≠ t ∧ b ≠ t ∧ H a t = b ∧ st (24 * b + H b t) = true
def PS (H : Nat → Nat → Nat) (n : Nat) (st0 : Nat → Bool) (cur : Nat) (st : Nat → Bool) (mo so : Int32) : Prop := (∀ j, st j = true → st0 j = true) ∧ (mo = 0 ∨ mo = 1) ∧ (so = 0 ∨ so = 1) ∧ (mo = 0 → st = st0 ∧ ∀ j, j < cur → st0 j = true → ldd H n st0 (j / 24) (j % 24)) ∧ (mo = 1 → lcn st < lcn st0) ∧ (so = 1 ↔ ∃ j, j < cur ∧ st j = true)
theorem PS.sub {st0 : Nat → Bool} {cur : Nat} {st : Nat → Bool} {mo so : Int32} (h : PS H n st0 cur st mo so) : ∀ j, st j = true → st0 j = true := h.1
theorem PS.m01 {st0 : Nat → Bool} {cur : Nat} {st : Nat → Bool} {mo so : Int32} (h : PS H n st0 cur st mo so) : mo = 0 ∨ mo = 1 := h.2.1
theorem PS.s01 {st0 : Nat → Bool} {cur : Nat} {st : Nat → Bool} {mo so : Int32} (h : PS H n st0 cur st mo so) : so = 0 ∨ so = 1 := h.2.2.1
theorem PS.m0 {st0 : Nat → Bool} {cur : Nat} {st : Nat → Bool} {mo so : Int32} (h : PS H n st0 cur st mo so) : mo = 0 → st = st0 ∧ ∀ j, j < cur → st0 j = true → ldd H n st0 (j / 24) (j % 24) := h.2.2.2.1
theorem PS.m1 {st0 : Nat → Bool} {cur : Nat} {st : Nat → Bool} {mo so : Int32} (h : PS H n st0 cur st mo so) : mo = 1 → lcn st < lcn st0 := h.2.2.2.2.1
theorem PS.s1 {st0 : Nat → Bool} {cur : Nat} {st : Nat → Bool} {mo so : Int32} (h : PS H n st0 cur st mo so) : so = 1 ↔ ∃ j, j < cur ∧ st j = true := h.2.2.2.2.2
def sdel (st : Nat → Bool) (j0 : Nat) : Nat → Bool := fun j => st j && decide (j ≠ j0)
theorem sdel_iff {st : Nat → Bool} {j0 j : Nat} : sdel st j0 j = true ↔ st j = true ∧ j ≠ j0 := by
  unfold sdel
  rw [Bool.and_eq_true, decide_eq_true_iff]
theorem MI.del {st : Nat → Bool} {r : Nat → Nat} {c a b : Nat} (hn : n ≤ 24) (hH : ∀ x t, x < n → t < n → x ≠ t → H x t < n ∧ bt (f x) (H x t) = true) (h : MI f H n st r c) (ha : a < n) (hb : b < n) (hs : st (24 * a + b) = true) (hl : ¬ ldd H n st a b) : MI f H n (sdel st (24 * a + b)) (fun j => if j = 24 * a + b then c else r j) (c + 1) := by
  have hL : ∀ x t, x < n → t < n → x ≠ t → LN f (24 * x + H x t) := by
    intro x t hx ht hxt
    obtain ⟨a1, a2⟩ := hH x t hx ht hxt
    refine ⟨by omega, ?_⟩
    rw [show (24 * x + H x t) / 24 = x by omega, show (24 * x + H x t) % 24 = H x t by omega]
    exact a2
  refine ⟨fun j hj => h.ln j (sdel_iff.mp hj).1, fun j h1 h2 => ?_, fun x t hx ht hxt hne h1 => ?_⟩
  · dsimp only
    by_cases e : j = 24 * a + b
    · rw [if_pos e]; omega
    · rw [if_neg e]
      have := h.r0 j h1 (fun q => h2 (sdel_iff.mpr ⟨q, e⟩))
      omega
  · have hlt := (hH x t hx ht hxt).1
    have hlt2 := (hH _ t hlt ht hne).1
    try dsimp only
    by_cases e : 24 * x + H x t = 24 * a + b
    · have ex : x = a := by omega
      have eb : H x t = b := by omega
      have hk : ¬ st (24 * H x t + H (H x t) t) = true := by
        intro q
        apply hl
        subst ex
        refine ⟨t, ht, hxt, fun z => hne (by rw [eb]; exact z), eb, ?_⟩
        rw [eb] at q
        exact q
      have hne2 : 24 * H x t + H (H x t) t ≠ 24 * a + b := fun q => hk (by rw [q]; exact hs)
      refine ⟨fun q => hk (sdel_iff.mp q).1, ?_⟩
      rw [if_neg hne2, if_pos e]
      exact h.r0 _ (hL _ t hlt ht hne) hk
    · obtain ⟨r1, r2⟩ := h.rk x t hx ht hxt hne (fun q => h1 (sdel_iff.mpr ⟨q, e⟩))
      have hne2 : 24 * H x t + H (H x t) t ≠ 24 * a + b := fun q => r1 (by rw [q]; exact hs)
      refine ⟨fun q => r1 (sdel_iff.mp q).1, ?_⟩
      rw [if_neg hne2, if_neg e]
      exact r2
theorem lcn_del {st : Nat → Bool} {j0 : Nat} (h : st j0 = true) (hj : j0 < 576) : lcn (sdel st j0) + 1 = lcn st := by
  unfold lcn
  refine sm_upd (k0 := j0) hj (fun k _ hk => ?_) ?_
  · by_cases c : st k = true
    · rw [if_pos c, if_pos (sdel_iff.mpr ⟨c, hk⟩)]
    · rw [if_neg c, if_neg (fun q => c (sdel_iff.mp q).1)]
  · (try dsimp only)
    rw [if_neg (fun q => (sdel_iff.mp q).2 rfl), if_pos h]
theorem lcn_sub {st st0 : Nat → Bool} (h : ∀ j, st j = true → st0 j = true) : lcn st ≤ lcn st0 := by
  refine sm_le (fun j _ => ?_)
  by_cases c : st j = true
  · rw [if_pos c, if_pos (h j c)]; exact Nat.le_refl _
  · rw [if_neg c]; exact Nat.zero_le _
theorem m_pb {a : Nat} {st0 : Nat → Bool} (hn : n ≤ 24) (hN : iv_N N) (hH : ∀ x t, x < n → t < n → x ≠ t → H x t < n ∧ bt (f x) (H x t) = true) (ha : a < n) {k72 : Nat → Int32 → Int32 → lf_W → lf_R} {k83 : Nat → Int32 → Int32 → Int32 → lf_W → lf_R} : ∀ (m b u : Nat) (st : Nat → Bool) (r : Nat → Nat) (c : Nat) (mo so : Int32) (σ : hp_S), b + m = n → m < u → σ.2.2.1 72 4 = nI n → hops σ 107 H n → MS σ n st → MI f H n st r c → PS H n st0 (24 * a + b) st mo so → ∃ τ st' r' c' mo' so', fr [108] [] σ τ ∧ MS τ n st' ∧ MI f H n st' r' c' ∧ PS H n st0 (24 * a + n) st' mo' so' ∧ g272_95 N k72 k83 u 72 mo so (nI a) (nI b) (hp σ, cs) = k83 72 mo' so' (nI (a + 1)) (hp τ, cs) := by
  intro m
  induction m with
  | zero =>
    intro b u st r c mo so σ hb hu e hh hS hM hP
    obtain ⟨u, rfl⟩ : ∃ q, u = q + 1 := ⟨u - 1, by omega⟩
    have : b = n := by omega
    subst this
    refine ⟨σ, st, r, c, mo, so, fr.rf, hS, hM, hP, ?_⟩
    unfold g272_95
    rw [i72_4, e, if_pos (nI_le (by omega) (by omega)), nI_1]
  | succ m ih =>
    intro b u st r c mo so σ hb hu e hh hS hM hP
    obtain ⟨u, rfl⟩ : ∃ q, u = q + 1 := ⟨u - 1, by omega⟩
    have d1 : (24 * a + b) / 24 = a := by omega
    have d2 : (24 * a + b) % 24 = b := by omega
    unfold g272_95 g272_157 g272_162 g272_172 g272_177 g272_178
    rw [i72_4, e, if_neg (nI_ge (by omega) (by omega)), r72_66, ix_a, a108 (by omega), hS a b ha (by omega)]
    by_cases c1 : st (24 * a + b) = true
    · have c0 := hP.sub _ c1
      obtain ⟨v, v1, v2, v3⟩ := m_le (N := N) (cs := cs) (σ := σ) (a := a) (b := b) (st := st) (H := H) hn (fun x t h1 h2 h3 => (hH x t h1 h2 h3).1) ha (by omega) e hh hS n 0 N (by omega) (by unfold iv_N at hN; omega)
      have v2' : v = 1 ↔ ldd H n st a b := by
        rw [v2]
        constructor
        · rintro ⟨t, -, h⟩; exact ⟨t, h⟩
        · rintro ⟨t, h⟩; exact ⟨t, Nat.zero_le _, h⟩
      have e271 : f271 N 72 (nI a) (nI b) (hp σ, cs) = some (.inl (some (.int v)), (hp σ, cs)) := v3
      rw [if_pos c1, if_pos (by decide), o72, e271, lf_ci_r, r72_66, b108 (by omega)]
      have hh2 : ∀ y, hops (hp_wi σ 108 (24 * a + b) y) 107 H n := fun y x t hx ht => by rw [hp_wi_ne (by decide)]; exact hh x t hx ht
      rcases v1 with v1 | v1
      · subst v1
        have hnl : ¬ ldd H n st a b := fun q => absurd (v2'.mpr q) (by decide)
        obtain ⟨τ, st', r', c', mo', so', a1, a2, a3, a4, a5⟩ := ih (b + 1) u (sdel st (24 * a + b)) _ (c + 1) 1 so (hp_wi σ 108 (24 * a + b) 0) (by omega) (by omega) e (hh2 0) (fun x y hx hy => by
          by_cases c : 24 * x + y = 24 * a + b
          · rw [c, hp_wi_at, if_neg (fun q => (sdel_iff.mp q).2 rfl)]
          · rw [hp_wi_nj c, hS x y hx hy]
            by_cases g : st (24 * x + y) = true
            · rw [if_pos g, if_pos (sdel_iff.mpr ⟨g, c⟩)]
            · rw [if_neg g, if_neg (fun q => g (sdel_iff.mp q).1)]) (hM.del hn hH ha (by omega) c1 hnl) ⟨fun j hj => hP.sub j (sdel_iff.mp hj).1, Or.inr rfl, hP.s01, fun q => absurd q (by decide), fun _ => by
              have := lcn_del c1 (show 24 * a + b < 576 by omega)
              have := lcn_sub hP.sub
              omega, by
              rw [hP.s1]
              constructor
              · rintro ⟨j, j1, j2⟩
                exact ⟨j, by omega, sdel_iff.mpr ⟨j2, by omega⟩⟩
              · rintro ⟨j, j1, j2⟩
                have := sdel_iff.mp j2
                exact ⟨j, by omega, this.1⟩⟩
        refine ⟨τ, st', r', c', mo', so', (fr.wi (by decide)).tr a1, a2, a3, a4, ?_⟩
        rw [show vp_nar .boolean (0 : Int32) = 0 from rfl]
        have emo : ∀ X Y : lf_R, (if ¬ mo = 0 then X else (if ¬ (0 : Int32) = 0 then Y else X)) = X := by
          intro X Y
          by_cases g : mo = 0
          · rw [if_neg (fun q => q g), if_neg (fun q => q rfl)]
          · rw [if_pos g]
        rcases hP.s01 with g | g
        · rw [g] at a5 ⊢
          rw [if_neg (fun q => q rfl), if_pos rfl, emo, nI_1]
          exact a5
        · rw [g] at a5 ⊢
          rw [if_pos (by decide), emo, nI_1]
          exact a5
      · subst v1
        have hld := v2'.mp rfl
        obtain ⟨τ, st', r', c', mo', so', a1, a2, a3, a4, a5⟩ := ih (b + 1) u st r c mo 1 (hp_wi σ 108 (24 * a + b) 1) (by omega) (by omega) e (hh2 1) (fun x y hx hy => by
          by_cases c : 24 * x + y = 24 * a + b
          · rw [c, hp_wi_at, if_pos c1]
          · rw [hp_wi_nj c, hS x y hx hy]) hM ⟨hP.sub, hP.m01, Or.inr rfl, fun q => ⟨(hP.m0 q).1, fun j j1 j2 => by
              by_cases g : j = 24 * a + b
              · rw [g, d1, d2, ← (hP.m0 q).1]; exact hld
              · exact (hP.m0 q).2 j (by omega) j2⟩, hP.m1, ⟨fun _ => ⟨24 * a + b, by omega, c1⟩, fun _ => rfl⟩⟩
        refine ⟨τ, st', r', c', mo', so', (fr.wi (by decide)).tr a1, a2, a3, a4, ?_⟩
        rw [show vp_nar .boolean (1 : Int32) = 1 from rfl]
        have eso : ∀ X Y : lf_R, (if ¬ so = 0 then X else (if (1 : Int32) = 0 then Y else X)) = X := by
          intro X Y
          by_cases g : so = 0
          · rw [if_neg (fun q => q g), if_neg (by decide)]
          · rw [if_pos g]
        rw [eso]
        rcases hP.m01 with g | g
        · rw [g] at a5 ⊢
          rw [if_neg (fun q => q rfl), if_pos (by decide), nI_1]
          exact a5
        · rw [g] at a5 ⊢
          rw [if_pos (by decide), nI_1]
          exact a5
    · obtain ⟨τ, st', r', c', mo', so', a1, a2, a3, a4, a5⟩ := ih (b + 1) u st r c mo so σ (by omega) (by omega) e hh hS hM ⟨hP.sub, hP.m01, hP.s01, fun q => ⟨(hP.m0 q).1, fun j j1 j2 => by
          by_cases g : j = 24 * a + b
          · rw [← (hP.m0 q).1, g] at j2; exact absurd j2 c1
          · exact (hP.m0 q).2 j (by omega) j2⟩, hP.m1, by
          rw [hP.s1]
          constructor
          · rintro ⟨j, j1, j2⟩; exact ⟨j, by omega, j2⟩
          · rintro ⟨j, j1, j2⟩
            refine ⟨j, ?_, j2⟩
            apply Classical.byContradiction
            intro g
            have : j = 24 * a + b := by omega
            rw [this] at j2
            exact c1 j2⟩
      refine ⟨τ, st', r', c', mo', so', a1, a2, a3, a4, ?_⟩
      rw [if_neg c1, if_neg (fun q => q rfl), nI_1]
      exact a5
theorem m_pa {st0 : Nat → Bool} (hn : n ≤ 24) (hw : gw f n) (hN : iv_N N) (hH : ∀ x t, x < n → t < n → x ≠ t → H x t < n ∧ bt (f x) (H x t) = true) {k72 : Nat → Int32 → Int32 → lf_W → lf_R} : ∀ (m a u : Nat) (st : Nat → Bool) (r : Nat → Nat) (c : Nat) (mo so : Int32) (σ : hp_S), a + m = n → m < u → σ.2.2.1 72 4 = nI n → hops σ 107 H n → MS σ n st → MI f H n st r c → PS H n st0 (24 * a) st mo so → (∀ j, st0 j = true → LN f j) → ∃ τ st' r' c' mo' so', fr [108] [] σ τ ∧ MS τ n st' ∧ MI f H n st' r' c' ∧ PS H n st0 (24 * n) st' mo' so' ∧ g272_83 N k72 u 72 mo so (nI a) (hp σ, cs) = k72 72 mo' so' (hp τ, cs) := by
  intro m
  induction m with
  | zero =>
    intro a u st r c mo so σ ha hu e hh hS hM hP h0
    obtain ⟨u, rfl⟩ : ∃ q, u = q + 1 := ⟨u - 1, by omega⟩
    have : a = n := by omega
    subst this
    refine ⟨σ, st, r, c, mo, so, fr.rf, hS, hM, hP, ?_⟩
    unfold g272_83
    rw [i72_4, e, if_pos (nI_le (by omega) (by omega))]
  | succ m ih =>
    intro a u st r c mo so σ ha hu e hh hS hM hP h0
    obtain ⟨u, rfl⟩ : ∃ q, u = q + 1 := ⟨u - 1, by omega⟩
    obtain ⟨τ, st', r', c', mo', so', a1, a2, a3, a4, a5⟩ := m_pb (N := N) (cs := cs) (a := a) (st0 := st0) (k72 := k72) (k83 := g272_83 N k72 u) hn hN hH (by omega) n 0 N st r c mo so σ (by omega) (by unfold iv_N at hN; omega) e hh hS hM hP
    have hz : ∀ j, st0 j = true → j < 24 * (a + 1) → j < 24 * a + n := by
      intro j h1 h2
      have h3 := h0 j h1
      have h4 := hw (j / 24) (by have := h3.1; omega) _ h3.2
      omega
    obtain ⟨υ, st2, r2, c2, mo2, so2, b1, b2, b3, b4, b5⟩ := ih (a + 1) u st' r' c' mo' so' τ (by omega) (by omega) (by rw [a1.f List.not_mem_nil]; exact e) (fun x t hx ht => by rw [a1.r (by decide)]; exact hh x t hx ht) a2 a3 ⟨a4.sub, a4.m01, a4.s01, fun q => ⟨(a4.m0 q).1, fun j j1 j2 => (a4.m0 q).2 j (hz j j2 j1) j2⟩, a4.m1, by
      rw [a4.s1]
      constructor
      · rintro ⟨j, j1, j2⟩; exact ⟨j, by omega, j2⟩
      · rintro ⟨j, j1, j2⟩; exact ⟨j, hz j (a4.sub j j2) j1, j2⟩⟩ h0
    refine ⟨υ, st2, r2, c2, mo2, so2, a1.tr b1, b2, b3, b4, ?_⟩
    unfold g272_83
    rw [i72_4, e, if_neg (nI_ge (by omega) (by omega)), show (0 : Int32) = nI 0 from rfl, a5]
    exact b5
theorem m_wh (hn : n ≤ 24) (hw : gw f n) (hN : iv_N N) (hH : ∀ x t, x < n → t < n → x ≠ t → H x t < n ∧ bt (f x) (H x t) = true) : ∀ (m u : Nat) (st : Nat → Bool) (r : Nat → Nat) (c : Nat) (so : Int32) (σ : hp_S), lcn st ≤ m → m + 1 < u → σ.2.2.1 72 4 = nI n → hops σ 107 H n → MS σ n st → MI f H n st r c → ∃ τ, fr [108] [] σ τ ∧ ((g272_72 N u 72 1 so (hp σ, cs) = some (.inl (some (.int 0)), (hp τ, cs)) ∧ LM0 H n) ∨ (g272_72 N u 72 1 so (hp σ, cs) = some (.inl (some (.int 1)), (hp τ, cs)) ∧ LM1 H n)) := by
  have one : ∀ (u : Nat) (st : Nat → Bool) (r : Nat → Nat) (c : Nat) (so : Int32) (σ : hp_S), σ.2.2.1 72 4 = nI n → hops σ 107 H n → MS σ n st → MI f H n st r c → ∃ τ st' r' c' mo' so', fr [108] [] σ τ ∧ MS τ n st' ∧ MI f H n st' r' c' ∧ PS H n st (24 * n) st' mo' so' ∧ g272_72 N (u + 1) 72 1 so (hp σ, cs) = g272_72 N u 72 mo' so' (hp τ, cs) := by
    intro u st r c so σ e hh hS hM
    obtain ⟨τ, st', r', c', mo', so', a1, a2, a3, a4, a5⟩ := m_pa (N := N) (cs := cs) (f := f) (H := H) (st0 := st) (k72 := g272_72 N u) hn hw hN hH n 0 N st r c 0 0 σ (by omega) (by unfold iv_N at hN; omega) e hh hS hM ⟨fun _ h => h, Or.inl rfl, Or.inl rfl, fun _ => ⟨rfl, fun j hj => absurd hj (Nat.not_lt_zero _)⟩, fun q => absurd q (by decide), ⟨fun q => absurd q (by decide), fun ⟨j, j1, _⟩ => absurd j1 (Nat.not_lt_zero _)⟩⟩ hM.ln
    refine ⟨τ, st', r', c', mo', so', a1, a2, a3, a4, ?_⟩
    conv => lhs; unfold g272_72
    rw [if_neg (by decide)]
    exact a5
  have endd : ∀ (u : Nat) (st st' : Nat → Bool) (r : Nat → Nat) (c : Nat) (so : Int32) (τ : hp_S), MI f H n st' r c → PS H n st (24 * n) st' 0 so → (g272_72 N (u + 1) 72 0 so (hp τ, cs) = some (.inl (some (.int 0)), (hp τ, cs)) ∧ LM0 H n) ∨ (g272_72 N (u + 1) 72 0 so (hp τ, cs) = some (.inl (some (.int 1)), (hp τ, cs)) ∧ LM1 H n) := by
    intro u st st' r c so τ hM hP
    obtain ⟨p1, p2⟩ := hP.m0 rfl
    have hL : ∀ x t, x < n → t < n → x ≠ t → LN f (24 * x + H x t) := by
      intro x t hx ht hxt
      obtain ⟨a1, a2⟩ := hH x t hx ht hxt
      refine ⟨by omega, ?_⟩
      rw [show (24 * x + H x t) / 24 = x by omega, show (24 * x + H x t) % 24 = H x t by omega]
      exact a2
    have hj24 : ∀ j, st' j = true → j < 24 * n := by
      intro j hj
      have h3 := hM.ln j hj
      have h4 := hw (j / 24) (by have := h3.1; omega) _ h3.2
      omega
    unfold g272_72
    rw [if_pos rfl]
    rcases hP.s01 with g | g
    · refine Or.inl ⟨by rw [g, if_pos (Or.inl rfl)], r, c, fun x t hx ht h1 h2 => ?_⟩
      have hz : ∀ j, ¬ st' j = true := by
        intro j hj
        have := hP.s1.mpr ⟨j, hj24 j hj, hj⟩
        rw [g] at this
        exact absurd this (by decide)
      refine ⟨(hM.rk x t hx ht h1 h2 (hz _)).2, ?_⟩
      have := hM.r0 _ (hL x t hx ht h1) (hz _)
      omega
    · refine Or.inr ⟨by rw [g, if_pos (Or.inr rfl)], fun j => st' j = true, ?_, fun j hj => ?_⟩
      · obtain ⟨j, j1, j2⟩ := hP.s1.mp g
        exact ⟨j, j2⟩
      · obtain ⟨t, t1, t2, t3, t4, t5⟩ := p2 j (hj24 j hj) (by rw [← p1]; exact hj)
        have h3 := hM.ln j hj
        have h4 := hw (j / 24) (by have := h3.1; omega) _ h3.2
        refine ⟨j / 24, t, h4.1, t1, t2, by rw [t4]; exact t3, by rw [t4]; omega, ?_⟩
        rw [t4, p1]
        exact t5
  intro m
  induction m with
  | zero =>
    intro u st r c so σ hl hu e hh hS hM
    obtain ⟨u, rfl⟩ : ∃ q, u = q + 1 + 1 := ⟨u - 2, by omega⟩
    obtain ⟨τ, st', r', c', mo', so', a1, a2, a3, a4, a5⟩ := one (u + 1) st r c so σ e hh hS hM
    rcases a4.m01 with g | g
    · subst g
      refine ⟨τ, a1, ?_⟩
      rw [a5]
      exact endd u st st' r' c' so' τ a3 a4
    · have := a4.m1 g
      omega
  | succ m ih =>
    intro u st r c so σ hl hu e hh hS hM
    obtain ⟨u, rfl⟩ : ∃ q, u = q + 1 + 1 := ⟨u - 2, by omega⟩
    obtain ⟨τ, st', r', c', mo', so', a1, a2, a3, a4, a5⟩ := one (u + 1) st r c so σ e hh hS hM
    rcases a4.m01 with g | g
    · subst g
      refine ⟨τ, a1, ?_⟩
      rw [a5]
      exact endd u st st' r' c' so' τ a3 a4
    · subst g
      have := a4.m1 rfl
      obtain ⟨υ, b1, b2⟩ := ih (u + 1) st' r' c' so' τ (by omega) (by omega) (by rw [a1.f List.not_mem_nil]; exact e) (fun x t hx ht => by rw [a1.r (by decide)]; exact hh x t hx ht) a2 a3
      refine ⟨υ, a1.tr b1, ?_⟩
      rw [a5]
      exact b2
theorem m_st1 {a : Nat} (hn : n ≤ 24) (ha : a < n) {k21 : Nat → Int32 → lf_W → lf_R} : ∀ (m b u : Nat) (σ : hp_S), b + m = n → m < u → σ.2.2.1 72 4 = nI n → (∀ j, j < 24 → σ.1 76 j = f j) → ∃ τ, fr [108] [] σ τ ∧ (∀ j, j < 576 → τ.1 108 j = if j / 24 = a ∧ b ≤ j % 24 ∧ j % 24 < n then (if bt (f a) (j % 24) = true then 1 else 0) else σ.1 108 j) ∧ g272_31 N k21 u 72 (nI a) (nI b) (hp σ, cs) = k21 72 (nI (a + 1)) (hp τ, cs) := by
  intro m
  induction m with
  | zero =>
    intro b u σ hb hu e ef
    obtain ⟨u, rfl⟩ : ∃ q, u = q + 1 := ⟨u - 1, by omega⟩
    refine ⟨σ, fr.rf, fun j hj => by rw [if_neg (by omega)], ?_⟩
    unfold g272_31
    rw [i72_4, e, if_pos (nI_le (by omega) (by omega)), nI_1]
  | succ m ih =>
    intro b u σ hb hu e ef
    obtain ⟨u, rfl⟩ : ∃ q, u = q + 1 := ⟨u - 1, by omega⟩
    obtain ⟨τ, q1, q2, q3⟩ := ih (b + 1) u (hp_wi σ 108 (24 * a + b) (if bt (f a) b = true then 1 else 0)) (by omega) (by omega) e (fun j hj => by rw [hp_wi_ne (by decide)]; exact ef j hj)
    refine ⟨τ, (fr.wi (by decide)).tr q1, fun j hj => ?_, ?_⟩
    · rw [q2 j hj]
      by_cases c : j = 24 * a + b
      · subst c
        have d1 : (24 * a + b) / 24 = a := by omega
        have d2 : (24 * a + b) % 24 = b := by omega
        rw [if_neg (by omega), hp_wi_at, d2]
        exact (if_pos ⟨d1, by omega, by omega⟩).symm
      · rw [hp_wi_nj c]
        by_cases g : j / 24 = a ∧ b ≤ j % 24 ∧ j % 24 < n
        · rw [if_pos g, if_pos (by omega)]
        · rw [if_neg g, if_neg (by omega)]
    · unfold g272_31
      rw [i72_4, e, if_neg (nI_ge (by omega) (by omega)), r72_66, o72, m_joined (by omega) (by omega), lf_ci_r, ef a (by omega), ix_a, b108 (by omega), nI_1]
      have : vp_nar .boolean (if bt (f a) b = true then (1 : Int32) else 0) = (if bt (f a) b = true then 1 else 0) := by split <;> rfl
      rw [this]
      exact q3
theorem m_st2 (hn : n ≤ 24) (hN : iv_N N) : ∀ (m a u : Nat) (σ : hp_S), a + m = n → m < u → σ.2.2.1 72 4 = nI n → (∀ j, j < 24 → σ.1 76 j = f j) → ∃ τ, fr [108] [] σ τ ∧ (∀ j, j < 576 → τ.1 108 j = if a ≤ j / 24 ∧ j / 24 < n ∧ j % 24 < n then (if bt (f (j / 24)) (j % 24) = true then 1 else 0) else σ.1 108 j) ∧ g272_21 N u 72 (nI a) (hp σ, cs) = g272_72 N N 72 1 1 (hp τ, cs) := by
  intro m
  induction m with
  | zero =>
    intro a u σ ha hu e ef
    obtain ⟨u, rfl⟩ : ∃ q, u = q + 1 := ⟨u - 1, by omega⟩
    refine ⟨σ, fr.rf, fun j hj => by rw [if_neg (by omega)], ?_⟩
    unfold g272_21
    rw [i72_4, e, if_pos (nI_le (by omega) (by omega))]
  | succ m ih =>
    intro a u σ ha hu e ef
    obtain ⟨u, rfl⟩ : ∃ q, u = q + 1 := ⟨u - 1, by omega⟩
    obtain ⟨τ, q1, q2, q3⟩ := m_st1 (N := N) (cs := cs) (f := f) (a := a) (k21 := g272_21 N u) hn (by omega) n 0 N σ (by omega) (by unfold iv_N at hN; omega) e ef
    obtain ⟨υ, p1, p2, p3⟩ := ih (a + 1) u τ (by omega) (by omega) (by rw [q1.f List.not_mem_nil]; exact e) (fun j hj => by rw [q1.r (by decide)]; exact ef j hj)
    refine ⟨υ, q1.tr p1, fun j hj => ?_, ?_⟩
    · rw [p2 j hj, q2 j hj]
      by_cases c : j / 24 = a
      · rw [if_neg (by omega)]
        by_cases g : j % 24 < n
        · rw [if_pos (by omega), if_pos (c := a ≤ j / 24 ∧ j / 24 < n ∧ j % 24 < n) (by omega), c]
        · rw [if_neg (by omega), if_neg (by omega)]
      · rw [if_neg (c := j / 24 = a ∧ _) (fun q => c q.1)]
        by_cases g : a ≤ j / 24 ∧ j / 24 < n ∧ j % 24 < n
        · rw [if_pos g, if_pos (by omega)]
        · rw [if_neg g, if_neg (by omega)]
    · unfold g272_21
      rw [i72_4, e, if_neg (nI_ge (by omega) (by omega)), show (0 : Int32) = nI 0 from rfl, q3]
      exact p3
theorem m_lk {σ : hp_S} (hn : n ≤ 24) (hw : gw f n) (hN : iv_N N) (hH : ∀ x t, x < n → t < n → x ≠ t → H x t < n ∧ bt (f x) (H x t) = true) (e : σ.2.2.1 72 4 = nI n) (ef : ∀ j, j < 24 → σ.1 76 j = f j) (hh : hops σ 107 H n) : ∃ τ, fr [108] [] σ τ ∧ ((g272_21 N N 72 0 (hp σ, cs) = some (.inl (some (.int 0)), (hp τ, cs)) ∧ LM0 H n) ∨ (g272_21 N N 72 0 (hp σ, cs) = some (.inl (some (.int 1)), (hp τ, cs)) ∧ LM1 H n)) := by
  obtain ⟨τ, q1, q2, q3⟩ := m_st2 (N := N) (cs := cs) (f := f) hn hN n 0 N σ (by omega) (by unfold iv_N at hN; omega) e ef
  obtain ⟨υ, p1, p2⟩ := m_wh (N := N) (cs := cs) (f := f) (H := H) hn hw hN hH 576 N (fun j => decide (LN f j)) (fun _ => 0) 0 1 τ (by
    have : lcn (fun j => decide (LN f j)) ≤ sm (fun _ => 1) 576 := sm_le (fun j _ => by split <;> omega)
    rw [sm_c] at this
    omega) (by unfold iv_N at hN; omega) (by rw [q1.f List.not_mem_nil]; exact e) (fun x t hx ht => by rw [q1.r (by decide)]; exact hh x t hx ht) (fun x y hx hy => by
      rw [q2 _ (by omega), if_pos (by omega)]
      have e : LN f (24 * x + y) ↔ bt (f ((24 * x + y) / 24)) ((24 * x + y) % 24) = true := ⟨fun q => q.2, fun q => ⟨by omega, q⟩⟩
      by_cases c : LN f (24 * x + y)
      · rw [if_pos (e.mp c), if_pos (decide_eq_true c)]
      · rw [if_neg (fun q => c (e.mpr q)), if_neg (by rw [decide_eq_true_iff]; exact c)]) ⟨fun j hj => decide_eq_true_iff.mp hj, fun j h1 h2 => absurd (decide_eq_true h1) h2, fun x t hx ht h1 h2 h3 => absurd (decide_eq_true (by
      obtain ⟨a1, a2⟩ := hH x t hx ht h1
      refine ⟨by omega, ?_⟩
      rw [show (24 * x + H x t) / 24 = x by omega, show (24 * x + H x t) % 24 = H x t by omega]
      exact a2)) h3⟩
  refine ⟨υ, q1.tr p1, ?_⟩
  rw [show (0 : Int32) = nI 0 from rfl, q3]
  exact p2
end LM
theorem hq_hops {σ : hp_S} {n r : Nat} {f : Nat → Int32} (hn : n ≤ 24) (hw : gw f n) (hJ : dS f (al n) 23 = 0) (h : ∀ x t, x < n → t < n → σ.1 r (24 * x + t) = hnx f (al n) x t) : hops σ r (hq f (al n)) n := by
  intro x t hx ht
  rw [h x t hx ht]
  by_cases c : x = t
  · rw [if_pos c, c, hn_self (by omega)]
  · rw [if_neg c, (hop_ok hn hw hJ hx ht c).1]
theorem case_locks {J : iv_J} {rd : iv_rd} {N : Nat} (hN : iv_N N) : iv_caseN J rd N g327_2353 := by
  intro sc i σ cs hs hi hI
  have key : ∃ (τ : hp_S) (ds : Nat × Nat), iv J τ ∧ ds.1 ≤ cs.1 + 1 ∧ ds.2 ≤ cs.2 + 6 ∧ ∀ k : lf_W → lf_R, tl_Z (tc_Z [("java/util/NoSuchElementException", 1)] (f160 N 0 (sc.2 (i + 1)) (hp σ, cs))) (fun w => f272 N 72 (sc.2 (i + 1)) w) k = k (hp τ, ds) := by
    generalize sc.2 (i + 1) = x
    refine askZ (x := x) hI hN rfl (fun h => ?_) (fun σ' ds w h => ?_) (fun s n d f hs8 hx hg hv => ?_)
    · unfold f160
      rw [o0, c_held_no h]
      rfl
    · unfold f272
      rw [o72, h, lf_ci_r, if_neg (fun q => q rfl)]
    · subst hx
      have hn1 := hg.1
      have hn := hg.2.1
      have hw := hg.2.2.2.2.1
      obtain ⟨τ, q1, q2, q3, q4⟩ := c_fill (σ := σ) (cs := cs) (N := N) hs8 hn1 hn hw hN hv.1 hv.2.2 hI.2.2.2.2.2.2.2.2.2
      have kt : ∀ τ', fr [62, 64, 65, 66, 67] [(61, 4), (61, 5)] σ τ' → τ'.2.2.2 61 4 = τ'.2.2.2 61 5 → iv_kept σ τ' := fun τ' w1 w2 => w1.keptS rfl rfl (fun h => h.of61 w1 w2 (by decide) (by decide) (by decide) (by decide))
      have w1 : fr [62, 64, 65, 66, 67] [(61, 4), (61, 5)] σ τ := q1.wk (fun _ h => by simp at h; rcases h with h | h | h <;> simp [h]) (fun _ h => h)
      have hv1 := hv.fr w1 (by simp; omega) (by simp <;> omega) (by simp <;> omega)
      by_cases c : dS f (al n) 23 = 0
      · rw [if_pos c] at q4
        have hH : ∀ x t, x < n → t < n → x ≠ t → hq f (al n) x t < n ∧ bt (f x) (hq f (al n) x t) = true := fun x t h1 h2 h3 => ⟨(hop_ok hn hw c h1 h2 h3).2.1, (hop_ok hn hw c h1 h2 h3).2.2.1⟩
        obtain ⟨υ, p1, p2⟩ := c_ring (σ := τ) (cs := cs) (N := N) (H := hq f (al n)) hs8 hg hN hv1 hH (hq_hops hn hw c q3)
        have w2 : fr [62, 64, 65, 66, 67] [(61, 4), (61, 5)] σ υ := w1.tr (p1.wk (fun _ h => by simp at h; rcases h with h | h <;> simp [h]) (fun _ h => absurd h List.not_mem_nil))
        have kept2 := kt υ w2 (by rw [p1.g List.not_mem_nil, p1.g List.not_mem_nil]; exact q2)
        have hmod : ∀ (σ' μ : hp_S) (ds : Nat × Nat), MV μ n d f → f178 N 72 (nI s) (hp σ', ds) = some (.inl (some (.int 1)), (hp μ, ds)) → ∃ τ, iv_kept μ τ ∧ τ.2.1 117 = μ.2.1 117 ∧ τ.2.2.1 72 0 = 0 ∧ ((f272 N 72 (nI s) (hp σ', ds) = some (.inl (some (.int 0)), (hp τ, ds)) ∧ LM0 (hq f (al n)) n) ∨ (f272 N 72 (nI s) (hp σ', ds) = some (.inl (some (.int 1)), (hp τ, ds)) ∧ LM1 (hq f (al n)) n)) := by
          intro σ' μ ds hm hl
          obtain ⟨ψ, r1, r2, r3, r4⟩ := m_routes (σ := μ) (cs := ds) (N := N) hn hw hN hm.1 hm.2.2.2
          rw [if_pos c] at r4
          obtain ⟨ω, z1, z2⟩ := m_lk (σ := ψ) (cs := ds) (N := N) (f := f) (H := hq f (al n)) hn hw hN hH (by rw [r1.f List.not_mem_nil]; exact hm.1) (fun j hj => by rw [r1.r (by decide)]; exact hm.2.2.2 j hj) (hq_hops hn hw c r2)
          refine ⟨ω, (r1.kept rfl rfl).tr (z1.kept rfl rfl), by rw [z1.l (by decide), r1.l (by decide)], by rw [z1.f List.not_mem_nil, r1.f List.not_mem_nil]; exact hm.2.2.1, ?_⟩
          have ee : f272 N 72 (nI s) (hp σ', ds) = g272_21 N N 72 0 (hp ψ, ds) := by
            unfold f272
            rw [o72, hl, lf_ci_r, if_pos (by decide), o72, r4, lf_ci_r, if_pos (by decide)]
          rw [ee]
          exact z2
        rcases p2 with ⟨p2, p3⟩ | ⟨p2, p3⟩
        · refine Or.inl ⟨0, υ, kept2, ?_, fun σ' μ ds hm hl => ?_⟩
          · unfold f160
            rw [o0, c_held hs8 (by rw [hv.1]; exact nI_ne0 hn1 (by omega)), lf_cr_r, r0_11, o61, q4, lf_ci_r, if_neg (by decide), r0_11, o61, p2, lf_ci_r, if_pos rfl]
          · obtain ⟨ω, k1, k2, k3, k4⟩ := hmod σ' μ ds hm hl
            rcases k4 with ⟨k4, k5⟩ | ⟨k4, k5⟩
            · exact ⟨ω, k1, k2, k3, k4⟩
            · exact (lk_01 p3 k5).elim
        · refine Or.inl ⟨1, υ, kept2, ?_, fun σ' μ ds hm hl => ?_⟩
          · unfold f160
            rw [o0, c_held hs8 (by rw [hv.1]; exact nI_ne0 hn1 (by omega)), lf_cr_r, r0_11, o61, q4, lf_ci_r, if_neg (by decide), r0_11, o61, p2, lf_ci_r, if_neg (by decide)]
          · obtain ⟨ω, k1, k2, k3, k4⟩ := hmod σ' μ ds hm hl
            rcases k4 with ⟨k4, k5⟩ | ⟨k4, k5⟩
            · exact (lk_10 p3 k5).elim
            · exact ⟨ω, k1, k2, k3, k4⟩
      · rw [if_neg c] at q4
        refine Or.inl ⟨0, τ, kt τ w1 q2, ?_, fun σ' μ ds hm hl => ?_⟩
        · unfold f160
          rw [o0, c_held hs8 (by rw [hv.1]; exact nI_ne0 hn1 (by omega)), lf_cr_r, r0_11, o61, q4, lf_ci_r, if_pos rfl]
        · obtain ⟨ψ, r1, r2, r3, r4⟩ := m_routes (σ := μ) (cs := ds) (N := N) hn hw hN hm.1 hm.2.2.2
          rw [if_neg c] at r4
          refine ⟨ψ, r1.kept rfl rfl, r1.l (by decide), by rw [r1.f List.not_mem_nil]; exact hm.2.2.1, ?_⟩
          show f272 N 72 (nI s) (hp σ', ds) = _
          unfold f272
          rw [o72, hl, lf_ci_r, if_pos (by decide), o72, r4, lf_ci_r, if_neg (fun q => q rfl)]
  obtain ⟨τ, ds, q1, q2, q3, q4⟩ := key
  refine ⟨τ, ds, q1, q2, q3, fun k23 => ?_⟩
  rw [← q4 (k23 (nI i + 6))]
  unfold g327_2353 h319 f319
  simp only [iv_s1 hs hi, Option.bind_some, if_pos hp_x]
  rfl
