/-! sums at one place changed -/
theorem sm_upd {F G : Nat → Nat} {c k0 : Nat} : ∀ {n : Nat}, k0 < n → (∀ k, k < n → k ≠ k0 → F k = G k) → F k0 + c = G k0 → sm F n + c = sm G n
  | 0, h, _, _ => absurd h (Nat.not_lt_zero _)
  | n + 1, h, h1, h2 => by
    show sm F n + F n + c = sm G n + G n
    by_cases e : k0 = n
    · subst e
      rw [sm_congr (F := F) (G := G) (fun k hk => h1 k (by omega) (by omega))]
      omega
    · have := sm_upd (n := n) (by omega) (fun k hk => h1 k (by omega)) h2
      rw [h1 n (by omega) (fun q => e q.symm)]
      omega
theorem sm_split {F : Nat → Nat} {x : Nat} : ∀ {m : Nat}, sm F (x + m) = sm F x + sm (fun b => F (x + b)) m
  | 0 => rfl
  | m + 1 => by
    show sm F (x + m) + F (x + m) = sm F x + (sm (fun b => F (x + b)) m + F (x + m))
    rw [sm_split (m := m)]
    omega
theorem sm_blk {F : Nat → Nat} {m : Nat} : ∀ {k : Nat}, sm F (m * k) = sm (fun a => sm (fun b => F (m * a + b)) m) k
  | 0 => rfl
  | k + 1 => by
    show sm F (m * k + m) = sm (fun a => sm (fun b => F (m * a + b)) m) k + sm (fun b => F (m * k + b)) m
    rw [sm_split, sm_blk (k := k)]
theorem sm_point {c : Nat} {n : Nat} (h : c < n) : sm (fun k => if c = k then 1 else 0) n = 1 := by
  have := sm_upd (F := fun _ => 0) (G := fun k => if c = k then 1 else 0) (c := 1) (k0 := c) h (fun k _ hk => by (try dsimp only); rw [if_neg (fun q => hk q.symm)]) (by (try dsimp only); rw [if_pos rfl])
  rw [sm_0] at this
  omega
/-! lines in a direction by their places, and who waits for whom -/
abbrev LN (f : Nat → Int32) (j : Nat) : Prop := j < 576 ∧ bt (f (j / 24)) (j % 24) = true
abbrev ev (H : Nat → Nat → Nat) (x t j : Nat) : Prop := x ≠ t ∧ H x t ≠ t ∧ 24 * H x t + H (H x t) t = j
def lw (H : Nat → Nat → Nat) (n : Nat) (R : Nat → Nat → Bool) (j : Nat) : Nat := sm (fun x => sm (fun t => if ev H x t j ∧ R x t = false then 1 else 0) n) n
def Radd (R : Nat → Nat → Bool) (x0 t0 : Nat) : Nat → Nat → Bool := fun x t => R x t || (decide (x = x0) && decide (t = t0))
theorem Radd_iff {R : Nat → Nat → Bool} {x0 t0 x t : Nat} : Radd R x0 t0 x t = true ↔ R x t = true ∨ (x = x0 ∧ t = t0) := by
  unfold Radd
  rw [Bool.or_eq_true, Bool.and_eq_true, decide_eq_true_iff, decide_eq_true_iff]
section LK
variable {f : Nat → Int32} {H : Nat → Nat → Nat} {n : Nat} {R : Nat → Nat → Bool}
theorem lw_dec {x0 t0 j : Nat} (hx : x0 < n) (ht : t0 < n) (h : R x0 t0 = false) : lw H n (Radd R x0 t0) j + (if ev H x0 t0 j then 1 else 0) = lw H n R j := by
  unfold lw
  refine sm_upd (k0 := x0) hx (fun x _ hne => ?_) ?_
  · refine sm_congr (fun t _ => ?_)
    have : Radd R x0 t0 x t = R x t := by
      unfold Radd
      rw [decide_eq_false hne, Bool.false_and, Bool.or_false]
    rw [this]
  · refine sm_upd (k0 := t0) ht (fun t _ hne => ?_) ?_
    · have : Radd R x0 t0 x0 t = R x0 t := by
        unfold Radd
        rw [decide_eq_false hne, Bool.and_false, Bool.or_false]
      rw [this]
    · have : Radd R x0 t0 x0 t0 = true := Radd_iff.mpr (Or.inr ⟨rfl, rfl⟩)
      try dsimp only
      rw [this, h]
      rw [if_neg (fun q => absurd q.2 (by decide))]
      by_cases c : ev H x0 t0 j
      · rw [if_pos c, if_pos ⟨c, rfl⟩]
      · rw [if_neg c, if_neg (fun q => c q.1)]
theorem lw_0 {j : Nat} : lw H n R j = 0 ↔ ∀ x t, x < n → t < n → ev H x t j → R x t = true := by
  constructor
  · intro h x t hx ht e
    have h1 := sm_zero (sm_zero h x hx) t ht
    try dsimp only at h1
    cases hR : R x t with
    | true => rfl
    | false => rw [if_pos ⟨e, hR⟩] at h1; cases h1
  · intro h
    unfold lw
    refine (sm_congr (G := fun _ => 0) (fun x hx => (sm_congr (G := fun _ => 0) (fun t ht => ?_)).trans sm_0)).trans sm_0
    rw [if_neg (fun q => by rw [h x t hx ht q.1] at q; exact absurd q.2 (by decide))]
theorem lw_le {j : Nat} (hn : n ≤ 24) : lw H n R j ≤ 576 := by
  have h1 : lw H n R j ≤ sm (fun _ => n) n := sm_le (fun x hx => by
    have : sm (fun t => if ev H x t j ∧ R x t = false then 1 else 0) n ≤ sm (fun _ => 1) n := sm_le (fun t _ => by split <;> omega)
    rw [sm_c] at this
    omega)
  rw [sm_c] at h1
  have : n * n ≤ 24 * 24 := Nat.mul_le_mul hn hn
  omega
/-- where the queue stands -/
def QI (f : Nat → Int32) (H : Nat → Nat → Nat) (n : Nat) (R : Nat → Nat → Bool) (q : Nat → Nat) (k : Nat) : Prop := (∀ i, i < k → LN f (q i)) ∧ (∀ i j, i < j → j < k → q i ≠ q j) ∧ (∀ i, i < k → lw H n R (q i) = 0) ∧ ∀ i, i < k → ∀ x t, x < n → t < n → ev H x t (q i) → ∃ i', i' < i ∧ q i' = 24 * x + H x t
theorem QI.ln {q : Nat → Nat} {k : Nat} (h : QI f H n R q k) : ∀ i, i < k → LN f (q i) := h.1
theorem QI.inj {q : Nat → Nat} {k : Nat} (h : QI f H n R q k) : ∀ i j, i < j → j < k → q i ≠ q j := h.2.1
theorem QI.snd {q : Nat → Nat} {k : Nat} (h : QI f H n R q k) : ∀ i, i < k → lw H n R (q i) = 0 := h.2.2.1
theorem QI.ord {q : Nat → Nat} {k : Nat} (h : QI f H n R q k) : ∀ i, i < k → ∀ x t, x < n → t < n → ev H x t (q i) → ∃ i', i' < i ∧ q i' = 24 * x + H x t := h.2.2.2
def qup (q : Nat → Nat) (k j : Nat) : Nat → Nat := fun i => if i = k then j else q i
theorem qup_at {q : Nat → Nat} {k j : Nat} : qup q k j k = j := if_pos rfl
theorem qup_ne {q : Nat → Nat} {k j i : Nat} (h : i ≠ k) : qup q k j i = q i := if_neg h
theorem QI.add {q : Nat → Nat} {k j : Nat} (h : QI f H n R q k) (h1 : LN f j) (h2 : lw H n R j = 0) (h3 : ∀ i, i < k → q i ≠ j) (h4 : ∀ x t, x < n → t < n → ev H x t j → ∃ i', i' < k ∧ q i' = 24 * x + H x t) : QI f H n R (qup q k j) (k + 1) := by
  refine ⟨fun i hi => ?_, fun i l hil hl => ?_, fun i hi => ?_, fun i hi x t hx ht e => ?_⟩
  · by_cases c : i = k
    · rw [c, qup_at]; exact h1
    · rw [qup_ne c]; exact h.ln i (by omega)
  · rw [qup_ne (by omega : i ≠ k)]
    by_cases c : l = k
    · rw [c, qup_at]; exact h3 i (by omega)
    · rw [qup_ne c]; exact h.inj i l hil (by omega)
  · by_cases c : i = k
    · rw [c, qup_at]; exact h2
    · rw [qup_ne c]; exact h.snd i (by omega)
  · by_cases c : i = k
    · rw [c, qup_at] at e
      obtain ⟨i', a1, a2⟩ := h4 x t hx ht e
      exact ⟨i', by omega, by rw [qup_ne (by omega)]; exact a2⟩
    · rw [qup_ne c] at e
      obtain ⟨i', a1, a2⟩ := h.ord i (by omega) x t hx ht e
      exact ⟨i', a1, by rw [qup_ne (by omega)]; exact a2⟩
theorem QI.rel {q : Nat → Nat} {k x0 t0 : Nat} (h : QI f H n R q k) (hx : x0 < n) (ht : t0 < n) (hR : R x0 t0 = false) : QI f H n (Radd R x0 t0) q k := by
  refine ⟨h.ln, h.inj, fun i hi => ?_, h.ord⟩
  have h1 := h.snd i hi
  have h2 := lw_dec (H := H) (j := q i) hx ht hR
  omega
/-! counting -/
def qc (q : Nat → Nat) (j : Nat) : Nat → Nat
  | 0 => 0
  | k + 1 => qc q j k + (if q k = j then 1 else 0)
theorem qc_sm {q : Nat → Nat} : ∀ {k : Nat}, (∀ i, i < k → q i < 576) → sm (fun j => qc q j k) 576 = k
  | 0, _ => sm_0
  | k + 1, h => by
    have e : sm (fun j => qc q j (k + 1)) 576 = sm (fun j => qc q j k) 576 + sm (fun j => if q k = j then 1 else 0) 576 := sm_add
    rw [e, qc_sm (k := k) (fun i hi => h i (by omega)), sm_point (h k (by omega))]
theorem qc_no {q : Nat → Nat} {j : Nat} : ∀ {k : Nat}, (∀ i, i < k → q i ≠ j) → qc q j k = 0
  | 0, _ => rfl
  | k + 1, h => by
    show qc q j k + (if q k = j then 1 else 0) = 0
    rw [qc_no (k := k) (fun i hi => h i (by omega)), if_neg (h k (by omega))]
theorem qc_le {q : Nat → Nat} {j : Nat} : ∀ {k : Nat}, (∀ i l, i < l → l < k → q i ≠ q l) → qc q j k ≤ 1
  | 0, _ => Nat.zero_le _
  | k + 1, h => by
    show qc q j k + (if q k = j then 1 else 0) ≤ 1
    by_cases c : q k = j
    · rw [qc_no (k := k) (fun i hi => by rw [← c]; exact h i k hi (by omega)), if_pos c]
      omega
    · rw [if_neg c]
      have := qc_le (j := j) (k := k) (fun i l a b => h i l a (by omega))
      omega
theorem ln_sm (hn : n ≤ 24) (hw : gw f n) : sm (fun j => if LN f j then 1 else 0) 576 = 2 * (lq f n 0 n).length := by
  rw [lq_twice hn hw]
  have eb : sm (fun j => if LN f j then 1 else 0) 576 = sm (fun a => sm (fun b => if LN f (24 * a + b) then 1 else 0) 24) 24 := sm_blk (m := 24) (k := 24)
  rw [eb]
  rw [sm_more (n := n) hn (fun a h1 h2 => (sm_congr (G := fun _ => 0) (fun b hb => by
    try dsimp only
    rw [if_neg (fun q => by
      have := q.2
      rw [show (24 * a + b) / 24 = a by omega] at this
      have := hw a (by omega) _ this
      omega)])).trans sm_0)]
  refine sm_congr (fun a ha => ?_)
  rw [i_pc_sm, sm_more (n := 24) (m := 32) (by omega) (fun k q1 _ => by rw [if_neg (fun q => by have := hw a (by omega) k q; omega)])]
  refine sm_congr (fun b hb => ?_)
  have e : LN f (24 * a + b) ↔ bt (f a) b = true := by
    unfold LN
    rw [show (24 * a + b) / 24 = a by omega, show (24 * a + b) % 24 = b by omega]
    exact ⟨fun q => q.2, fun q => ⟨by omega, q⟩⟩
  by_cases c : bt (f a) b = true
  · rw [if_pos c, if_pos (e.mpr c)]
  · rw [if_neg c, if_neg (fun q => c (e.mp q))]
theorem qc_ln {q : Nat → Nat} {k : Nat} (h : QI f H n R q k) (j : Nat) : qc q j k ≤ if LN f j then 1 else 0 := by
  by_cases c : LN f j
  · rw [if_pos c]; exact qc_le h.inj
  · rw [if_neg c, qc_no (fun i hi e => c (by rw [← e]; exact h.ln i hi))]
    exact Nat.le_refl _
theorem QI.le {q : Nat → Nat} {k : Nat} (hn : n ≤ 24) (hw : gw f n) (h : QI f H n R q k) : k ≤ 2 * (lq f n 0 n).length := by
  rw [← ln_sm hn hw, ← qc_sm (q := q) (k := k) (fun i hi => (h.ln i hi).1)]
  exact sm_le (fun j _ => qc_ln h j)
theorem QI.miss {q : Nat → Nat} {k : Nat} (hn : n ≤ 24) (hw : gw f n) (h : QI f H n R q k) : k < 2 * (lq f n 0 n).length ↔ ∃ j, LN f j ∧ ∀ i, i < k → q i ≠ j := by
  constructor
  · intro hk
    apply Classical.byContradiction
    intro hc
    rw [← ln_sm hn hw, ← qc_sm (q := q) (k := k) (fun i hi => (h.ln i hi).1)] at hk
    have : sm (fun j => if LN f j then 1 else 0) 576 ≤ sm (fun j => qc q j k) 576 := sm_le (fun j _ => by
      by_cases c : LN f j
      · rw [if_pos c]
        apply Classical.byContradiction
        intro h0
        apply hc
        refine ⟨j, c, fun i hi e => h0 ?_⟩
        have : ∀ k', i < k' → 1 ≤ qc q j k' := by
          intro k'
          induction k' with
          | zero => intro h; omega
          | succ k' ih =>
            intro h
            show 1 ≤ qc q j k' + (if q k' = j then 1 else 0)
            by_cases d : i = k'
            · rw [← d, if_pos e]; omega
            · have := ih (by omega); omega
        exact this k hi
      · rw [if_neg c]; exact Nat.zero_le _)
    omega
  · rintro ⟨j, h1, h2⟩
    rw [← ln_sm hn hw, ← qc_sm (q := q) (k := k) (fun i hi => (h.ln i hi).1)]
    refine sm_lt (fun l _ => qc_ln h l) ⟨j, h1.1, ?_⟩
    rw [if_pos h1, qc_no h2]
    omega
/-- what the answers say -/
def LK0 (H : Nat → Nat → Nat) (n : Nat) : Prop := ∃ (p : Nat → Nat) (B : Nat), ∀ x t, x < n → t < n → x ≠ t → H x t ≠ t → p (24 * x + H x t) < p (24 * H x t + H (H x t) t) ∧ p (24 * H x t + H (H x t) t) ≤ B
def LK1 (H : Nat → Nat → Nat) (n : Nat) : Prop := ∃ S : Nat → Prop, (∃ j, S j) ∧ ∀ j, S j → ∃ x t, x < n ∧ t < n ∧ ev H x t j ∧ S (24 * x + H x t)
def LM0 (H : Nat → Nat → Nat) (n : Nat) : Prop := ∃ (p : Nat → Nat) (B : Nat), ∀ x t, x < n → t < n → x ≠ t → H x t ≠ t → p (24 * H x t + H (H x t) t) < p (24 * x + H x t) ∧ p (24 * x + H x t) ≤ B
def LM1 (H : Nat → Nat → Nat) (n : Nat) : Prop := ∃ S : Nat → Prop, (∃ j, S j) ∧ ∀ j, S j → ∃ x t, x < n ∧ t < n ∧ x ≠ t ∧ H x t ≠ t ∧ j = 24 * x + H x t ∧ S (24 * H x t + H (H x t) t)
theorem lk_01 (h : LK0 H n) (h' : LM1 H n) : False := by
  obtain ⟨p, B, h⟩ := h
  obtain ⟨S, ⟨j, hj⟩, h'⟩ := h'
  have : ∀ m j, S j → B < p j + m → False := by
    intro m
    induction m with
    | zero =>
      intro j hj hB
      obtain ⟨x, t, a1, a2, a3, a4, a5, a6⟩ := h' j hj
      have := h x t a1 a2 a3 a4
      rw [← a5] at this
      omega
    | succ m ih =>
      intro j hj hB
      obtain ⟨x, t, a1, a2, a3, a4, a5, a6⟩ := h' j hj
      have := h x t a1 a2 a3 a4
      rw [← a5] at this
      exact ih _ a6 (by omega)
  exact this (B + 1) j hj (by omega)
theorem lk_10 (h : LK1 H n) (h' : LM0 H n) : False := by
  obtain ⟨p, B, h'⟩ := h'
  obtain ⟨S, ⟨j, hj⟩, h⟩ := h
  have : ∀ m j, S j → B < p j + m → False := by
    intro m
    induction m with
    | zero =>
      intro j hj hB
      obtain ⟨x, t, a1, a2, a3, a4⟩ := h j hj
      have := h' x t a1 a2 a3.1 a3.2.1
      rw [a3.2.2] at this
      omega
    | succ m ih =>
      intro j hj hB
      obtain ⟨x, t, a1, a2, a3, a4⟩ := h j hj
      have := h' x t a1 a2 a3.1 a3.2.1
      rw [a3.2.2] at this
      exact ih _ a4 (by omega)
  exact this (B + 1) j hj (by omega)
/-- the end of the queue -/
theorem QI.fin {q : Nat → Nat} {k : Nat} (hn : n ≤ 24) (hw : gw f n) (hH : ∀ x t, x < n → t < n → x ≠ t → H x t < n ∧ bt (f x) (H x t) = true) (h : QI f H n R q k) (hc : ∀ j, LN f j → lw H n R j = 0 → ∃ i, i < k ∧ q i = j) (hR : ∀ x t, x < n → t < n → x ≠ t → H x t ≠ t → (∃ i, i < k ∧ q i = 24 * x + H x t) → R x t = true) : (k < 2 * (lq f n 0 n).length → LK1 H n) ∧ (¬ k < 2 * (lq f n 0 n).length → LK0 H n) := by
  have hL : ∀ x t, x < n → t < n → x ≠ t → LN f (24 * x + H x t) := by
    intro x t hx ht hxt
    obtain ⟨a1, a2⟩ := hH x t hx ht hxt
    refine ⟨by omega, ?_⟩
    rw [show (24 * x + H x t) / 24 = x by omega, show (24 * x + H x t) % 24 = H x t by omega]
    exact a2
  constructor
  · intro hk
    obtain ⟨j, h1, h2⟩ := (h.miss hn hw).mp hk
    refine ⟨fun j => LN f j ∧ ∀ i, i < k → q i ≠ j, ⟨j, h1, h2⟩, ?_⟩
    rintro j ⟨h1, h2⟩
    apply Classical.byContradiction
    intro hno
    obtain ⟨i, hi, e⟩ := hc j h1 (lw_0.mpr (fun x t hx ht e => by
      cases hr : R x t with
      | true => rfl
      | false =>
        exfalso
        apply hno
        refine ⟨x, t, hx, ht, e, hL x t hx ht e.1, fun i hi e' => ?_⟩
        have := hR x t hx ht e.1 e.2.1 ⟨i, hi, e'⟩
        rw [hr] at this
        cases this))
    exact h2 i hi e
  · intro hk
    have hall : ∀ j, LN f j → ∃ i, i < k ∧ q i = j := by
      intro j hj
      apply Classical.byContradiction
      intro hno
      exact hk ((h.miss hn hw).mpr ⟨j, hj, fun i hi e => hno ⟨i, hi, e⟩⟩)
    have hp : ∃ p : Nat → Nat, ∀ j, LN f j → p j < k ∧ q (p j) = j := by
      refine ⟨fun j => if h : ∃ i, i < k ∧ q i = j then h.choose else 0, fun j hj => ?_⟩
      have := hall j hj
      try dsimp only
      rw [dif_pos this]
      exact this.choose_spec
    obtain ⟨p, hp⟩ := hp
    refine ⟨p, k, fun x t hx ht hxt hne => ?_⟩
    obtain ⟨a1, -⟩ := hH x t hx ht hxt
    obtain ⟨b1, b2⟩ := hp _ (hL x t hx ht hxt)
    obtain ⟨c1, c2⟩ := hp _ (hL (H x t) t a1 ht hne)
    obtain ⟨i', d1, d2⟩ := h.ord _ c1 x t hx ht ⟨hxt, hne, c2.symm⟩
    refine ⟨?_, by omega⟩
    have : i' = p (24 * x + H x t) := by
      apply Classical.byContradiction
      intro ne
      rcases Nat.lt_or_gt_of_ne ne with g | g
      · exact h.inj _ _ g b1 (by rw [d2, b2])
      · exact h.inj _ _ g (by omega) (by rw [d2, b2])
    omega
end LK
