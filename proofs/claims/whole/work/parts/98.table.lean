/-! the table of ways -/
def fo : Option Nat → Int32 → Int32
  | some c, _ => nI c
  | none, h => h
theorem ff_congr {p q : Nat → Bool} : ∀ (l : List Nat), (∀ a, a ∈ l → p a = q a) → l.find? p = l.find? q
  | [], _ => rfl
  | a :: l, h => by
    have h1 := h a List.mem_cons_self
    have h2 := ff_congr l (fun b hb => h b (List.mem_cons_of_mem _ hb))
    by_cases c : p a = true
    · rw [List.find?_cons_of_pos c, List.find?_cons_of_pos (by rw [← h1]; exact c)]
    · rw [List.find?_cons_of_neg c, List.find?_cons_of_neg (by rw [← h1]; exact c), h2]
theorem ff_filter {p q : Nat → Bool} : ∀ (l : List Nat), (l.filter p).find? q = l.find? (fun a => p a && q a)
  | [] => rfl
  | a :: l => by
    by_cases c : p a = true
    · rw [List.filter_cons_of_pos c]
      by_cases d : q a = true
      · rw [List.find?_cons_of_pos d, List.find?_cons_of_pos (by rw [c, d]; rfl)]
      · rw [List.find?_cons_of_neg d, List.find?_cons_of_neg (by rw [c, ts_nt d]; decide), ff_filter l]
    · rw [List.filter_cons_of_neg c, ff_filter l, List.find?_cons_of_neg (by rw [ts_nt c]; simp)]
/-- the first knot on the way from a to b -/
def hnx (f : Nat → Int32) (A : Int32) (a b : Nat) : Int32 := fo ((bl (f a)).find? (fun c => decide (gd f A a b < 24) && decide (gd f A c b + 1 = gd f A a b))) (-1)
def hst (f : Nat → Int32) (A : Int32) (s v t : Nat) : Int32 := if gd f A v t ≤ s then hnx f A v t else -1
/-- one knot's ball grown by its neighbours, and what is noted -/
def wdL (g : Nat → Int32) : List Nat → Int32 → (Nat → Int32) → Int32 × (Nat → Int32)
  | [], B, H => (B, H)
  | u :: l, B, H => wdL g l (B ||| (g u &&& (B ^^^ (-1)))) (fun t => if bt (g u &&& (B ^^^ (-1))) t = true then nI u else H t)
theorem b_grow {B x : Int32} : B ||| (x &&& (B ^^^ (-1))) = B ||| x := by
  refine b_eq (fun i => ?_)
  by_cases hi : i < 32
  · rw [b_or_iff, b_or_iff, b_and_iff, b_not_iff hi]
    constructor
    · rintro (h | h)
      · exact Or.inl h
      · exact Or.inr h.1
    · rintro (h | h)
      · exact Or.inl h
      · by_cases c : bt B i = true
        · exact Or.inl c
        · exact Or.inr ⟨h, c⟩
  · constructor
    · intro q; exact absurd (bt_lt q) hi
    · intro q; exact absurd (bt_lt q) hi
theorem wdL_spec {g : Nat → Int32} : ∀ (l : List Nat) (B : Int32) (H : Nat → Int32), (wdL g l B H).1 = un g l B ∧ ∀ t, t < 32 → (wdL g l B H).2 t = if bt B t = true then H t else fo (l.find? (fun u => bt (g u) t)) (H t)
  | [], B, H => ⟨rfl, fun t _ => by
    show H t = _
    split <;> rfl⟩
  | u :: l, B, H => by
    obtain ⟨h1, h2⟩ := wdL_spec (g := g) l (B ||| (g u &&& (B ^^^ (-1)))) (fun t => if bt (g u &&& (B ^^^ (-1))) t = true then nI u else H t)
    constructor
    · show (wdL g l _ _).1 = _
      rw [h1, un_cons, b_grow]
    · intro t ht
      show (wdL g l _ _).2 t = _
      rw [h2 t ht, b_grow, b_or]
      by_cases c : bt B t = true
      · rw [c, Bool.true_or, if_pos rfl, if_pos rfl, if_neg]
        rw [b_and_iff, b_not_iff ht]
        exact fun q => q.2 c
      · rw [ts_nt c, Bool.false_or, if_neg (show ¬ (false = true) by decide)]
        by_cases d : bt (g u) t = true
        · rw [if_pos d, if_pos (by rw [b_and_iff, b_not_iff ht]; exact ⟨d, c⟩), List.find?_cons_of_pos (p := fun u => bt (g u) t) d]
          rfl
        · rw [if_neg d, if_neg (by rw [b_and_iff]; exact fun q => d q.1), List.find?_cons_of_neg (p := fun u => bt (g u) t) d]
theorem wd_1 {g : Nat → Int32} {l : List Nat} {B : Int32} {H H' : Nat → Int32} : (wdL g l B H).1 = (wdL g l B H').1 := by rw [(wdL_spec l B H).1, (wdL_spec l B H').1]
theorem wd_2 {g : Nat → Int32} {l : List Nat} {B : Int32} {H H' : Nat → Int32} {t : Nat} (ht : t < 32) (h : H t = H' t) : (wdL g l B H).2 t = (wdL g l B H').2 t := by rw [(wdL_spec l B H).2 t ht, (wdL_spec l B H').2 t ht, h]
theorem gd_step {f : Nat → Int32} {A : Int32} {v c t : Nat} (hv : v < 24) (hc : c < 24) (he : bt (f v) c = true) (hA : bt A c = true) : gd f A v t ≤ gd f A c t + 1 := by
  have hc' := fun s (hs : s < 24) => gd_lt_iff (f := f) (A := A) (x := t) (v := c) (s := s) (by omega) hs
  have hv' := fun s (hs : s < 24) => gd_lt_iff (f := f) (A := A) (x := t) (v := v) (s := s) (by omega) hs
  have h24 := gd_le (f := f) (A := A) (v := v) (x := t)
  generalize gd f A c t = d at hc' ⊢
  generalize gd f A v t = e at hv' h24 ⊢
  apply Nat.le_of_not_lt
  intro q
  have h1 := (hv' (d + 1) (by omega)).mp q
  have h2 : bt (bal f A c d) t = true := by
    apply Classical.byContradiction
    intro r
    have := (hc' d (by omega)).mpr r
    omega
  have h3 : gR f A (d + 1) v t := gR_left.mpr (Or.inr ⟨c, he, hA, (bal_bt (by omega)).mp h2⟩)
  exact h1 ((bal_bt (by omega)).mpr h3)
/-- a step of the table is right -/
theorem hst_step {f : Nat → Int32} {n v s : Nat} (hn24 : n ≤ 24) (hw : gw f n) (hv : v < n) (hs : s < 23) {g : Nat → Int32} (hg : ∀ c, c < n → g c = bal f (al n) c s) : (wdL g (bl (f v)) (bal f (al n) v s) (fun t => hst f (al n) s v t)).1 = bal f (al n) v (s + 1) ∧ ∀ t, t < 24 → (wdL g (bl (f v)) (bal f (al n) v s) (fun t => hst f (al n) s v t)).2 t = hst f (al n) (s + 1) v t := by
  obtain ⟨h1, h2⟩ := wdL_spec (g := g) (bl (f v)) (bal f (al n) v s) (fun t => hst f (al n) s v t)
  have hfa : f v &&& al n = f v := b_eq (fun i => by
    rw [b_and_iff, al_in hn24]
    exact ⟨fun q => q.1, fun q => ⟨q, (hw v (by omega) i q).2.1⟩⟩)
  constructor
  · rw [h1, ← bal_next (g := g) (f := f) (A := al n) (v := v) (s := s) (by omega) (fun i q => by have := (al_in hn24).mp q; omega) (fun i q => hg i ((al_in hn24).mp q)), hfa]
  · intro t ht
    rw [h2 t (by omega)]
    have hlt := gd_lt_iff (f := f) (A := al n) (x := t) (v := v) (s := s) (by omega) (by omega)
    have hlt2 := gd_lt_iff (f := f) (A := al n) (x := t) (v := v) (s := s + 1) (by omega) (by omega)
    by_cases c : bt (bal f (al n) v s) t = true
    · have hle : gd f (al n) v t ≤ s := by
        apply Nat.le_of_not_lt
        intro q
        exact hlt.mp q c
      rw [if_pos c]
      unfold hst
      rw [if_pos hle, if_pos (by omega)]
    · rw [if_neg c]
      have hgt := hlt.mpr c
      have h0 : hst f (al n) s v t = -1 := by
        unfold hst
        rw [if_neg (by omega)]
      rw [h0]
      have hcong : ∀ m, (m = gd f (al n) v t) → m = s + 1 → (bl (f v)).find? (fun u => bt (g u) t) = (bl (f v)).find? (fun c => decide (gd f (al n) v t < 24) && decide (gd f (al n) c t + 1 = gd f (al n) v t)) := by
        intro m hm1 hm2
        refine ff_congr _ (fun c hc => ?_)
        have hb := bl_mem.mp hc
        obtain ⟨-, hcn, -, -⟩ := hw v (by omega) c hb
        have hst1 := gd_step (f := f) (A := al n) (v := v) (c := c) (t := t) (by omega) (by omega) hb ((al_in hn24).mpr hcn)
        have hlc := gd_lt_iff (f := f) (A := al n) (x := t) (v := c) (s := s) (by omega) (by omega)
        rw [hg c hcn, decide_eq_true (show gd f (al n) v t < 24 by omega), Bool.true_and]
        cases e : bt (bal f (al n) c s) t with
        | true =>
          have : ¬ s < gd f (al n) c t := fun q => hlc.mp q e
          rw [decide_eq_true (by omega)]
        | false =>
          have := hlc.mpr (by rw [e]; decide)
          rw [decide_eq_false (by omega)]
      by_cases d : gd f (al n) v t = s + 1
      · unfold hst
        rw [if_pos (by omega), hcong _ rfl d]
        rfl
      · have hn2 : (bl (f v)).find? (fun u => bt (g u) t) = none := by
          rw [List.find?_eq_none]
          intro u hu q
          have hb := bl_mem.mp hu
          obtain ⟨-, hcn, -, -⟩ := hw v (by omega) u hb
          rw [hg u hcn] at q
          have hst1 := gd_step (f := f) (A := al n) (v := v) (c := u) (t := t) (by omega) (by omega) hb ((al_in hn24).mpr hcn)
          have hlc := gd_lt_iff (f := f) (A := al n) (x := t) (v := u) (s := s) (by omega) (by omega)
          have : ¬ s < gd f (al n) u t := fun r => hlc.mp r q
          omega
        rw [hn2]
        unfold hst
        rw [if_neg (by omega)]
        rfl
def tr (y : Int64) : Nat := if y = 0 then 66 else 67
def tx (y : Int64) : Nat := if y = 0 then 67 else 66
theorem lay_tr (y : Int64) : hp_lay[tr y]? = some (0, 24, [], []) := by unfold tr; split <;> rfl
theorem lay_tx (y : Int64) : hp_lay[tx y]? = some (0, 24, [], []) := by unfold tx; split <;> rfl
theorem tr_tx (y : Int64) : tr y ≠ tx y := by unfold tr tx; split <;> decide
theorem tr_tog (y : Int64) : tr (tog y) = tx y := by
  unfold tr tx tog
  by_cases h : y = 0
  · rw [if_pos h, if_pos h]; rfl
  · rw [if_neg h, if_neg h]; rfl
theorem tr_in (y : Int64) : tr y ∈ [62, 66, 67] := by unfold tr; split <;> decide
theorem tx_in9 (y : Int64) : tx y ∈ [62, 66, 67] := by unfold tx; split <;> decide
theorem tr_o (y : Int64) : tr y = 66 ∨ tr y = 67 := by unfold tr; split <;> simp
theorem tx_o (y : Int64) : tx y = 66 ∨ tx y = 67 := by unfold tx; split <;> simp
section TB
variable {cs : Nat × Nat} {N s n : Nat} {f : Nat → Int32}
theorem tNear {σ : hp_S} {g : Nat → lf_R} : (lf_fr (hp σ, cs) 61 10 4).bind g = g (tr (σ.2.2.2 61 4)) := r61_4
theorem tNext {σ : hp_S} {g : Nat → lf_R} : (lf_fr (hp σ, cs) 61 10 5).bind g = g (tx (σ.2.2.2 61 5)) := r61_5
theorem c_wr {v u9 : Nat} {x3 x4 : Int32} (hv : v < 24) {k10 : Nat → Int32 → Int32 → Int32 → lf_W → lf_R} : ∀ (m u : Nat) (x : Int32) (σ : hp_S), (bl x).length = m → m < u → (∀ i, bt x i = true → i < 24) → ∃ τ, fr [62] [] σ τ ∧ (∀ t, t < 24 → τ.1 62 (24 * v + t) = if bt x t = true then nI u9 else σ.1 62 (24 * v + t)) ∧ (∀ j, (j < 24 * v ∨ 24 * v + 24 ≤ j) → τ.1 62 j = σ.1 62 j) ∧ g115_40 N k10 u 61 (nI v) x3 x4 (nI u9) x (hp σ, cs) = k10 61 (nI v) x3 (x4 &&& (x4 - 1)) (hp τ, cs) := by
  intro m
  induction m with
  | zero =>
    intro u x σ hm hu hx
    obtain ⟨u, rfl⟩ : ∃ q, u = q + 1 := ⟨u - 1, by omega⟩
    have hx0 : x = 0 := by
      apply Classical.byContradiction
      intro q
      obtain ⟨l, -, -, -, e, -⟩ := bl_low q
      rw [e, List.length_cons] at hm
      omega
    subst hx0
    refine ⟨σ, fr.rf, fun t _ => by rw [b_0, if_neg (by decide)], fun _ _ => rfl, ?_⟩
    unfold g115_40
    rw [if_pos rfl]
  | succ m ih =>
    intro u x σ hm hu hx
    obtain ⟨u, rfl⟩ : ∃ q, u = q + 1 := ⟨u - 1, by omega⟩
    have hx0 : ¬ x = 0 := by
      intro q
      rw [q, bl_0] at hm
      exact absurd hm (by simp)
    obtain ⟨l, l1, l2, l3, e, el⟩ := bl_low hx0
    have hl := hx l l2
    obtain ⟨τ, q1, q2, q3, q4⟩ := ih u (x &&& (x - 1)) (hp_wi σ 62 (24 * v + l) (nI u9)) (by rw [e, List.length_cons] at hm; omega) (by omega) (fun i q => hx i (by rw [l3, Bool.and_eq_true] at q; exact q.1))
    refine ⟨τ, (fr.wi (by decide)).tr q1, fun t ht => ?_, fun j hj => by rw [q3 j hj, hp_wi_nj (by omega)], ?_⟩
    · rw [q2 t ht, l3]
      by_cases c : t = l
      · subst c
        rw [l2, if_neg (by simp), hp_wi_at, if_pos rfl]
      · rw [decide_eq_true c, Bool.and_true, hp_wi_nj (by omega)]
    · unfold g115_40
      rw [if_neg hx0, r61_0, (el N _).1, lf_nest_r, lf_ci_r, ix_b, b62 (by omega)]
      exact q4
theorem c_wdl {v : Nat} {H : Nat → Int32} (hv : v < 24) (hN : iv_N N) : ∀ (l : List Nat) (u : Nat) (x B : Int32) (σ : hp_S) (H : Nat → Int32), bl x = l → l.length < u → (∀ i, bt x i = true → i < 24) → (∀ i, bt x i = true → ∀ j, bt (σ.1 (tr (σ.2.2.2 61 4)) i) j = true → j < 24) → (∀ t, t < 24 → σ.1 62 (24 * v + t) = H t) → ∃ τ, fr [62] [] σ τ ∧ (∀ t, t < 24 → τ.1 62 (24 * v + t) = (wdL (σ.1 (tr (σ.2.2.2 61 4))) l B H).2 t) ∧ (∀ j, (j < 24 * v ∨ 24 * v + 24 ≤ j) → τ.1 62 j = σ.1 62 j) ∧ g115_10 N u 61 (nI v) B x (hp σ, cs) = some (.inl (some (.int (wdL (σ.1 (tr (σ.2.2.2 61 4))) l B H).1)), (hp τ, cs)) := by
  intro l
  induction l with
  | nil =>
    intro u x B σ H hl hu hx hy hH
    obtain ⟨u, rfl⟩ : ∃ q, u = q + 1 := ⟨u - 1, by omega⟩
    have hx0 : x = 0 := by
      apply Classical.byContradiction
      intro q
      obtain ⟨l, -, -, -, e, -⟩ := bl_low q
      rw [hl] at e
      cases e
    subst hx0
    refine ⟨σ, fr.rf, hH, fun _ _ => rfl, ?_⟩
    unfold g115_10
    rw [if_pos rfl]
    rfl
  | cons a l ih =>
    intro u x B σ H hl hu hx hy hH
    rw [List.length_cons] at hu
    obtain ⟨u, rfl⟩ : ∃ q, u = q + 1 := ⟨u - 1, by omega⟩
    have hx0 : ¬ x = 0 := by
      intro q
      rw [q, bl_0] at hl
      cases hl
    obtain ⟨b, l1, l2, l3, e, el⟩ := bl_low hx0
    rw [hl] at e
    cases e
    have ha := hx a l2
    have hfx : ∀ i, bt (σ.1 (tr (σ.2.2.2 61 4)) a &&& (B ^^^ (-1))) i = true → i < 24 := fun i q => hy a l2 i (b_and_iff.mp q).1
    obtain ⟨τ, q1, q2, q3, q4⟩ := c_wr (N := N) (cs := cs) (v := v) (u9 := a) (x3 := B ||| (σ.1 (tr (σ.2.2.2 61 4)) a &&& (B ^^^ (-1)))) (x4 := x) (k10 := g115_10 N u) hv _ N (σ.1 (tr (σ.2.2.2 61 4)) a &&& (B ^^^ (-1))) σ rfl (by have := bl_le (σ.1 (tr (σ.2.2.2 61 4)) a &&& (B ^^^ (-1))); unfold iv_N at hN; omega) hfx
    have er : τ.1 (tr (τ.2.2.2 61 4)) = σ.1 (tr (σ.2.2.2 61 4)) := by
      rw [q1.g List.not_mem_nil, q1.r (by have := tr_o (σ.2.2.2 61 4); simp; omega)]
    obtain ⟨υ, p1, p2, p3, p4⟩ := ih u (x &&& (x - 1)) (B ||| (σ.1 (tr (σ.2.2.2 61 4)) a &&& (B ^^^ (-1)))) τ (fun t => if bt (σ.1 (tr (σ.2.2.2 61 4)) a &&& (B ^^^ (-1))) t = true then nI a else H t) rfl (by omega) (fun i q => hx i (by rw [l3, Bool.and_eq_true] at q; exact q.1)) (fun i q => by
      rw [er]
      exact hy i (by rw [l3, Bool.and_eq_true] at q; exact q.1)) (fun t ht => by rw [q2 t ht, hH t ht])
    rw [er] at p2 p4
    refine ⟨υ, q1.tr p1, p2, fun j hj => by rw [p3 j hj, q3 j hj], ?_⟩
    unfold g115_10
    rw [if_neg hx0, (el N _).1, lf_nest_r, lf_ci_r, tNear, hp_ri (lay_tr _) (in_nI ha (by omega)), Option.bind_some, nI_clamp (by omega), q4]
    exact p4
/-- the table after s steps, k rows a step further -/
def TT (f : Nat → Int32) (n s k : Nat) (σ : hp_S) : Prop := (∀ v, v < n → σ.1 (tr (σ.2.2.2 61 4)) v = bal f (al n) v s) ∧ (∀ v, v < k → σ.1 (tx (σ.2.2.2 61 4)) v = bal f (al n) v (s + 1)) ∧ ∀ v t, v < n → t < n → σ.1 62 (24 * v + t) = hst f (al n) (if v < k then s + 1 else s) v t
theorem bal_n24 {v t : Nat} (hn : n ≤ 24) (hv : v < n) {i : Nat} (q : bt (bal f (al n) v t) i = true) : i < n := (al_in hn).mp (gR_in ((al_in hn).mpr hv) ((bal_bt (by omega)).mp q))
theorem c_tv {s9 : Nat} (hs : s < 8) (hn : n ≤ 24) (hw : gw f n) (hN : iv_N N) (hs9 : s9 < 23) {x4 : Int32} {k68 : Nat → Nat → Int32 → Int32 → Int32 → lf_W → lf_R} : ∀ (m v u : Nat) (σ : hp_S), v + m = n → m < u → (∀ k, k < 24 → σ.1 (3 + 2 * s) k = f k) → σ.2.2.2 61 4 = σ.2.2.2 61 5 → TT f n s9 v σ → ∃ τ, fr [62, 66, 67] [(61, 4), (61, 5)] σ τ ∧ τ.2.2.2 61 4 = τ.2.2.2 61 5 ∧ TT f n (s9 + 1) 0 τ ∧ g114_77 N k68 u 61 (2 + 2 * s) (nI n) (al n) x4 (nI v) (hp σ, cs) = k68 61 (2 + 2 * s) (nI n) (al n) (x4 + 1) (hp τ, cs) := by
  intro m
  induction m with
  | zero =>
    intro v u σ hv hu ef hsw hT
    obtain ⟨u, rfl⟩ : ∃ q, u = q + 1 := ⟨u - 1, by omega⟩
    have et : ∀ (a k : Nat) (y : Int64) (ρ : hp_S), (hp_wg ρ a k y).2.2.2 a k = y := by
      intro a k y ρ
      show hp_up ρ.2.2.2 a k y a k = y
      unfold hp_up
      rw [if_pos ⟨rfl, rfl⟩]
    have e4 : (hp_wg (hp_wg σ 61 4 (tog (σ.2.2.2 61 4))) 61 5 (tog (σ.2.2.2 61 4))).2.2.2 61 4 = tog (σ.2.2.2 61 4) := by
      show hp_up (hp_wg σ 61 4 (tog (σ.2.2.2 61 4))).2.2.2 61 5 (tog (σ.2.2.2 61 4)) 61 4 = _
      unfold hp_up
      rw [if_neg (by decide)]
      exact et _ _ _ _
    refine ⟨hp_wg (hp_wg σ 61 4 (tog (σ.2.2.2 61 4))) 61 5 (tog (σ.2.2.2 61 4)), (fr.wg (by decide)).tr (fr.wg (by decide)), e4.trans (et _ _ _ _).symm, ⟨fun w hw' => ?_, fun w hw' => absurd hw' (Nat.not_lt_zero w), fun w t hw' ht => ?_⟩, ?_⟩
    · rw [e4, tr_tog]
      exact hT.2.1 w (by omega)
    · show σ.1 62 (24 * w + t) = _
      rw [hT.2.2 w t hw' ht, if_pos (by omega), if_neg (Nat.not_lt_zero w)]
    · unfold g114_77
      rw [if_pos (nI_le (by omega) (by omega)), tNear, tNext, ← hsw, hp_sws (a := 61) (k := 4) (p := 66) (y := tog (σ.2.2.2 61 4)) rfl rfl rfl (by
        show tx (σ.2.2.2 61 4) = tr (tog (σ.2.2.2 61 4))
        exact (tr_tog _).symm), Option.bind_some, hp_sws (a := 61) (k := 5) (p := 67) (y := tog (σ.2.2.2 61 4)) rfl rfl rfl (by
        show tr (σ.2.2.2 61 4) = tx (tog (σ.2.2.2 61 4))
        unfold tr tx tog
        by_cases h : σ.2.2.2 61 4 = 0
        · rw [if_pos h, if_pos h]; rfl
        · rw [if_neg h, if_neg h]; rfl), Option.bind_some]
  | succ m ih =>
    intro v u σ hv hu ef hsw hT
    obtain ⟨u, rfl⟩ : ∃ q, u = q + 1 := ⟨u - 1, by omega⟩
    obtain ⟨T1, T2, T3⟩ := hT
    have fin : ∀ (ρ : hp_S), fr [62] [] σ ρ → (∀ t, t < n → ρ.1 62 (24 * v + t) = hst f (al n) (s9 + 1) v t) → (∀ j, (j < 24 * v ∨ 24 * v + 24 ≤ j) → ρ.1 62 j = σ.1 62 j) → ∃ τ, fr [62, 66, 67] [(61, 4), (61, 5)] σ τ ∧ τ.2.2.2 61 4 = τ.2.2.2 61 5 ∧ TT f n (s9 + 1) 0 τ ∧ g114_117 N k68 (g114_77 N k68 u) 61 (2 + 2 * s) (nI n) (al n) x4 (nI v) (bal f (al n) v (s9 + 1)) (nI v) (tx (σ.2.2.2 61 4)) (hp ρ, cs) = k68 61 (2 + 2 * s) (nI n) (al n) (x4 + 1) (hp τ, cs) := by
      intro ρ r1 r2 r3
      have eg : ρ.2.2.2 61 4 = σ.2.2.2 61 4 := r1.g List.not_mem_nil
      have hT' : TT f n s9 (v + 1) (hp_wi ρ (tx (σ.2.2.2 61 4)) v (bal f (al n) v (s9 + 1))) := by
        refine ⟨fun w hw' => ?_, fun w hw' => ?_, fun w t hw' ht => ?_⟩
        · show (hp_wi ρ (tx (σ.2.2.2 61 4)) v (bal f (al n) v (s9 + 1))).1 (tr (ρ.2.2.2 61 4)) w = _
          rw [eg, hp_wi_ne (tr_tx _), r1.r (by have := tr_o (σ.2.2.2 61 4); simp; omega)]
          exact T1 w hw'
        · show (hp_wi ρ (tx (σ.2.2.2 61 4)) v (bal f (al n) v (s9 + 1))).1 (tx (ρ.2.2.2 61 4)) w = _
          rw [eg]
          by_cases c : w = v
          · rw [c, hp_wi_at]
          · rw [hp_wi_nj c, r1.r (by have := tx_o (σ.2.2.2 61 4); simp; omega)]
            exact T2 w (by omega)
        · rw [hp_wi_ne (by have := tx_o (σ.2.2.2 61 4); omega)]
          by_cases c : w = v
          · rw [c, r2 t ht, if_pos (by omega)]
          · rw [r3 _ (by omega), T3 w t hw' ht]
            by_cases c2 : w < v
            · rw [if_pos c2, if_pos (by omega)]
            · rw [if_neg c2, if_neg (by omega)]
      obtain ⟨τ, q1, q2, q3, q4⟩ := ih (v + 1) u (hp_wi ρ (tx (σ.2.2.2 61 4)) v (bal f (al n) v (s9 + 1))) (by omega) (by omega) (fun k hk => by
        rw [hp_wi_ne (by have := tx_o (σ.2.2.2 61 4); omega), r1.r (by simp; omega)]
        exact ef k hk) (by
        show ρ.2.2.2 61 4 = ρ.2.2.2 61 5
        rw [eg, r1.g List.not_mem_nil]; exact hsw) hT'
      refine ⟨τ, ((r1.wk (fun _ h => by simp at h; simp [h]) (fun _ h => absurd h List.not_mem_nil)).tr (fr.wi (tx_in9 _))).tr q1, q2, q3, ?_⟩
      unfold g114_117
      rw [hp_swi (lay_tx _) (in_nI (by omega) (by omega)), Option.bind_some, nI_clamp (by omega), nI_1]
      exact q4
    rw [g114_77]
    rw [if_neg (nI_ge (by omega) (by omega)), tNext, tNear, hp_ri (lay_tr _) (in_nI (by omega) (by omega)), Option.bind_some, nI_clamp (by omega), T1 v (by omega), ← hsw]
    by_cases c : bal f (al n) v s9 = al n
    · rw [if_neg (fun q => q c)]
      have e1 : bal f (al n) v (s9 + 1) = al n := b_eq (fun i => ⟨fun q => (al_in hn).mpr (bal_n24 hn (by omega) q), fun q => bal_mono (by omega) (Nat.le_succ s9) (by rw [c]; exact q)⟩)
      have := fin σ fr.rf (fun t ht => ?_) (fun _ _ => rfl)
      · rw [e1] at this
        exact this
      · rw [T3 v t (by omega) ht, if_neg (by omega)]
        unfold hst
        have hlt := gd_lt_iff (f := f) (A := al n) (x := t) (v := v) (s := s9) (by omega) (by omega)
        have : ¬ s9 < gd f (al n) v t := fun q => hlt.mp q (by rw [c]; exact (al_in hn).mpr ht)
        rw [if_pos (by omega), if_pos (by omega)]
    · rw [if_pos c, sN_r hs, sN_ri hs (by omega), ef v (by omega), o61]
      obtain ⟨hs1, hs2⟩ := hst_step (f := f) (n := n) (v := v) (s := s9) hn hw (by omega) hs9 (g := σ.1 (tr (σ.2.2.2 61 4))) T1
      obtain ⟨ρ, r1, r2, r3, r4⟩ := c_wdl (N := N) (cs := cs) (v := v) (H := fun _ => 0) (by omega) hN (bl (f v)) N (f v) (bal f (al n) v s9) σ (fun t => σ.1 62 (24 * v + t)) rfl (by have := bl_le (f v); unfold iv_N at hN; omega) (fun i q => by have := hw v (by omega) i q; omega) (fun i q j r => by
        have hi := (hw v (by omega) i q).2.1
        rw [T1 i hi] at r
        have := bal_n24 hn hi r
        omega) (fun t ht => rfl)
      rw [wd_1 (H' := fun t => hst f (al n) s9 v t), hs1] at r4
      have pre : f115 N 61 (f v) (nI v) (hp σ, cs) = some (.inl (some (.int (bal f (al n) v (s9 + 1)))), (hp ρ, cs)) := by
        unfold f115
        rw [tNear, hp_ri (lay_tr _) (in_nI (by omega) (by omega)), Option.bind_some, nI_clamp (by omega), T1 v (by omega)]
        exact r4
      rw [pre, lf_ci_r]
      exact fin ρ r1 (fun t ht => by rw [r2 t (by omega), wd_2 (H' := fun t => hst f (al n) s9 v t) (by omega) (by show σ.1 62 (24 * v + t) = _; rw [T3 v t (by omega) ht, if_neg (by omega)]), hs2 t (by omega)]) r3
theorem c_ts (hs : s < 8) (h1 : 1 ≤ n) (hn : n ≤ 24) (hw : gw f n) (hN : iv_N N) : ∀ (m t u : Nat) (σ : hp_S), t + m = n → 1 ≤ t → m < u → (∀ k, k < 24 → σ.1 (3 + 2 * s) k = f k) → σ.2.2.2 61 4 = σ.2.2.2 61 5 → TT f n (t - 1) 0 σ → ∃ τ, fr [62, 66, 67] [(61, 4), (61, 5)] σ τ ∧ τ.2.2.2 61 4 = τ.2.2.2 61 5 ∧ TT f n (n - 1) 0 τ ∧ g114_68 N u 61 (2 + 2 * s) (nI n) (al n) (nI t) (hp σ, cs) = some (.inl (some (.int (if bal f (al n) 0 (n - 1) = al n then 1 else 0))), (hp τ, cs)) := by
  intro m
  induction m with
  | zero =>
    intro t u σ ht h1t hu ef hsw hT
    obtain ⟨u, rfl⟩ : ∃ q, u = q + 1 := ⟨u - 1, by omega⟩
    rw [show t - 1 = n - 1 by omega] at hT
    refine ⟨σ, fr.rf, hsw, hT, ?_⟩
    unfold g114_68
    rw [if_pos (nI_le (by omega) (by omega)), tNear, show (0 : Int32) = nI 0 from rfl, hp_ri (lay_tr _) (in_nI (by omega) (by omega)), Option.bind_some, nI_clamp (by omega), hT.1 0 (by omega)]
    by_cases c : bal f (al n) 0 (n - 1) = al n
    · rw [if_neg (fun q => q c), if_pos c]
    · rw [if_pos c, if_neg c]
  | succ m ih =>
    intro t u σ ht h1t hu ef hsw hT
    obtain ⟨u, rfl⟩ : ∃ q, u = q + 1 := ⟨u - 1, by omega⟩
    obtain ⟨τ, q1, q2, q3, q4⟩ := c_tv (N := N) (cs := cs) (s9 := t - 1) (x4 := nI t) (k68 := g114_68 N u) hs hn hw hN (by omega) n 0 N σ (by omega) (by unfold iv_N at hN; omega) ef hsw hT
    obtain ⟨υ, p1, p2, p3, p4⟩ := ih (t + 1) u τ (by omega) (by omega) (by omega) (fun k hk => by rw [q1.r (by simp; omega)]; exact ef k hk) q2 (by rw [show t + 1 - 1 = t - 1 + 1 by omega]; exact q3)
    refine ⟨υ, q1.tr p1, p2, p3, ?_⟩
    rw [g114_68]
    rw [if_neg (nI_ge (by omega) (by omega)), show (0 : Int32) = nI 0 from rfl, q4, nI_1]
    exact p4
end TB
