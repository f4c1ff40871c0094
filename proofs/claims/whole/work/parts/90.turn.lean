/-! a line turned for a while -/
def al (n : Nat) : Int32 := lf_shl 1 (nI n) - 1
theorem al_in {n i : Nat} (hn : n ≤ 24) : bt (al n) i = true ↔ i < n := al_bt (by omega)
theorem al_0 {n : Nat} (h1 : 1 ≤ n) (hn : n ≤ 24) : ¬ al n = 0 := by
  intro q
  have := (al_in (i := 0) hn).mpr h1
  rw [q, b_0] at this
  cases this
theorem gw_fl {f : Nat → Int32} {n p q : Nat} (hn : n ≤ 24) (hw : gw f n) (hp : p < n) (hq : q < n) (hne : p ≠ q) : gw (fl_r f p q) n := by
  intro a ha b hb
  have hb32 := bt_lt hb
  rw [fl_bit (by omega) (by omega) hne hb32] at hb
  by_cases c : (a = p ∧ b = q) ∨ (a = q ∧ b = p)
  · refine ⟨by omega, by omega, by omega, ?_⟩
    rw [decide_eq_true c] at hb
    have h1 : bt (f a) b = false := by cases e : bt (f a) b <;> simp_all
    have h2 : bt (f b) a = false := by
      cases e : bt (f b) a with
      | false => rfl
      | true =>
        rw [(hw b (by omega) a e).2.2.2] at h1
        cases h1
    rw [fl_bit (by omega) (by omega) hne (by omega), decide_eq_true (by omega), h2]
    rfl
  · rw [decide_eq_false c, Bool.xor_false] at hb
    obtain ⟨q1, q2, q3, q4⟩ := hw a ha b hb
    refine ⟨q1, q2, q3, ?_⟩
    rw [fl_bit (by omega) (by omega) hne (by omega), decide_eq_false (by omega), q4]
    rfl
theorem xx (x y : Int32) : x ^^^ y ^^^ y = x := by
  apply b_ext
  intro i hi
  rw [b_xor, b_xor]
  cases bt x i <;> cases bt y i <;> rfl
theorem fl_fl {f : Nat → Int32} {p q k : Nat} (hne : p ≠ q) : fl_r (fl_r f p q) p q k = f k := by
  have e : ∀ j, fl_r f p q j = if j = q then f q ^^^ lf_shl 1 (nI p) else if j = p then f p ^^^ lf_shl 1 (nI q) else f j := fun _ => rfl
  show (if k = q then fl_r f p q q ^^^ lf_shl 1 (nI p) else if k = p then fl_r f p q p ^^^ lf_shl 1 (nI q) else fl_r f p q k) = f k
  by_cases c1 : k = q
  · rw [if_pos c1, e, if_pos rfl, xx, c1]
  · rw [if_neg c1]
    by_cases c2 : k = p
    · rw [if_pos c2, e, if_neg hne, if_pos rfl, xx, c2]
    · rw [if_neg c2, e, if_neg c1, if_neg c2]
theorem fl_congr {f g : Nat → Int32} {p q : Nat} (hp : p < 24) (hq : q < 24) (h : ∀ k, k < 24 → f k = g k) : ∀ k, k < 24 → fl_r f p q k = fl_r g p q k := by
  intro k hk
  unfold fl_r
  rw [h p hp, h q hq, h k hk]
/-- both rows turned -/
def fl2 (σ : hp_S) (r p q : Nat) : hp_S := hp_2 σ r p q (σ.1 r p ^^^ lf_shl 1 (nI q)) (σ.1 r q ^^^ lf_shl 1 (nI p))
theorem fl2_at {σ : hp_S} {r p q k : Nat} : (fl2 σ r p q).1 r k = fl_r (σ.1 r) p q k := by
  unfold fl2 fl_r
  rw [hp_2_at]
theorem fl2_fr {A : List Nat} {F : List (Nat × Nat)} {σ : hp_S} {r p q : Nat} (h : r ∈ A) : fr A F σ (fl2 σ r p q) := (fr.wi h).tr (fr.wi h)
/-- turned, something else done, turned back -/
theorem fl2_back {A : List Nat} {F : List (Nat × Nat)} {σ τ : hp_S} {r p q : Nat} (hne : p ≠ q) (hr : r ∉ A) (h : fr A F (fl2 σ r p q) τ) : fr A F σ (fl2 τ r p q) := by
  refine ⟨fun a ha => ?_, fun a k ha => h.2 a k ha⟩
  by_cases e : a = r
  · subst e
    refine ⟨funext fun k => ?_, (h.1 a ha).2⟩
    rw [fl2_at]
    have e1 : τ.1 a = fl_r (σ.1 a) p q := by
      rw [(h.1 a ha).1]
      funext j
      exact fl2_at
    rw [e1, fl_fl hne]
  · have h2 := h.1 a ha
    refine ⟨?_, h2.2⟩
    unfold fl2
    rw [hp_2_ne e, h2.1]
    unfold fl2
    rw [hp_2_ne e]
section TU
variable {σ : hp_S} {cs : Nat × Nat} {N s n p q : Nat} {f : Nat → Int32}
theorem c_flip2 (hs : s < 8) (hp' : p < 24) (hq : q < 24) (hne : p ≠ q) : f57 N (2 + 2 * s) (nI p) (nI q) (hp σ, cs) = some (.inl none, (hp (fl2 σ (3 + 2 * s) p q), cs)) := c_flip hs hp' hq hne
theorem c_all (hs : s < 8) (e : σ.2.2.1 (2 + 2 * s) 1 = nI n) : f54 N (2 + 2 * s) (hp σ, cs) = some (.inl (some (.int (al n))), (hp σ, cs)) := by
  unfold f54
  rw [sN_1 hs, e]
  rfl
theorem m_joins2 (hp' : p < 24) (hq : q < 24) (hne : p ≠ q) (ef : ∀ k, k < 24 → σ.1 76 k = f k) (h1 : bt (f p) q = false) (h2 : bt (f q) p = false) : ∃ τ, fr [76] [] σ τ ∧ (∀ k, k < 24 → τ.1 76 k = fl_r f p q k) ∧ f183 N 72 (nI p) (nI q) (hp σ, cs) = some (.inl none, (hp τ, cs)) := by
  refine ⟨fl2 σ 76 p q, fl2_fr (by decide), fun k hk => by rw [fl2_at]; exact fl_congr hp' hq ef k hk, ?_⟩
  rw [m_joins hp' hq hne]
  unfold fl2
  rw [x_or (by omega) (by rw [ef p hp']; exact h1), x_or (by omega) (by rw [ef q hq]; exact h2)]
theorem m_parts2 (hp' : p < 24) (hq : q < 24) (hne : p ≠ q) (ef : ∀ k, k < 24 → σ.1 76 k = f k) (h1 : bt (f p) q = true) (h2 : bt (f q) p = true) : ∃ τ, fr [76] [] σ τ ∧ (∀ k, k < 24 → τ.1 76 k = fl_r f p q k) ∧ f184 N 72 (nI p) (nI q) (hp σ, cs) = some (.inl none, (hp τ, cs)) := by
  refine ⟨fl2 σ 76 p q, fl2_fr (by decide), fun k hk => by rw [fl2_at]; exact fl_congr hp' hq ef k hk, ?_⟩
  rw [m_parts hp' hq hne]
  unfold fl2
  rw [x_and (by omega) (by rw [ef p hp']; exact h1), x_and (by omega) (by rw [ef q hq]; exact h2)]
theorem fl_on (hp' : p < 24) (hq : q < 24) (hne : p ≠ q) : bt (fl_r f p q p) q = !bt (f p) q ∧ bt (fl_r f p q q) p = !bt (f q) p := by
  rw [fl_bit hp' hq hne (by omega), fl_bit hp' hq hne (by omega), decide_eq_true (by omega), decide_eq_true (by omega)]
  cases bt (f p) q <;> cases bt (f q) p <;> exact ⟨rfl, rfl⟩
/-- PRICE of a slot's net, all knots -/
theorem c_priceS {L : Nat} (hs : s < 8) (h1 : 1 ≤ n) (hn : n ≤ 24) (hN : iv_N N) (hL : L ≤ 2000000) (ef : ∀ k, k < 24 → σ.1 (3 + 2 * s) k = f k) (hsw : σ.2.2.2 29 0 = σ.2.2.2 29 1) : ∃ (τ : hp_S) (p : Nat), fr [30, 31] [(29, 0), (29, 1), (29, 3), (29, 4)] σ τ ∧ τ.2.2.2 29 0 = τ.2.2.2 29 1 ∧ (gPr f (al n) < L → p = gPr f (al n) ∧ (gJ f (al n) → τ.2.2.1 29 3 = nI (gF f (al n)) ∧ τ.2.2.1 29 4 = nI (gS f (al n)))) ∧ (L ≤ gPr f (al n) → L ≤ p) ∧ p ≤ 2000000 ∧ f107 N 29 (3 + 2 * s) (al n) (nI L) (hp σ, cs) = some (.inl (some (.int (nI p))), (hp τ, cs)) :=
  c_price (lay_row hs) (by omega) (fun i q => by have := (al_in hn).mp q; omega) (al_0 h1 hn) hN hL ef hsw
theorem m_price2 (hn : n ≤ 24) (hN : iv_N N) (hf : gw f n) (e : σ.2.2.1 72 4 = nI n) (ef : ∀ j, j < 24 → σ.1 76 j = f j) : ∃ τ, fr [81] [(72, 24), (72, 25)] σ τ ∧ f223 N 72 (hp σ, cs) = some (.inl (some (.int (nI (gPr f (al n))))), (hp τ, cs)) := m_price hn hN hf e ef
end TU
/-! the missing line -/
def mi (f : Nat → Int32) (n a : Nat) : Nat → Nat → Int32 × Nat → Int32 × Nat
  | 0, _, q => q
  | m + 1, b, q => mi f n a m (b + 1) (if bt (f a) b = true then q else if gPr (fl_r f a b) (al n) < q.2 then (nI (32 * a + b), gPr (fl_r f a b) (al n)) else q)
def mo (f : Nat → Int32) (n : Nat) : Nat → Nat → Int32 × Nat → Int32 × Nat
  | 0, _, q => q
  | m + 1, a, q => mo f n m (a + 1) (mi f n a (n - (a + 1)) (a + 1) q)
/-- what holds of a choice: none yet, or a line and its price -/
def mok (q : Int32 × Nat) : Prop := (q.1 = -1 ∧ q.2 = 1000001) ∨ (¬ q.1 = -1 ∧ q.2 ≤ 1000000)
theorem mok_s {f : Nat → Int32} {n a b : Nat} {q : Int32 × Nat} (ha : a < 24) (hb : b < 24) (h : mok q) : mok (if bt (f a) b = true then q else if gPr (fl_r f a b) (al n) < q.2 then (nI (32 * a + b), gPr (fl_r f a b) (al n)) else q) := by
  split
  · exact h
  · split
    · refine Or.inr ⟨?_, gPr_max⟩
      show ¬ nI (32 * a + b) = -1
      rw [q_ne1 (by omega)]
      exact id
    · exact h
section MI
variable {cs : Nat × Nat} {N s n : Nat} {f : Nat → Int32}
theorem c_mi (hs : s < 8) (h1 : 1 ≤ n) (hn : n ≤ 24) (hN : iv_N N) {a : Nat} (ha : a < n) {k10 : Nat → Nat → Int32 → Int32 → lf_W → lf_R} : ∀ (m b u : Nat) (q : Int32 × Nat) (σ : hp_S), b + m = n → a < b → m < u → mok q → σ.2.2.1 (2 + 2 * s) 1 = nI n → (∀ k, k < 24 → σ.1 (3 + 2 * s) k = f k) → σ.2.2.2 29 0 = σ.2.2.2 29 1 → σ.2.2.1 42 2 = nI q.2 → ∃ τ, fr [30, 31] [(29, 0), (29, 1), (29, 3), (29, 4), (42, 2)] σ τ ∧ τ.2.2.2 29 0 = τ.2.2.2 29 1 ∧ mok (mi f n a m b q) ∧ τ.2.2.1 42 2 = nI (mi f n a m b q).2 ∧ g15_23 N k10 u 42 (2 + 2 * s) q.1 (nI a) (nI b) (hp σ, cs) = k10 42 (2 + 2 * s) (mi f n a m b q).1 (nI (a + 1)) (hp τ, cs) := by
  intro m
  induction m with
  | zero =>
    intro b u q σ hb hab hu hq e ef hsw ep
    obtain ⟨u, rfl⟩ : ∃ q, u = q + 1 := ⟨u - 1, by omega⟩
    refine ⟨σ, fr.rf, hsw, hq, ep, ?_⟩
    unfold g15_23
    rw [sN_1 hs, e, if_pos (nI_le (by omega) (by omega)), nI_1]
    rfl
  | succ m ih =>
    intro b u q σ hb hab hu hq e ef hsw ep
    obtain ⟨u, rfl⟩ : ∃ q, u = q + 1 := ⟨u - 1, by omega⟩
    have hk := mok_s (f := f) (n := n) (a := a) (b := b) (by omega) (by omega) hq
    have em : mi f n a (m + 1) b q = mi f n a m (b + 1) (if bt (f a) b = true then q else if gPr (fl_r f a b) (al n) < q.2 then (nI (32 * a + b), gPr (fl_r f a b) (al n)) else q) := rfl
    rw [em]
    by_cases c : bt (f a) b = true
    · rw [if_pos c] at hk ⊢
      obtain ⟨τ, q1, q2, q3, q4, q5⟩ := ih (b + 1) u q σ (by omega) (by omega) (by omega) hq e ef hsw ep
      refine ⟨τ, q1, q2, q3, q4, ?_⟩
      rw [g15_23]
      unfold g15_111
      rw [sN_1 hs, e, if_neg (nI_ge (by omega) (by omega)), sN_o hs, c_joins hs (by omega) (by omega), ef a (by omega), if_pos c, lf_ci_r, if_pos (by decide), nI_1]
      exact q5
    · rw [if_neg c] at hk ⊢
      have hL : q.2 ≤ 2000000 := by rcases hq with h | h <;> omega
      have ef2 : ∀ k, k < 24 → (fl2 σ (3 + 2 * s) a b).1 (3 + 2 * s) k = fl_r f a b k := fun k hk => by rw [fl2_at]; exact fl_congr (by omega) (by omega) ef k hk
      obtain ⟨τ, p, t1, t2, t3, t4, t5, t6⟩ := c_priceS (σ := fl2 σ (3 + 2 * s) a b) (cs := cs) (N := N) (L := q.2) hs h1 hn hN hL ef2 hsw
      have w1 : fr [30, 31] [(29, 0), (29, 1), (29, 3), (29, 4)] σ (fl2 τ (3 + 2 * s) a b) := fl2_back (by omega) (by simp; omega) t1
      have hpre : g15_23 N k10 (u + 1) 42 (2 + 2 * s) q.1 (nI a) (nI b) (hp σ, cs) = if nI q.2 ≤ nI p then g15_97 N k10 (g15_23 N k10 u) 42 (2 + 2 * s) (nI a) (nI b) (nI p) q.1 (hp (fl2 τ (3 + 2 * s) a b), cs) else g15_97 N k10 (g15_23 N k10 u) 42 (2 + 2 * s) (nI a) (nI b) (nI p) (nI (32 * a + b)) (hp (fl2 τ (3 + 2 * s) a b), cs) := by
        rw [g15_23]
        rw [sN_1 hs, e, if_neg (nI_ge (by omega) (by omega)), sN_o hs, c_joins hs (by omega) (by omega), ef a (by omega), if_neg c, lf_ci_r, if_neg (fun q => q rfl), sN_o hs, c_flip2 hs (by omega) (by omega) (by omega), lf_cv_r, r42_0, sN_r hs, sN_o hs, c_all (σ := fl2 σ (3 + 2 * s) a b) hs (n := n) e, lf_ci_r, i42_2]
        rw [show (fl2 σ (3 + 2 * s) a b).2.2.1 42 2 = nI q.2 from ep, o29, t6, lf_ci_r, sN_o hs, c_flip2 hs (by omega) (by omega) (by omega), lf_cv_r, i42_2]
        rw [show (fl2 τ (3 + 2 * s) a b).2.2.1 42 2 = nI q.2 from (w1.f (by decide)).trans ep, show (32 : Int32) = nI 32 from rfl, pk_mul, nI_add]
      have hend : ∀ (x : Int32), g15_97 N k10 (g15_23 N k10 u) 42 (2 + 2 * s) (nI a) (nI b) (nI p) x (hp (fl2 τ (3 + 2 * s) a b), cs) = g15_23 N k10 u 42 (2 + 2 * s) x (nI a) (nI (b + 1)) (hp (hp_wf (fl2 τ (3 + 2 * s) a b) 42 2 (lf_min (nI p) (nI q.2))), cs) := by
        intro x
        unfold g15_97 g15_111
        rw [i42_2, show (fl2 τ (3 + 2 * s) a b).2.2.1 42 2 = nI q.2 from (w1.f (by decide)).trans ep, w42_2, nI_1]
      have w2 : ∀ x, fr [30, 31] [(29, 0), (29, 1), (29, 3), (29, 4), (42, 2)] σ (hp_wf (fl2 τ (3 + 2 * s) a b) 42 2 x) := fun x => (w1.wk (fun _ q => q) (fun q h => by
        simp only [List.mem_cons, List.not_mem_nil, or_false] at h ⊢
        rcases h with h | h | h | h <;> simp [h])).tr (fr.wf (by decide))
      have e3 : ∀ x, (hp_wf (fl2 τ (3 + 2 * s) a b) 42 2 x).2.2.1 (2 + 2 * s) 1 = nI n := fun x => ((w2 x).f (by simp; omega)).trans e
      have ef3 : ∀ x, ∀ k, k < 24 → (hp_wf (fl2 τ (3 + 2 * s) a b) 42 2 x).1 (3 + 2 * s) k = f k := fun x k hk => by rw [(w2 x).r (by simp; omega)]; exact ef k hk
      by_cases d : gPr (fl_r f a b) (al n) < q.2
      · rw [if_pos d] at hk ⊢
        have hp := (t3 d).1
        rw [hp] at hpre hend
        have hmin : lf_min (nI (gPr (fl_r f a b) (al n))) (nI q.2) = nI (gPr (fl_r f a b) (al n)) := by
          unfold lf_min
          rw [if_neg (nI_nlt (by omega) (by omega))]
        obtain ⟨υ, q1, q2, q3, q4, q5⟩ := ih (b + 1) u (nI (32 * a + b), gPr (fl_r f a b) (al n)) _ (by omega) (by omega) (by omega) hk (e3 _) (ef3 _) t2 (hp_wf_at (x := nI (gPr (fl_r f a b) (al n))))
        refine ⟨υ, (w2 _).tr q1, q2, q3, q4, ?_⟩
        rw [hpre, if_neg (nI_ge d (by omega)), hend, hmin]
        exact q5
      · rw [if_neg d] at hk ⊢
        have hp := t4 (by omega)
        have hmin : lf_min (nI p) (nI q.2) = nI q.2 := by
          unfold lf_min
          by_cases g : q.2 < p
          · rw [if_pos (nI_lt g (by omega))]
          · rw [if_neg (nI_nlt (by omega) (by omega)), show p = q.2 by omega]
        obtain ⟨υ, q1, q2, q3, q4, q5⟩ := ih (b + 1) u q _ (by omega) (by omega) (by omega) hk (e3 _) (ef3 _) t2 (hp_wf_at (x := nI q.2))
        refine ⟨υ, (w2 _).tr q1, q2, q3, q4, ?_⟩
        rw [hpre, if_pos (nI_le hp (by omega)), hend, hmin]
        exact q5
theorem c_mo (hs : s < 8) (h1 : 1 ≤ n) (hn : n ≤ 24) (hN : iv_N N) : ∀ (m a u : Nat) (q : Int32 × Nat) (σ : hp_S), a + m = n → m < u → mok q → σ.2.2.1 (2 + 2 * s) 1 = nI n → (∀ k, k < 24 → σ.1 (3 + 2 * s) k = f k) → σ.2.2.2 29 0 = σ.2.2.2 29 1 → σ.2.2.1 42 2 = nI q.2 → ∃ τ, fr [30, 31] [(29, 0), (29, 1), (29, 3), (29, 4), (42, 2)] σ τ ∧ τ.2.2.2 29 0 = τ.2.2.2 29 1 ∧ g15_10 N u 42 (2 + 2 * s) q.1 (nI a) (hp σ, cs) = some (.inl (some (.int (mo f n m a q).1)), (hp τ, cs)) := by
  intro m
  induction m with
  | zero =>
    intro a u q σ ha hu hq e ef hsw ep
    obtain ⟨u, rfl⟩ : ∃ q, u = q + 1 := ⟨u - 1, by omega⟩
    refine ⟨σ, fr.rf, hsw, ?_⟩
    unfold g15_10
    rw [sN_1 hs, e, if_pos (nI_le (by omega) (by omega))]
    rfl
  | succ m ih =>
    intro a u q σ ha hu hq e ef hsw ep
    obtain ⟨u, rfl⟩ : ∃ q, u = q + 1 := ⟨u - 1, by omega⟩
    obtain ⟨τ, q1, q2, q3, q4, q5⟩ := c_mi (N := N) (cs := cs) (f := f) (k10 := g15_10 N u) hs h1 hn hN (a := a) (by omega) (n - (a + 1)) (a + 1) N q σ (by omega) (by omega) (by unfold iv_N at hN; omega) hq e ef hsw ep
    obtain ⟨υ, p1, p2, p3⟩ := ih (a + 1) u (mi f n a (n - (a + 1)) (a + 1) q) τ (by omega) (by omega) q3 (by rw [q1.f (by simp; omega)]; exact e) (fun k hk => by rw [q1.r (by simp; omega)]; exact ef k hk) q2 q4
    refine ⟨υ, q1.tr p1, p2, ?_⟩
    rw [g15_10]
    rw [sN_1 hs, e, if_neg (nI_ge (by omega) (by omega)), nI_1, q5, p3]
    rfl
theorem m_mi (hn : n ≤ 24) (hN : iv_N N) (hw : gw f n) {a : Nat} (ha : a < n) {k17 : Nat → Int32 → Int32 → Int32 → lf_W → lf_R} : ∀ (m b u : Nat) (q : Int32 × Nat) (x3 : Int32) (σ : hp_S), b + m = n → a < b → m < u → mok q → (q.1 = -1 ∨ x3 = nI q.2) → σ.2.2.1 72 4 = nI n → (∀ k, k < 24 → σ.1 76 k = f k) → ∃ (τ : hp_S) (y3 : Int32), fr [76, 81] [(72, 24), (72, 25)] σ τ ∧ (∀ k, k < 24 → τ.1 76 k = f k) ∧ mok (mi f n a m b q) ∧ ((mi f n a m b q).1 = -1 ∨ y3 = nI (mi f n a m b q).2) ∧ g289_32 N k17 u 72 q.1 x3 (nI a) (nI b) (hp σ, cs) = k17 72 (mi f n a m b q).1 y3 (nI (a + 1)) (hp τ, cs) := by
  intro m
  induction m with
  | zero =>
    intro b u q x3 σ hb hab hu hq hx e ef
    obtain ⟨u, rfl⟩ : ∃ q, u = q + 1 := ⟨u - 1, by omega⟩
    refine ⟨σ, x3, fr.rf, ef, hq, hx, ?_⟩
    unfold g289_32
    rw [i72_4, e, if_pos (nI_le (by omega) (by omega)), nI_1]
    rfl
  | succ m ih =>
    intro b u q x3 σ hb hab hu hq hx e ef
    obtain ⟨u, rfl⟩ : ∃ q, u = q + 1 := ⟨u - 1, by omega⟩
    have hk := mok_s (f := f) (n := n) (a := a) (b := b) (by omega) (by omega) hq
    have em : mi f n a (m + 1) b q = mi f n a m (b + 1) (if bt (f a) b = true then q else if gPr (fl_r f a b) (al n) < q.2 then (nI (32 * a + b), gPr (fl_r f a b) (al n)) else q) := rfl
    rw [em]
    by_cases c : bt (f a) b = true
    · rw [if_pos c] at hk ⊢
      obtain ⟨τ, y3, q1, q2, q3, q4, q5⟩ := ih (b + 1) u q x3 σ (by omega) (by omega) (by omega) hq hx e ef
      refine ⟨τ, y3, q1, q2, q3, q4, ?_⟩
      rw [g289_32]
      unfold g289_103
      rw [i72_4, e, if_neg (nI_ge (by omega) (by omega)), o72, m_joined (by omega) (by omega), ef a (by omega), if_pos c, lf_ci_r, if_neg (by decide), nI_1]
      exact q5
    · rw [if_neg c] at hk ⊢
      have cb : bt (f b) a = false := by
        cases d : bt (f b) a with
        | false => rfl
        | true => exact absurd (hw b (by omega) a d).2.2.2 c
      obtain ⟨σ1, a1, a2, a3⟩ := m_joins2 (σ := σ) (cs := cs) (N := N) (p := a) (q := b) (f := f) (by omega) (by omega) (by omega) ef (ts_nt c) cb
      obtain ⟨σ2, b1, b2⟩ := m_price2 (σ := σ1) (cs := cs) (N := N) hn hN (gw_fl hn hw ha (by omega) (by omega)) (by rw [a1.f List.not_mem_nil]; exact e) a2
      have ef2 : ∀ k, k < 24 → σ2.1 76 k = fl_r f a b k := fun k hk => by rw [b1.r (by decide)]; exact a2 k hk
      have hon := fl_on (f := f) (p := a) (q := b) (by omega) (by omega) (by omega)
      obtain ⟨σ3, c1, c2, c3⟩ := m_parts2 (σ := σ2) (cs := cs) (N := N) (p := a) (q := b) (f := fl_r f a b) (by omega) (by omega) (by omega) ef2 (by rw [hon.1, ts_nt c]; rfl) (by rw [hon.2, cb]; rfl)
      have w1 : fr [76, 81] [(72, 24), (72, 25)] σ σ3 := ((a1.wk (fun _ q => by simp at q; simp [q]) (fun q h => absurd h List.not_mem_nil)).tr (b1.wk (fun _ q => by simp at q; simp [q]) (fun _ q => q))).tr (c1.wk (fun _ q => by simp at q; simp [q]) (fun q h => absurd h List.not_mem_nil))
      have ef3 : ∀ k, k < 24 → σ3.1 76 k = f k := fun k hk => by rw [c2 k hk, fl_fl (by omega)]
      have e3 : σ3.2.2.1 72 4 = nI n := by rw [w1.f (by decide)]; exact e
      have hv := gPr_max (f := fl_r f a b) (A := al n)
      have hpre : g289_32 N k17 (u + 1) 72 q.1 x3 (nI a) (nI b) (hp σ, cs) = if q.1 = -1 then g289_32 N k17 u 72 (nI (32 * a + b)) (nI (gPr (fl_r f a b) (al n))) (nI a) (nI (b + 1)) (hp σ3, cs) else (if nI (gPr (fl_r f a b) (al n)) < x3 then g289_32 N k17 u 72 (nI (32 * a + b)) (nI (gPr (fl_r f a b) (al n))) (nI a) (nI (b + 1)) (hp σ3, cs) else g289_32 N k17 u 72 q.1 x3 (nI a) (nI (b + 1)) (hp σ3, cs)) := by
        rw [g289_32]
        unfold g289_91 g289_103
        rw [i72_4, e, if_neg (nI_ge (by omega) (by omega)), o72, m_joined (by omega) (by omega), ef a (by omega), if_neg c, lf_ci_r, if_pos rfl, o72, a3, lf_cv_r, o72, b2, lf_ci_r, o72, c3, lf_cv_r, show (32 : Int32) = nI 32 from rfl, pk_mul, nI_add, nI_1]
      rw [hpre]
      by_cases d : gPr (fl_r f a b) (al n) < q.2
      · rw [if_pos d] at hk ⊢
        obtain ⟨τ, y3, q1, q2, q3, q4, q5⟩ := ih (b + 1) u (nI (32 * a + b), gPr (fl_r f a b) (al n)) (nI (gPr (fl_r f a b) (al n))) σ3 (by omega) (by omega) (by omega) hk (Or.inr rfl) e3 ef3
        refine ⟨τ, y3, w1.tr q1, q2, q3, q4, ?_⟩
        by_cases g : q.1 = -1
        · rw [if_pos g]; exact q5
        · rw [if_neg g, hx.resolve_left g, if_pos (nI_lt d (by rcases hq with h | h <;> omega))]; exact q5
      · rw [if_neg d] at hk ⊢
        have g : ¬ q.1 = -1 := by
          rcases hq with h | h
          · omega
          · exact h.1
        obtain ⟨τ, y3, q1, q2, q3, q4, q5⟩ := ih (b + 1) u q x3 σ3 (by omega) (by omega) (by omega) hk hx e3 ef3
        refine ⟨τ, y3, w1.tr q1, q2, q3, q4, ?_⟩
        rw [if_neg g, hx.resolve_left g, if_neg (nI_nlt (by omega) (by omega)), ← hx.resolve_left g]
        exact q5
theorem m_mo (hn : n ≤ 24) (hN : iv_N N) (hw : gw f n) : ∀ (m a u : Nat) (q : Int32 × Nat) (x3 : Int32) (σ : hp_S), a + m = n → m < u → mok q → (q.1 = -1 ∨ x3 = nI q.2) → σ.2.2.1 72 4 = nI n → (∀ k, k < 24 → σ.1 76 k = f k) → ∃ τ, fr [76, 81] [(72, 24), (72, 25)] σ τ ∧ g289_17 N u 72 q.1 x3 (nI a) (hp σ, cs) = some (.inl (some (.int (mo f n m a q).1)), (hp τ, cs)) := by
  intro m
  induction m with
  | zero =>
    intro a u q x3 σ ha hu hq hx e ef
    obtain ⟨u, rfl⟩ : ∃ q, u = q + 1 := ⟨u - 1, by omega⟩
    refine ⟨σ, fr.rf, ?_⟩
    unfold g289_17
    rw [i72_4, e, if_pos (nI_le (by omega) (by omega))]
    rfl
  | succ m ih =>
    intro a u q x3 σ ha hu hq hx e ef
    obtain ⟨u, rfl⟩ : ∃ q, u = q + 1 := ⟨u - 1, by omega⟩
    obtain ⟨τ, y3, q1, q2, q3, q4, q5⟩ := m_mi (N := N) (cs := cs) (f := f) (k17 := g289_17 N u) hn hN hw (a := a) (by omega) (n - (a + 1)) (a + 1) N q x3 σ (by omega) (by omega) (by unfold iv_N at hN; omega) hq hx e ef
    obtain ⟨υ, p1, p2⟩ := ih (a + 1) u (mi f n a (n - (a + 1)) (a + 1) q) y3 τ (by omega) (by omega) q3 q4 (by rw [q1.f (by decide)]; exact e) q2
    refine ⟨υ, q1.tr p1, ?_⟩
    rw [g289_17]
    rw [i72_4, e, if_neg (nI_ge (by omega) (by omega)), nI_1, q5, p2]
    rfl
end MI
theorem iv_sw.of {σ τ : hp_S} {A : List Nat} {F : List (Nat × Nat)} (h : iv_sw σ) (k : fr A F σ τ) (h1 : τ.2.2.2 29 0 = τ.2.2.2 29 1) (h2 : (37, 0) ∉ F) (h3 : (37, 1) ∉ F) (h4 : (61, 4) ∉ F) (h5 : (61, 5) ∉ F) : iv_sw τ := by
  refine ⟨h1, ?_, ?_⟩
  · rw [k.g h2, k.g h3]; exact h.2.1
  · rw [k.g h4, k.g h5]; exact h.2.2
theorem case_missing {J : iv_J} {rd : iv_rd} {N : Nat} (hN : iv_N N) : iv_caseN J rd N g327_2780 := by
  intro sc i σ cs hs hi hI
  have key : ∃ (τ : hp_S) (ds : Nat × Nat), iv J τ ∧ ds.1 ≤ cs.1 + 1 ∧ ds.2 ≤ cs.2 + 6 ∧ ∀ k : lf_W → lf_R, tl_I (tc_I [("java/util/NoSuchElementException", 1)] (f166 N 0 (sc.2 (i + 1)) (hp σ, cs))) (fun w => f289 N 72 (sc.2 (i + 1)) w) k = k (hp τ, ds) := by
    generalize sc.2 (i + 1) = x
    refine askI (x := x) hI hN rfl (fun h => ?_) (fun σ' ds w h => ?_) (fun s n d f hs8 hx hg hv => ?_)
    · unfold f166
      rw [r0_7, o0, c_held_no h]
      rfl
    · unfold f289
      rw [o72, h, lf_ci_r, if_neg (fun q => q rfl)]
    · subst hx
      have hn1 := hg.1
      have hn := hg.2.1
      have hne : ¬ σ.2.2.1 (2 + 2 * s) 1 = 0 := by rw [hv.1]; exact nI_ne0 (by omega) (by omega)
      have hsw := hI.2.2.2.2.2.2.2
      obtain ⟨τ, q1, q2, q3⟩ := c_mo (N := N) (cs := cs) (f := f) hs8 hn1 hn hN n 0 N (-1, 1000001) (hp_wf σ 42 2 1000001) (by omega) (by unfold iv_N at hN; omega) (Or.inl ⟨rfl, rfl⟩) (by rw [hp_wf_ne (by omega)]; exact hv.1) hv.2.2 hsw.1 hp_wf_at
      have w1 : fr [30, 31] [(29, 0), (29, 1), (29, 3), (29, 4), (42, 2)] σ τ := (fr.wf (by decide)).tr q1
      refine Or.inl ⟨(mo f n n 0 (-1, 1000001)).1, τ, w1.keptS rfl rfl (fun h => h.of w1 q2 (by decide) (by decide) (by decide) (by decide)), ?_, fun σ' μ ds hm hl => ?_⟩
      · unfold f166 f15
        rw [r0_7, o0, c_held hs8 hne, lf_cr_r, o42, w42_2]
        rw [show (0 : Int32) = nI 0 from rfl, q3, lf_ci_r]
      · obtain ⟨υ, p1, p2⟩ := m_mo (N := N) (cs := ds) (f := f) hn hN hg.2.2.2.2.1 n 0 N (-1, 1000001) 0 μ (by omega) (by unfold iv_N at hN; omega) (Or.inl ⟨rfl, rfl⟩) (Or.inl rfl) hm.1 hm.2.2.2
        refine ⟨υ, p1.kept rfl rfl, p1.l (by decide), by rw [p1.f (by decide)]; exact hm.2.2.1, ?_⟩
        unfold f289
        rw [o72, hl, lf_ci_r, if_pos (by decide)]
        exact p2
  obtain ⟨τ, ds, q1, q2, q3, q4⟩ := key
  refine ⟨τ, ds, q1, q2, q3, fun k23 => ?_⟩
  rw [← q4 (k23 (nI i + 6))]
  unfold g327_2780 h325 f325
  simp only [iv_s1 hs hi, Option.bind_some, if_pos hp_x]
  rfl
