/-! how many pairs are further apart than s steps; distances added up -/
def ic (b : Bool) : Nat := if b = true then 1 else 0
/-- pairs of A that are more than s steps apart, both ways -/
def dS (f : Nat → Int32) (A : Int32) (s : Nat) : Nat := sm (fun a => sm (fun b => ic (bt A a && bt A b && !bt (bal f A a s) b)) 24) 24
section DS
variable {f : Nat → Int32} {A : Int32} {s t : Nat}
theorem ic_le {p q : Bool} (h : p = true → q = true) : ic p ≤ ic q := by
  cases p <;> cases q <;> simp_all [ic]
theorem dS_mono (h : s ≤ t) : dS f A t ≤ dS f A s := by
  unfold dS
  refine sm_le (fun a ha => sm_le (fun b hb => ic_le (fun q => ?_)))
  simp only [Bool.and_eq_true, Bool.not_eq_true'] at q ⊢
  refine ⟨q.1, ?_⟩
  cases e : bt (bal f A a s) b with
  | false => rfl
  | true =>
    rw [bal_mono (by omega) h e] at q
    exact absurd q.2 (by decide)
/-- equal counts: equal balls -/
theorem dS_same (hA : ∀ i, bt A i = true → i < 24) (h : dS f A (s + 1) = dS f A s) : ∀ a, a < 24 → bt A a = true → bal f A a (s + 1) = bal f A a s := by
  intro a ha hAa
  apply Classical.byContradiction
  intro hne
  obtain ⟨b, h1, h2⟩ : ∃ b, bt (bal f A a (s + 1)) b = true ∧ bt (bal f A a s) b = false := by
    apply Classical.byContradiction
    intro q
    refine hne (b_eq (fun i => ⟨fun r => ?_, fun r => bal_mono (by omega) (by omega) r⟩))
    cases e : bt (bal f A a s) i with
    | true => rfl
    | false => exact absurd ⟨i, r, e⟩ q
  have hAb : bt A b = true := gR_in hAa ((bal_bt (by omega)).mp h1)
  have : dS f A (s + 1) < dS f A s := by
    unfold dS
    have hle : ∀ a b, a < 24 → ic (bt A a && bt A b && !bt (bal f A a (s + 1)) b) ≤ ic (bt A a && bt A b && !bt (bal f A a s) b) := by
      intro a b ha
      refine ic_le (fun q => ?_)
      simp only [Bool.and_eq_true, Bool.not_eq_true'] at q ⊢
      refine ⟨q.1, ?_⟩
      cases e : bt (bal f A a s) b with
      | false => rfl
      | true =>
        rw [bal_mono (by omega) (by omega) e] at q
        exact absurd q.2 (by decide)
    refine sm_lt (fun a ha => sm_le (fun b _ => hle a b ha)) ⟨a, ha, sm_lt (fun b _ => hle a b ha) ⟨b, hA b hAb, ?_⟩⟩
    rw [hAa, hAb, h1, h2]
    decide
  omega
theorem dS_still (hA : ∀ i, bt A i = true → i < 24) (h : dS f A (s + 1) = dS f A s) (ht : s ≤ t) : dS f A t = dS f A s := by
  unfold dS
  refine sm_congr (fun a ha => sm_congr (fun b _ => ?_))
  by_cases c : bt A a = true
  · rw [bal_still (dS_same hA h a ha c) t ht]
  · rw [ts_nt c]
    rfl
theorem dS_end (hA : ∀ i, bt A i = true → i < 24) (ht : 23 ≤ t) : dS f A t = dS f A 23 := by
  unfold dS
  refine sm_congr (fun a ha => sm_congr (fun b _ => ?_))
  rw [bal_end ha hA ht]
theorem sm_cnt (p : Nat → Bool) (q : Nat) : ∀ n, q ≤ n → (∀ k, k < n → p k = decide (k < q)) → sm (fun k => ic (p k)) n = q
  | 0, h, _ => by rw [Nat.le_zero.mp h]; rfl
  | n + 1, h, hp => by
    show sm (fun k => ic (p k)) n + ic (p n) = q
    by_cases e : q = n + 1
    · have : ∀ k, k < n → p k = decide (k < n) := fun k hk => by rw [hp k (by omega), decide_eq_true (by omega), decide_eq_true hk]
      rw [sm_cnt p n n (Nat.le_refl _) this, hp n (by omega), decide_eq_true (by omega), e]
      rfl
    · rw [sm_cnt p q n (by omega) (fun k hk => hp k (by omega)), hp n (by omega), decide_eq_false (by omega)]
      rfl
/-- a distance is how many balls don't have it -/
theorem gd_sm {a b : Nat} (ha : a < 24) : sm (fun s => ic (!bt (bal f A a s) b)) 24 = gd f A a b := by
  refine sm_cnt _ _ 24 gd_le (fun k hk => ?_)
  have := gd_lt_iff (f := f) (A := A) (x := b) (v := a) (by omega) hk
  by_cases c : k < gd f A a b
  · rw [decide_eq_true c, ts_nt (this.mp c)]
    rfl
  · rw [decide_eq_false c]
    cases e : bt (bal f A a k) b with
    | true => rfl
    | false => exact absurd (this.mpr (by rw [e]; decide)) c
theorem sm_mul {c : Nat} {F : Nat → Nat} : ∀ n, sm (fun k => c * F k) n = c * sm F n
  | 0 => rfl
  | n + 1 => by
    show sm (fun k => c * F k) n + c * F n = c * (sm F n + F n)
    rw [sm_mul n, Nat.mul_add]
theorem ic_and {p q : Bool} : ic (p && q) = ic p * ic q := by
  cases p <;> cases q <;> rfl
theorem dS_sum : sm (dS f A) 24 = sm (fun a => sm (fun b => ic (bt A a && bt A b) * gd f A a b) 24) 24 := by
  show sm (fun s => sm (fun a => sm (fun b => ic (bt A a && bt A b && !bt (bal f A a s) b)) 24) 24) 24 = _
  rw [sm_swap (F := fun s a => sm (fun b => ic (bt A a && bt A b && !bt (bal f A a s) b)) 24)]
  refine sm_congr (fun a ha => ?_)
  rw [sm_swap (F := fun s b => ic (bt A a && bt A b && !bt (bal f A a s) b))]
  refine sm_congr (fun b _ => ?_)
  rw [sm_congr (G := fun s => ic (bt A a && bt A b) * ic (!bt (bal f A a s) b)) (fun s _ => ic_and), sm_mul, gd_sm ha]
/-- joined, how far, and the sum -/
def gJ (f : Nat → Int32) (A : Int32) : Prop := dS f A 23 = 0
def gF (f : Nat → Int32) (A : Int32) : Nat := fa_first (fun s => decide (dS f A s = 0)) 23
theorem gF_le : gF f A ≤ 23 := fa_first_le _ _
theorem gF_no (h : s < gF f A) : ¬ dS f A s = 0 := of_decide_eq_false (fa_first_no (fun s => decide (dS f A s = 0)) 23 s h)
theorem gF_yes (h : gJ f A) : dS f A (gF f A) = 0 := by
  by_cases c : gF f A < 23
  · exact of_decide_eq_true (fa_first_yes (fun s => decide (dS f A s = 0)) 23 c)
  · rw [show gF f A = 23 by have := gF_le (f := f) (A := A); omega]
    exact h
theorem gF_ge (h : gJ f A) (ht : gF f A ≤ t) : dS f A t = 0 := by
  have := dS_mono (f := f) (A := A) ht
  rw [gF_yes h] at this
  omega
theorem gF_eq (h : dS f A s = 0) (hs : s ≤ 23) (hn : ∀ t, t < s → ¬ dS f A t = 0) : gJ f A ∧ gF f A = s := by
  have hJ : gJ f A := by
    have := dS_mono (f := f) (A := A) hs
    rw [h] at this
    exact Nat.le_zero.mp this
  refine ⟨hJ, ?_⟩
  rcases Nat.lt_trichotomy (gF f A) s with q | q | q
  · exact absurd (gF_yes hJ) (hn _ q)
  · exact q
  · exact absurd h (gF_no q)
/-- the sum of the distances, each pair once -/
def gS (f : Nat → Int32) (A : Int32) : Nat := sm (dS f A) (gF f A) / 2
theorem gd_sym (hf : ∀ a b, bt A a = true → bt A b = true → bt (f a) b = true → bt (f b) a = true) {a b : Nat} (ha : a < 24) (hb : b < 24) (hAa : bt A a = true) (hAb : bt A b = true) : gd f A a b = gd f A b a := by
  have key : ∀ s, s < 24 → (s < gd f A a b ↔ s < gd f A b a) := by
    intro s hs
    rw [gd_lt_iff (by omega) hs, gd_lt_iff (by omega) hs, bal_bt (by omega), bal_bt (by omega)]
    exact ⟨fun h q => h (gR_sym hf hAb q), fun h q => h (gR_sym hf hAa q)⟩
  have h1 := gd_le (f := f) (A := A) (v := a) (x := b)
  have h2 := gd_le (f := f) (A := A) (v := b) (x := a)
  rcases Nat.lt_trichotomy (gd f A a b) (gd f A b a) with q | q | q
  · have := (key _ (by omega)).mpr q
    omega
  · exact q
  · have := (key _ (by omega)).mp q
    omega
theorem gd_self {a : Nat} (ha : a < 24) : gd f A a a = 0 := by
  have := gd_lt_iff (f := f) (A := A) (x := a) (v := a) (s := 0) (by omega) (by omega)
  apply Classical.byContradiction
  intro q
  exact this.mp (by omega) ((bal_bt (by omega)).mpr rfl)
/-- pairs with b < a -/
def gP (f : Nat → Int32) (A : Int32) (a b : Nat) : Nat := ic (bt A a && bt A b) * gd f A a b
theorem gP_sm (hf : ∀ a b, bt A a = true → bt A b = true → bt (f a) b = true → bt (f b) a = true) : sm (fun a => sm (fun b => gP f A a b) 24) 24 = 2 * sm (fun a => sm (fun b => gP f A a b) a) 24 := by
  have e1 : ∀ a, a < 24 → sm (fun b => gP f A a b) 24 = sm (fun b => (if b < a then gP f A a b else 0) + (if a < b then gP f A b a else 0)) 24 := by
    intro a ha
    refine sm_congr (fun b hb => ?_)
    rcases Nat.lt_trichotomy a b with q | q | q
    · rw [if_neg (by omega), if_pos q]
      unfold gP
      rw [Bool.and_comm (bt A b) (bt A a)]
      cases c1 : bt A a with
      | false => simp [ic]
      | true =>
        cases c2 : bt A b with
        | false => simp [ic]
        | true => rw [gd_sym hf ha hb c1 c2]; omega
    · subst q
      rw [if_neg (by omega)]
      unfold gP
      rw [gd_self ha]
      omega
    · rw [if_pos q, if_neg (by omega)]
      omega
  rw [sm_congr e1, sm_congr (G := fun a => sm (fun b => (if b < a then gP f A a b else 0)) 24 + sm (fun b => (if a < b then gP f A b a else 0)) 24) (fun a _ => sm_add), sm_add]
  have e2 : sm (fun a => sm (fun b => (if a < b then gP f A b a else 0)) 24) 24 = sm (fun a => sm (fun b => (if b < a then gP f A a b else 0)) 24) 24 := sm_swap
  have e3 : sm (fun a => sm (fun b => (if b < a then gP f A a b else 0)) 24) 24 = sm (fun a => sm (fun b => gP f A a b) a) 24 := by
    refine sm_congr (fun a ha => ?_)
    rw [sm_more (n := a) (m := 24) (by omega) (fun k q1 _ => by rw [if_neg (by omega)])]
    exact sm_congr (fun b hb => by rw [if_pos hb])
  rw [e2, e3]
  omega
theorem gS_eq (hf : ∀ a b, bt A a = true → bt A b = true → bt (f a) b = true → bt (f b) a = true) (h : gJ f A) : gS f A = sm (fun a => sm (fun b => gP f A a b) a) 24 := by
  have e1 : sm (dS f A) 24 = sm (dS f A) (gF f A) := sm_more (by have := gF_le (f := f) (A := A); omega) (fun k q _ => gF_ge h q)
  have e2 : sm (dS f A) 24 = sm (fun a => sm (fun b => gP f A a b) 24) 24 := dS_sum
  unfold gS
  rw [← e1, e2, gP_sm hf]
  omega
/-- within the far of it lies every pair -/
theorem dS_zero : dS f A s = 0 ↔ ∀ a b, a < 24 → b < 24 → bt A a = true → bt A b = true → bt (bal f A a s) b = true := by
  constructor
  · intro h a b ha hb h1 h2
    have := sm_zero (sm_zero h a ha) b hb
    rw [h1, h2] at this
    cases e : bt (bal f A a s) b with
    | true => rfl
    | false =>
      rw [e] at this
      exact absurd this (by decide)
  · intro h
    unfold dS
    rw [sm_congr (G := fun _ => 0) (fun a ha => ?_), sm_0]
    rw [sm_congr (G := fun _ => 0) (fun b hb => ?_), sm_0]
    cases h1 : bt A a with
    | false => rfl
    | true =>
      cases h2 : bt A b with
      | false => rfl
      | true =>
        rw [h a b ha hb h1 h2]
        rfl
theorem gJ_iff : gJ f A ↔ ∀ a b, a < 24 → b < 24 → bt A a = true → bt A b = true → gd f A a b < 24 := by
  unfold gJ
  rw [dS_zero]
  constructor
  · intro h a b ha hb h1 h2
    have := gd_lt_iff (f := f) (A := A) (x := b) (v := a) (s := 23) (by omega) (by omega)
    have h3 : ¬ 23 < gd f A a b := fun q => this.mp q (h a b ha hb h1 h2)
    omega
  · intro h a b ha hb h1 h2
    have := gd_lt_iff (f := f) (A := A) (x := b) (v := a) (s := 23) (by omega) (by omega)
    apply Classical.byContradiction
    intro q
    have := this.mpr q
    have := h a b ha hb h1 h2
    omega
/-- the far is the greatest distance -/
theorem gF_max (hJ : gJ f A) {m : Nat} (h1 : ∀ a b, a < 24 → b < 24 → bt A a = true → bt A b = true → gd f A a b ≤ m) (h2 : m = 0 ∨ ∃ a b, a < 24 ∧ b < 24 ∧ bt A a = true ∧ bt A b = true ∧ gd f A a b = m) : gF f A = m := by
  have hm : m ≤ 23 := by
    rcases h2 with h2 | ⟨a, b, ha, hb, q1, q2, q3⟩
    · omega
    · have := gJ_iff.mp hJ a b ha hb q1 q2
      omega
  have z : dS f A m = 0 := by
    rw [dS_zero]
    intro a b ha hb q1 q2
    apply Classical.byContradiction
    intro q
    have := (gd_lt_iff (f := f) (A := A) (x := b) (v := a) (s := m) (by omega) (by omega)).mpr q
    have := h1 a b ha hb q1 q2
    omega
  refine (gF_eq z hm (fun t ht q => ?_)).2
  rcases h2 with h2 | ⟨a, b, ha, hb, q1, q2, q3⟩
  · omega
  · have := dS_zero.mp q a b ha hb q1 q2
    exact (gd_lt_iff (f := f) (A := A) (x := b) (v := a) (s := t) (by omega) (by omega)).mp (by omega) this
theorem dS_max : dS f A s ≤ 576 := by
  have h1 : dS f A s ≤ sm (fun _ => sm (fun _ => 1) 24) 24 := sm_le (fun a _ => sm_le (fun b _ => by
    unfold ic
    split <;> omega))
  rw [sm_c, sm_c] at h1
  omega
theorem smD_max : ∀ n, sm (dS f A) n ≤ 576 * n
  | 0 => Nat.le_refl _
  | n + 1 => by
    show sm (dS f A) n + dS f A n ≤ _
    have := smD_max n
    have := dS_max (f := f) (A := A) (s := n)
    omega
theorem gP_max {a b : Nat} : gP f A a b ≤ 24 := by
  unfold gP
  have := gd_le (f := f) (A := A) (v := a) (x := b)
  unfold ic
  split <;> omega
/-- by rows -/
theorem pc_24 {x : Int32} (h : ∀ i, bt x i = true → i < 24) : i_pc x = sm (fun b => ic (bt x b)) 24 := by
  rw [i_pc_sm, sm_more (n := 24) (by omega) (fun k q _ => by rw [if_neg (fun r => by have := h k r; omega)])]
  rfl
theorem dS_row (hA : ∀ i, bt A i = true → i < 24) : dS f A s = sm (fun a => if bt A a = true then i_pc A - i_pc (bal f A a s) else 0) 24 := by
  unfold dS
  refine sm_congr (fun a ha => ?_)
  by_cases c : bt A a = true
  · rw [if_pos c]
    have hin : ∀ i, bt (bal f A a s) i = true → bt A i = true := fun i q => gR_in c ((bal_bt (by omega)).mp q)
    have e3 : sm (fun b => ic (bt A b)) 24 = sm (fun b => ic (bt A a && bt A b && !bt (bal f A a s) b)) 24 + sm (fun b => ic (bt (bal f A a s) b)) 24 := by
      rw [← sm_add]
      refine sm_congr (fun b _ => ?_)
      rw [c]
      cases h1 : bt (bal f A a s) b with
      | false => cases bt A b <;> rfl
      | true => rw [hin b h1]; rfl
    rw [pc_24 hA, pc_24 (fun i q => hA i (hin i q)), e3]
    omega
  · rw [if_neg c, ts_nt c]
    exact (sm_congr (G := fun _ => 0) (fun b _ => rfl)).trans sm_0
theorem pc_one {v : Nat} (hv : v < 32) : i_pc (lf_shl 1 (nI v)) = 1 := by
  have := i_pc_on (x := 0) hv (b_0 v)
  rw [Int32.zero_xor, i_pc_0] at this
  exact this
theorem dS_0 (hA : ∀ i, bt A i = true → i < 24) : dS f A 0 = i_pc A * (i_pc A - 1) := by
  rw [dS_row hA]
  have e : ∀ a, a < 24 → (if bt A a = true then i_pc A - i_pc (bal f A a 0) else 0) = (i_pc A - 1) * ic (bt A a) := by
    intro a ha
    have : i_pc (bal f A a 0) = 1 := pc_one (by omega)
    by_cases c : bt A a = true
    · rw [if_pos c, this, c]
      show _ = (i_pc A - 1) * 1
      omega
    · rw [if_neg c, ts_nt c]
      rfl
  rw [sm_congr e, sm_mul, ← pc_24 hA, Nat.mul_comm]
/-- PRICE -/
def gPr (f : Nat → Int32) (A : Int32) : Nat := if dS f A 23 = 0 then 1000 * gF f A + gS f A else 1000000
theorem gS_max : gS f A ≤ 6624 := by
  unfold gS
  have := smD_max (f := f) (A := A) (gF f A)
  have := gF_le (f := f) (A := A)
  omega
theorem gPr_max : gPr f A ≤ 1000000 := by
  unfold gPr
  have := gS_max (f := f) (A := A)
  have := gF_le (f := f) (A := A)
  split <;> omega
theorem sm_le_n {F : Nat → Nat} {n : Nat} : ∀ {m : Nat}, n ≤ m → sm F n ≤ sm F m
  | 0, h => by rw [Nat.le_zero.mp h]; exact Nat.le_refl _
  | m + 1, h => by
    by_cases e : n = m + 1
    · rw [e]; exact Nat.le_refl _
    · have := sm_le_n (F := F) (n := n) (m := m) (by omega)
      show sm F n ≤ sm F m + F m
      omega
end DS
/-! sums over lists -/
def lsum (F : Nat → Nat) : List Nat → Nat
  | [] => 0
  | a :: l => F a + lsum F l
theorem lsum_app {F : Nat → Nat} : ∀ (l k : List Nat), lsum F (l ++ k) = lsum F l + lsum F k
  | [], k => by show lsum F k = 0 + lsum F k; omega
  | a :: l, k => by
    show F a + lsum F (l ++ k) = F a + lsum F l + lsum F k
    rw [lsum_app l k]; omega
theorem lsum_filter {F : Nat → Nat} (p : Nat → Bool) : ∀ n, lsum F ((List.range n).filter p) = sm (fun i => if p i = true then F i else 0) n
  | 0 => rfl
  | n + 1 => by
    rw [List.range_succ, List.filter_append, lsum_app, lsum_filter p n]
    show _ = sm (fun i => if p i = true then F i else 0) n + (if p n = true then F n else 0)
    by_cases h : p n = true
    · rw [if_pos h]; simp [h, lsum]
    · rw [if_neg h]; simp [h, lsum]
theorem lsum_bl {F : Nat → Nat} {x : Int32} (h : ∀ i, bt x i = true → i < 24) : lsum F (bl x) = sm (fun i => if bt x i = true then F i else 0) 24 := by
  unfold bl
  rw [lsum_filter, sm_more (n := 24) (by omega) (fun k q _ => by rw [if_neg (fun r => by have := h k r; omega)])]
