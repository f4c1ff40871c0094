/-! read: what a text says -/
/-- the number of a token -/
def rdN (B : Nat → Nat) (n p : Nat) : Nat := tkV 2 B (tkA B n p) (tkE B n p - tkA B n p)
/-- a size: what is wrong with it -/
def rdZ (B : Nat → Nat) (n p most : Nat) : Nat := if ¬ tkK B n p = 2 then 1 else if 3 < tkE B n p - tkA B n p ∨ rdN B n p < 1 ∨ most < rdN B n p then 2 else 0
/-- a knot of a clause: what is wrong with it, c being named before -/
def rdK (B : Nat → Nat) (n p sh kn c : Nat) (g : Nat → Nat) : Nat := if ¬ tkK B n p = 2 ∨ (sh = 4 ∧ c = 2) then 1 else if c = 12 ∨ 3 < tkE B n p - tkA B n p then 2 else if kn ≤ rdN B n p then 3 else if ∀ k, k < c → ¬ g k = rdN B n p then 0 else 4
def rdU (g : Nat → Nat) (c v : Nat) : Nat → Nat := fun k => if k = c then v else g k
/-- the knots of a clause: what is wrong, where, how many, which, where it ends -/
def rdP (B : Nat → Nat) (n sh kn : Nat) : Nat → Nat → (Nat → Nat) → Nat → Nat × Nat × Nat × (Nat → Nat) × Nat
  | 0, c, g, _ => (0, 0, c, g, 0)
  | m + 1, c, g, p => if tkK B n p = 3 ∧ 2 ≤ c then (0, tkA B n p, c, g, tkE B n p) else if rdK B n p sh kn c g = 0 then rdP B n sh kn m (c + 1) (rdU g c (rdN B n p)) (tkE B n p) else (rdK B n p sh kn c g, tkA B n p, c, g, tkE B n p)
/-- a line that is drawn, unless something is wrong already -/
def rdS (e : Nat) (q : Nat × (Nat → Int32)) (a b : Nat) : Nat × (Nat → Int32) := if ¬ q.1 = 0 then q else if bt (q.2 a) b = true then (5, q.2) else if e ≤ i_pc (q.2 a) ∨ e ≤ i_pc (q.2 b) then (6, q.2) else (0, fl_r q.2 a b)
def rdI (e : Nat) (g ix : Nat → Nat) : Nat → Nat → Nat × (Nat → Int32) → Nat × (Nat → Int32)
  | 0, _, q => q
  | m + 1, k, q => rdI e g ix m (k + 1) (rdS e q (g (ix k)) (g k))
def rdJ (e : Nat) (g : Nat → Nat) (k : Nat) : Nat → Nat → Nat × (Nat → Int32) → Nat × (Nat → Int32)
  | 0, _, q => q
  | m + 1, j, q => rdJ e g k m (j + 1) (rdS e q (g j) (g k))
def rdA (e : Nat) (g : Nat → Nat) : Nat → Nat → Nat × (Nat → Int32) → Nat × (Nat → Int32)
  | 0, _, q => q
  | m + 1, k, q => rdA e g m (k + 1) (rdJ e g k k 0 q)
def rdD (e sh : Nat) (g : Nat → Nat) (c : Nat) (f : Nat → Int32) : Nat × (Nat → Int32) :=
  if sh = 4 then (if bt (f (g 0)) (g 1) = true then (0, fl_r f (g 0) (g 1)) else (5, f))
  else if sh = 2 then rdA e g (c - 1) 1 (0, f)
  else if sh = 3 then rdI e g (fun _ => 0) (c - 1) 1 (0, f)
  else if sh = 1 then rdS e (rdI e g (fun k => k - 1) (c - 1) 1 (0, f)) (g (c - 1)) (g 0)
  else rdI e g (fun k => k - 1) (c - 1) 1 (0, f)
def rdQ (B : Nat → Nat) (n p kn : Nat) : Nat × Nat × Nat × (Nat → Nat) × Nat := rdP B n (tkX B n p) kn 13 0 (fun _ => 0) (tkE B n p)
def rdV (B : Nat → Nat) (n p kn e : Nat) (f : Nat → Int32) : Nat × (Nat → Int32) := rdD e (tkX B n p) (rdQ B n p kn).2.2.2.1 (rdQ B n p kn).2.2.1 f
/-- the clauses: what is wrong, where, the rows -/
def rdC (B : Nat → Nat) (n kn e : Nat) : Nat → Nat → (Nat → Int32) → Nat × Nat × (Nat → Int32)
  | 0, _, f => (0, 0, f)
  | m + 1, p, f => if tkK B n p = 0 then (0, 0, f) else if 4 < tkX B n p then (1, tkA B n p, f) else if m = 0 then (2, tkA B n p, f) else if ¬ (rdQ B n p kn).1 = 0 then ((rdQ B n p kn).1, (rdQ B n p kn).2.1, f) else if ¬ (rdV B n p kn e f).1 = 0 then ((rdV B n p kn e f).1, (rdQ B n p kn).2.1, (rdV B n p kn e f).2) else rdC B n kn e m (rdQ B n p kn).2.2.2.2 (rdV B n p kn e f).2
/-- the places where the head's tokens begin to be looked for -/
def rd1 (B : Nat → Nat) (n : Nat) : Nat := tkE B n 0
def rd2 (B : Nat → Nat) (n : Nat) : Nat := tkE B n (rd1 B n)
def rd3 (B : Nat → Nat) (n : Nat) : Nat := tkE B n (rd2 B n)
def rd4 (B : Nat → Nat) (n : Nat) : Nat := tkE B n (rd3 B n)
def rd5 (B : Nat → Nat) (n : Nat) : Nat := tkE B n (rd4 B n)
def rdH (B : Nat → Nat) (n : Nat) : Nat × Nat := if ¬ tkX B n 0 = 5 then (1, tkA B n 0) else if ¬ rdZ B n (rd1 B n) 24 = 0 then (rdZ B n (rd1 B n) 24, tkA B n (rd1 B n)) else if ¬ tkX B n (rd2 B n) = 6 then (1, tkA B n (rd2 B n)) else if ¬ rdZ B n (rd3 B n) 8 = 0 then (rdZ B n (rd3 B n) 8, tkA B n (rd3 B n)) else if ¬ tkK B n (rd4 B n) = 3 then (1, tkA B n (rd4 B n)) else (0, 0)
/-- the whole text: what is wrong, where, the rows -/
def rdT (B : Nat → Nat) (n : Nat) : Nat × Nat × (Nat → Int32) := if ¬ (rdH B n).1 = 0 then ((rdH B n).1, (rdH B n).2, fun _ => 0) else rdC B n (rdN B n (rd1 B n)) (rdN B n (rd3 B n)) 21 (rd5 B n) (fun _ => 0)
/-- named knots: within the net, no two alike -/
def rdLs (c : Nat) (g : Nat → Nat) (kn : Nat) : Prop := (∀ k, k < c → g k < kn) ∧ ∀ j k, j < c → k < c → j ≠ k → g j ≠ g k
/-- rows of a net of degree e -/
def rdG (f : Nat → Int32) (kn e : Nat) : Prop := gw f kn ∧ ∀ a, a < 24 → i_pc (f a) ≤ e
theorem nz1 {P : Prop} (h : (1 : Nat) = 0) : P := absurd h (by decide)
theorem nz2 {P : Prop} (h : (2 : Nat) = 0) : P := absurd h (by decide)
theorem nz5 {P : Prop} (h : (5 : Nat) = 0) : P := absurd h (by decide)
section RDP
variable {B : Nat → Nat} {n p sh kn c e : Nat} {g ix : Nat → Nat} {f : Nat → Int32} {q : Nat × (Nat → Int32)}
theorem rdK_0 (h : rdK B n p sh kn c g = 0) : tkK B n p = 2 ∧ ¬ (sh = 4 ∧ c = 2) ∧ ¬ c = 12 ∧ tkE B n p - tkA B n p ≤ 3 ∧ rdN B n p < kn ∧ ∀ k, k < c → ¬ g k = rdN B n p := by
  unfold rdK at h
  by_cases c1 : ¬ tkK B n p = 2 ∨ (sh = 4 ∧ c = 2)
  · rw [if_pos c1] at h
    omega
  · rw [if_neg c1] at h
    by_cases c2 : c = 12 ∨ 3 < tkE B n p - tkA B n p
    · rw [if_pos c2] at h
      omega
    · rw [if_neg c2] at h
      by_cases c3 : kn ≤ rdN B n p
      · rw [if_pos c3] at h
        omega
      · rw [if_neg c3] at h
        by_cases c4 : ∀ k, k < c → ¬ g k = rdN B n p
        · exact ⟨by omega, by omega, by omega, by omega, by omega, c4⟩
        · rw [if_neg c4] at h
          omega
theorem rdK_le : rdK B n p sh kn c g ≤ 4 := by
  unfold rdK
  split
  · omega
  · split
    · omega
    · split
      · omega
      · split <;> omega
theorem rdU_L {v : Nat} (h : rdLs c g kn) (hv : v < kn) (hn : ∀ k, k < c → ¬ g k = v) : rdLs (c + 1) (rdU g c v) kn := by
  refine ⟨fun k hk => ?_, fun j k hj hk hne => ?_⟩
  · unfold rdU
    by_cases e : k = c
    · rw [if_pos e]
      exact hv
    · rw [if_neg e]
      exact h.1 k (by omega)
  · unfold rdU
    by_cases e1 : j = c
    · rw [if_pos e1, if_neg (by omega)]
      exact fun z => hn k (by omega) z.symm
    · by_cases e2 : k = c
      · rw [if_neg e1, if_pos e2]
        exact hn j (by omega)
      · rw [if_neg e1, if_neg e2]
        exact h.2 j k (by omega) (by omega) hne
theorem rdP_ok : ∀ (m c : Nat) (g : Nat → Nat) (p : Nat), m + c = 13 → c ≤ 12 → p ≤ n → rdLs c g kn → (sh = 4 → c ≤ 2) → (rdP B n sh kn m c g p).1 ≤ 6 ∧ (rdP B n sh kn m c g p).2.1 ≤ n ∧ (rdP B n sh kn m c g p).2.2.2.2 ≤ n ∧ ((rdP B n sh kn m c g p).1 = 0 → rdLs (rdP B n sh kn m c g p).2.2.1 (rdP B n sh kn m c g p).2.2.2.1 kn ∧ 2 ≤ (rdP B n sh kn m c g p).2.2.1 ∧ (rdP B n sh kn m c g p).2.2.1 ≤ 12 ∧ (sh = 4 → (rdP B n sh kn m c g p).2.2.1 = 2)) := by
  intro m
  induction m with
  | zero =>
    intro c g p h1 h2
    omega
  | succ m ih =>
    intro c g p h1 h2 h3 h4 h5
    have ha := tkA_le (B := B) h3
    have he := tkE_le (B := B) h3
    by_cases c1 : tkK B n p = 3 ∧ 2 ≤ c
    · rw [rdP, if_pos c1]
      exact ⟨Nat.zero_le _, ha.2, he.2, fun _ => ⟨h4, c1.2, h2, fun z => Nat.le_antisymm (h5 z) c1.2⟩⟩
    · rw [rdP, if_neg c1]
      by_cases c2 : rdK B n p sh kn c g = 0
      · rw [if_pos c2]
        obtain ⟨k1, k2, k3, k4, k5, k6⟩ := rdK_0 c2
        exact ih (c + 1) (rdU g c (rdN B n p)) (tkE B n p) (by omega) (by omega) he.2 (rdU_L h4 k5 k6) (fun z => by have := h5 z; omega)
      · rw [if_neg c2]
        have := rdK_le (B := B) (n := n) (p := p) (sh := sh) (kn := kn) (c := c) (g := g)
        exact ⟨by show rdK B n p sh kn c g ≤ 6; omega, ha.2, he.2, fun z => absurd z c2⟩
theorem rdLs_0 : rdLs 0 g kn := ⟨fun k hk => absurd hk (Nat.not_lt_zero k), fun j k hj => absurd hj (Nat.not_lt_zero j)⟩
theorem rdQ_ok (hq : p ≤ n) : (rdQ B n p kn).1 ≤ 6 ∧ (rdQ B n p kn).2.1 ≤ n ∧ (rdQ B n p kn).2.2.2.2 ≤ n ∧ ((rdQ B n p kn).1 = 0 → rdLs (rdQ B n p kn).2.2.1 (rdQ B n p kn).2.2.2.1 kn ∧ 2 ≤ (rdQ B n p kn).2.2.1 ∧ (rdQ B n p kn).2.2.1 ≤ 12 ∧ (tkX B n p = 4 → (rdQ B n p kn).2.2.1 = 2)) := rdP_ok 13 0 (fun _ => 0) (tkE B n p) rfl (by omega) (tkE_le hq).2 rdLs_0 (fun _ => Nat.zero_le _)
theorem rdS_st {a b : Nat} (h : ¬ q.1 = 0) : rdS e q a b = q := by
  unfold rdS
  rw [if_pos h]
theorem rdI_st : ∀ (m k : Nat), ¬ q.1 = 0 → rdI e g ix m k q = q := by
  intro m
  induction m with
  | zero => exact fun _ _ => rfl
  | succ m ih =>
    intro k h
    rw [rdI, rdS_st h]
    exact ih (k + 1) h
theorem rdJ_st {k : Nat} : ∀ (m j : Nat), ¬ q.1 = 0 → rdJ e g k m j q = q := by
  intro m
  induction m with
  | zero => exact fun _ _ => rfl
  | succ m ih =>
    intro j h
    rw [rdJ, rdS_st h]
    exact ih (j + 1) h
theorem rdA_st : ∀ (m k : Nat), ¬ q.1 = 0 → rdA e g m k q = q := by
  intro m
  induction m with
  | zero => exact fun _ _ => rfl
  | succ m ih =>
    intro k h
    rw [rdA, rdJ_st _ _ h]
    exact ih (k + 1) h
/-- rows stay those of a net -/
def rdO (q : Nat × (Nat → Int32)) (kn e : Nat) : Prop := q.1 ≤ 6 ∧ rdG q.2 kn e
theorem fl_G {a b : Nat} (hn : kn ≤ 24) (h : rdG f kn e) (ha : a < kn) (hb : b < kn) (hne : a ≠ b) (hd : ∀ k, k < 24 → i_pc (fl_r f a b k) ≤ e) : rdG (fl_r f a b) kn e := ⟨gw_fl hn h.1 ha hb hne, hd⟩
theorem rdS_ok {a b : Nat} (hn : kn ≤ 24) (h : rdO q kn e) (ha : a < kn) (hb : b < kn) (hne : a ≠ b) : rdO (rdS e q a b) kn e := by
  unfold rdS
  by_cases c0 : ¬ q.1 = 0
  · rw [if_pos c0]
    exact h
  · rw [if_neg c0]
    by_cases c1 : bt (q.2 a) b = true
    · rw [if_pos c1]
      exact ⟨by show 5 ≤ 6; omega, h.2⟩
    · rw [if_neg c1]
      by_cases c2 : e ≤ i_pc (q.2 a) ∨ e ≤ i_pc (q.2 b)
      · rw [if_pos c2]
        exact ⟨Nat.le_refl _, h.2⟩
      · rw [if_neg c2]
        refine ⟨Nat.zero_le _, fl_G hn h.2 ha hb hne (fun k hk => ?_)⟩
        have s1 : bt (q.2 a) b = false := ts_nt c1
        have s2 : bt (q.2 b) a = false := by rw [bt_sym hn h.2.1 ha hb]; exact s1
        unfold fl_r
        by_cases e1 : k = b
        · rw [if_pos e1, i_pc_on (by omega) s2]
          omega
        · rw [if_neg e1]
          by_cases e2 : k = a
          · rw [if_pos e2, i_pc_on (by omega) s1]
            omega
          · rw [if_neg e2]
            exact h.2.2 k hk
theorem rdI_ok (hn : kn ≤ 24) (hl : rdLs c g kn) (hx : ∀ k, 1 ≤ k → k < c → ix k < c ∧ ix k ≠ k) : ∀ (m k : Nat) (q : Nat × (Nat → Int32)), k + m = c → 1 ≤ k → rdO q kn e → rdO (rdI e g ix m k q) kn e := by
  intro m
  induction m with
  | zero => exact fun _ _ _ _ h => h
  | succ m ih =>
    intro k q hk h1 h
    rw [rdI]
    obtain ⟨x1, x2⟩ := hx k h1 (by omega)
    exact ih (k + 1) _ (by omega) (by omega) (rdS_ok hn h (hl.1 _ x1) (hl.1 _ (by omega)) (hl.2 _ _ x1 (by omega) x2))
theorem rdJ_ok {k : Nat} (hn : kn ≤ 24) (hl : rdLs c g kn) (hk : k < c) : ∀ (m j : Nat) (q : Nat × (Nat → Int32)), j + m = k → rdO q kn e → rdO (rdJ e g k m j q) kn e := by
  intro m
  induction m with
  | zero => exact fun _ _ _ h => h
  | succ m ih =>
    intro j q hj h
    rw [rdJ]
    exact ih (j + 1) _ (by omega) (rdS_ok hn h (hl.1 _ (by omega)) (hl.1 _ hk) (hl.2 _ _ (by omega) hk (by omega)))
theorem rdA_ok (hn : kn ≤ 24) (hl : rdLs c g kn) : ∀ (m k : Nat) (q : Nat × (Nat → Int32)), k + m = c → rdO q kn e → rdO (rdA e g m k q) kn e := by
  intro m
  induction m with
  | zero => exact fun _ _ _ h => h
  | succ m ih =>
    intro k q hk h
    rw [rdA]
    exact ih (k + 1) _ (by omega) (rdJ_ok hn hl (by omega) k 0 q (by omega) h)
theorem rdD_ok (hn : kn ≤ 24) (hl : rdLs c g kn) (h2 : 2 ≤ c) (h : rdG f kn e) : rdO (rdD e sh g c f) kn e := by
  have h0 : rdO ((0 : Nat), f) kn e := ⟨Nat.zero_le _, h⟩
  unfold rdD
  by_cases c4 : sh = 4
  · rw [if_pos c4]
    by_cases d : bt (f (g 0)) (g 1) = true
    · rw [if_pos d]
      have a1 := hl.1 0 (by omega)
      have a2 := hl.1 1 (by omega)
      have a3 := hl.2 0 1 (by omega) (by omega) (by omega)
      have d2 : bt (f (g 1)) (g 0) = true := by rw [bt_sym hn h.1 a1 a2]; exact d
      refine ⟨Nat.zero_le _, fl_G hn h a1 a2 a3 (fun k hk => ?_)⟩
      unfold fl_r
      by_cases e1 : k = g 1
      · rw [if_pos e1]
        have w1 := i_pc_off (x := f (g 1)) (q := g 0) (by omega) d2
        have w2 := h.2 (g 1) (by omega)
        omega
      · rw [if_neg e1]
        by_cases e2 : k = g 0
        · rw [if_pos e2]
          have w1 := i_pc_off (x := f (g 0)) (q := g 1) (by omega) d
          have w2 := h.2 (g 0) (by omega)
          omega
        · rw [if_neg e2]
          exact h.2 k hk
    · rw [if_neg d]
      exact ⟨by show 5 ≤ 6; omega, h⟩
  · rw [if_neg c4]
    by_cases c2 : sh = 2
    · rw [if_pos c2]
      exact rdA_ok hn hl (c - 1) 1 _ (by omega) h0
    · rw [if_neg c2]
      by_cases c3 : sh = 3
      · rw [if_pos c3]
        exact rdI_ok hn hl (fun k h1 h2 => ⟨by omega, by omega⟩) (c - 1) 1 _ (by omega) (by omega) h0
      · rw [if_neg c3]
        have hr : rdO (rdI e g (fun k => k - 1) (c - 1) 1 (0, f)) kn e := rdI_ok hn hl (fun k h1 h2 => ⟨by omega, by omega⟩) (c - 1) 1 _ (by omega) (by omega) h0
        by_cases c1 : sh = 1
        · rw [if_pos c1]
          exact rdS_ok hn hr (hl.1 _ (by omega)) (hl.1 _ (by omega)) (hl.2 _ _ (by omega) (by omega) (by omega))
        · rw [if_neg c1]
          exact hr
theorem rdV_ok (hn : kn ≤ 24) (hq : p ≤ n) (h0 : (rdQ B n p kn).1 = 0) (h : rdG f kn e) : rdO (rdV B n p kn e f) kn e := by
  obtain ⟨k1, k2, k3, k4⟩ := rdQ_ok (B := B) (kn := kn) hq
  obtain ⟨j1, j2, j3, j4⟩ := k4 h0
  exact rdD_ok hn j1 j2 h
theorem rdC_ok (hn : kn ≤ 24) : ∀ (m p : Nat) (f : Nat → Int32), p ≤ n → rdG f kn e → (rdC B n kn e m p f).1 ≤ 6 ∧ (rdC B n kn e m p f).2.1 ≤ n ∧ ((rdC B n kn e m p f).1 = 0 → rdG (rdC B n kn e m p f).2.2 kn e) := by
  intro m
  induction m with
  | zero => exact fun p f _ h => ⟨Nat.zero_le _, Nat.zero_le _, fun _ => h⟩
  | succ m ih =>
    intro p f hq h
    have ha := tkA_le (B := B) hq
    obtain ⟨k1, k2, k3, k4⟩ := rdQ_ok (B := B) (kn := kn) hq
    by_cases c0 : tkK B n p = 0
    · rw [rdC, if_pos c0]
      exact ⟨Nat.zero_le _, Nat.zero_le _, fun _ => h⟩
    · rw [rdC, if_neg c0]
      by_cases c1 : 4 < tkX B n p
      · rw [if_pos c1]
        exact ⟨by show 1 ≤ 6; omega, ha.2, fun z => nz1 z⟩
      · rw [if_neg c1]
        by_cases c2 : m = 0
        · rw [if_pos c2]
          exact ⟨by show 2 ≤ 6; omega, ha.2, fun z => nz2 z⟩
        · rw [if_neg c2]
          by_cases c3 : ¬ (rdQ B n p kn).1 = 0
          · rw [if_pos c3]
            exact ⟨k1, k2, fun z => absurd z c3⟩
          · rw [if_neg c3]
            have hv := rdV_ok (B := B) hn hq (Decidable.not_not.mp c3) h
            by_cases c4 : ¬ (rdV B n p kn e f).1 = 0
            · rw [if_pos c4]
              exact ⟨hv.1, k2, fun z => absurd z c4⟩
            · rw [if_neg c4]
              exact ih _ _ k3 hv.2
theorem rdG_0 {e : Nat} : rdG (fun _ => 0) kn e := ⟨fun a _ b hb => absurd hb (by rw [b_0]; decide), fun a _ => by rw [i_pc_0]; exact Nat.zero_le _⟩
theorem rdZ_0 {most : Nat} (h : rdZ B n p most = 0) : tkK B n p = 2 ∧ tkE B n p - tkA B n p ≤ 3 ∧ 1 ≤ rdN B n p ∧ rdN B n p ≤ most := by
  unfold rdZ at h
  by_cases c1 : ¬ tkK B n p = 2
  · rw [if_pos c1] at h
    omega
  · rw [if_neg c1] at h
    by_cases c2 : 3 < tkE B n p - tkA B n p ∨ rdN B n p < 1 ∨ most < rdN B n p
    · rw [if_pos c2] at h
      omega
    · omega
theorem rdZ_le {most : Nat} : rdZ B n p most ≤ 2 := by
  unfold rdZ
  split
  · omega
  · split <;> omega
theorem rd_le : rd1 B n ≤ n ∧ rd2 B n ≤ n ∧ rd3 B n ≤ n ∧ rd4 B n ≤ n ∧ rd5 B n ≤ n := by
  have h1 : rd1 B n ≤ n := (tkE_le (Nat.zero_le n)).2
  have h2 : rd2 B n ≤ n := (tkE_le h1).2
  have h3 : rd3 B n ≤ n := (tkE_le h2).2
  have h4 : rd4 B n ≤ n := (tkE_le h3).2
  exact ⟨h1, h2, h3, h4, (tkE_le h4).2⟩
theorem rdH_0 (h : (rdH B n).1 = 0) : tkX B n 0 = 5 ∧ rdZ B n (rd1 B n) 24 = 0 ∧ tkX B n (rd2 B n) = 6 ∧ rdZ B n (rd3 B n) 8 = 0 ∧ tkK B n (rd4 B n) = 3 := by
  unfold rdH at h
  by_cases c1 : ¬ tkX B n 0 = 5
  · rw [if_pos c1] at h
    exact nz1 h
  rw [if_neg c1] at h
  by_cases c2 : ¬ rdZ B n (rd1 B n) 24 = 0
  · rw [if_pos c2] at h
    exact absurd h c2
  rw [if_neg c2] at h
  by_cases c3 : ¬ tkX B n (rd2 B n) = 6
  · rw [if_pos c3] at h
    exact nz1 h
  rw [if_neg c3] at h
  by_cases c4 : ¬ rdZ B n (rd3 B n) 8 = 0
  · rw [if_pos c4] at h
    exact absurd h c4
  rw [if_neg c4] at h
  by_cases c5 : ¬ tkK B n (rd4 B n) = 3
  · rw [if_pos c5] at h
    exact nz1 h
  exact ⟨by omega, by omega, by omega, by omega, by omega⟩
theorem rdH_le : (rdH B n).1 ≤ 6 ∧ (rdH B n).2 ≤ n := by
  obtain ⟨h1, h2, h3, h4, h5⟩ := rd_le (B := B) (n := n)
  have z1 := rdZ_le (B := B) (n := n) (p := rd1 B n) (most := 24)
  have z2 := rdZ_le (B := B) (n := n) (p := rd3 B n) (most := 8)
  have a0 := (tkA_le (B := B) (Nat.zero_le n)).2
  have a1 := (tkA_le (B := B) h1).2
  have a2 := (tkA_le (B := B) h2).2
  have a3 := (tkA_le (B := B) h3).2
  have a4 := (tkA_le (B := B) h4).2
  unfold rdH
  split
  · exact ⟨by show 1 ≤ 6; omega, a0⟩
  · split
    · exact ⟨by show rdZ B n (rd1 B n) 24 ≤ 6; omega, a1⟩
    · split
      · exact ⟨by show 1 ≤ 6; omega, a2⟩
      · split
        · exact ⟨by show rdZ B n (rd3 B n) 8 ≤ 6; omega, a3⟩
        · split
          · exact ⟨by show 1 ≤ 6; omega, a4⟩
          · exact ⟨Nat.zero_le _, Nat.zero_le _⟩
theorem rdT_ok : (rdT B n).1 ≤ 6 ∧ (rdT B n).2.1 ≤ n ∧ ((rdT B n).1 = 0 → 1 ≤ rdN B n (rd1 B n) ∧ rdN B n (rd1 B n) ≤ 24 ∧ 1 ≤ rdN B n (rd3 B n) ∧ rdN B n (rd3 B n) ≤ 8 ∧ rdG (rdT B n).2.2 (rdN B n (rd1 B n)) (rdN B n (rd3 B n))) := by
  obtain ⟨h1, h2⟩ := rdH_le (B := B) (n := n)
  unfold rdT
  by_cases c : ¬ (rdH B n).1 = 0
  · rw [if_pos c]
    exact ⟨h1, h2, fun z => absurd z c⟩
  · rw [if_neg c]
    obtain ⟨x1, x2, x3, x4, x5⟩ := rdH_0 (Decidable.not_not.mp c)
    obtain ⟨y1, y2, y3, y4⟩ := rdZ_0 x2
    obtain ⟨v1, v2, v3, v4⟩ := rdZ_0 x4
    obtain ⟨u1, u2, u3⟩ := rdC_ok (B := B) (n := n) (kn := rdN B n (rd1 B n)) (e := rdN B n (rd3 B n)) y4 21 (rd5 B n) (fun _ => 0) rd_le.2.2.2.2 rdG_0
    exact ⟨u1, u2, fun z => ⟨y3, y4, v3, v4, u3 z⟩⟩
end RDP
