/-! tell: sets as masks; the class's passOn; how far any way of telling is from the end -/
section TK
variable {n : Nat} {f : Nat → Int32} {J : Nat → Nat → Bool}
def tkO (n : Nat) (x : Int32) : Prop := ∀ v, bt x v = true → v < n
theorem tk_on {x : Int32} {v w : Nat} (hv : v < 32) : bt (x ||| lf_shl 1 (nI v)) w = true ↔ bt x w = true ∨ w = v := by
  rw [b_or_iff, b_one hv]
/-- all know after r rounds, by masks -/
def RM (Nx : Int32 → Int32 → Prop) (a : Int32) : Nat → Int32 → Prop
  | 0, x => x = a
  | r + 1, x => ∃ y, Nx x y ∧ RM Nx a r y
theorem RM_RT {Nx : Int32 → Int32 → Prop} (hn : n ≤ 24) (h1 : ∀ x y, tkO n x → Nx x y → ∃ A, TS J n (bt x) A ∧ ∀ v, bt y v = true ↔ bt x v = true ∨ A v = true) (h2 : ∀ x A, tkO n x → ¬ x = 0 → TS J n (bt x) A → ∃ y, Nx x y ∧ ∀ v, bt x v = true ∨ A v = true → bt y v = true) : ∀ (r : Nat) (x : Int32), tkO n x → ¬ x = 0 → (RM Nx (al n) r x ↔ RT J n r (bt x))
  | 0, x, h, _ => by
    constructor
    · intro e v hv
      have e : x = al n := e
      rw [e]
      exact (al_in hn).mpr hv
    · intro z
      exact b_eq (fun i => ⟨fun q => (al_in hn).mpr (h i q), fun q => z i ((al_in hn).mp q)⟩)
  | r + 1, x, h, h0 => by
    have hin : ∀ y, Nx x y → tkO n y ∧ ¬ y = 0 := by
      intro y hy
      obtain ⟨A, a1, a2⟩ := h1 x y h hy
      refine ⟨fun v hv => ?_, fun e => h0 (b_nothing.mpr (fun i hi => ?_))⟩
      · rcases (a2 v).mp hv with z | z
        · exact h v z
        · exact (a1.1 v z).1
      · exact b_nothing.mp e i ((a2 i).mpr (Or.inl hi))
    constructor
    · rintro ⟨y, l1, l2⟩
      obtain ⟨A, a1, a2⟩ := h1 x y h l1
      exact ⟨A, a1, RT_mono r (bt y) _ (fun v hv => kU_iff.mpr ((a2 v).mp hv)) ((RM_RT hn h1 h2 r y (hin y l1).1 (hin y l1).2).mp l2)⟩
    · rintro ⟨A, a1, a2⟩
      obtain ⟨y, l1, l2⟩ := h2 x A h h0 a1
      exact ⟨y, l1, (RM_RT hn h1 h2 r y (hin y l1).1 (hin y l1).2).mpr (RT_mono r (kU (bt x) A) (bt y) (fun v hv => l2 v (kU_iff.mp hv)) a2)⟩
/-- what is reached in just so many rounds -/
def RE (Nx : Int32 → Int32 → Prop) (x0 : Int32) : Nat → Int32 → Prop
  | 0, x => x = x0
  | r + 1, y => ∃ x, RE Nx x0 r x ∧ Nx x y
theorem RE_RM {Nx : Int32 → Int32 → Prop} {x0 a : Int32} : ∀ (r j : Nat), (∃ x, RE Nx x0 j x ∧ RM Nx a r x) ↔ RE Nx x0 (j + r) a
  | 0, j => by
    constructor
    · rintro ⟨x, h1, h2⟩
      have h2 : x = a := h2
      subst h2
      exact h1
    · intro h
      exact ⟨a, h, rfl⟩
  | r + 1, j => by
    have := RE_RM (Nx := Nx) (x0 := x0) (a := a) r (j + 1)
    rw [show j + (r + 1) = j + 1 + r by omega, ← this]
    constructor
    · rintro ⟨x, h1, y, h2, h3⟩
      exact ⟨y, ⟨x, h1, h2⟩, h3⟩
    · rintro ⟨y, ⟨x, h1, h2⟩, h3⟩
      exact ⟨x, h1, y, h2, h3⟩
theorem RE_0 {Nx : Int32 → Int32 → Prop} {x0 a : Int32} {r : Nat} : RE Nx x0 r a ↔ RM Nx a r x0 := by
  have := RE_RM (Nx := Nx) (x0 := x0) (a := a) r 0
  rw [Nat.zero_add] at this
  rw [← this]
  constructor
  · rintro ⟨x, h1, h2⟩
    have h1 : x = x0 := h1
    subst h1
    exact h2
  · intro h
    exact ⟨x0, rfl, h⟩
/-- what is reached lies within the knots, and is not empty -/
theorem RE_ok {Nx : Int32 → Int32 → Prop} {x0 : Int32} (h1 : ∀ x y, tkO n x → Nx x y → ∃ A, TS J n (bt x) A ∧ ∀ v, bt y v = true ↔ bt x v = true ∨ A v = true) (h : tkO n x0) (h0 : ¬ x0 = 0) : ∀ (r : Nat) (y : Int32), RE Nx x0 r y → tkO n y ∧ ¬ y = 0
  | 0, y, e => by
    have e : y = x0 := e
    subst e
    exact ⟨h, h0⟩
  | r + 1, y, ⟨x, e1, e2⟩ => by
    obtain ⟨q1, q2⟩ := RE_ok h1 h h0 r x e1
    obtain ⟨A, a1, a2⟩ := h1 x y q1 e2
    refine ⟨fun v hv => ?_, fun e => q2 (b_nothing.mpr (fun i hi => ?_))⟩
    · rcases (a2 v).mp hv with z | z
      · exact q1 v z
      · exact (a1.1 v z).1
    · exact b_nothing.mp e i ((a2 i).mpr (Or.inl hi))
/-- the class's passOn: where it may end -/
def PO (f : Nat → Int32) : List Nat → Int32 → Int32 → Prop
  | [], K, L => L = K
  | t :: ts, K, L => (f t &&& (K ^^^ (-1)) = 0 ∧ PO f ts K L) ∨ ∃ v, bt (f t &&& (K ^^^ (-1))) v = true ∧ PO f ts (K ||| lf_shl 1 (nI v)) L
theorem PO_1 (hn : n ≤ 24) (hw : gw f n) : ∀ (ts : List Nat) (K L : Int32), ts.Nodup → (∀ t, t ∈ ts → t < n) → tkO n K → PO f ts K L → ∃ (A : Nat → Bool) (p : Nat → Nat), (∀ v, A v = true → v < n ∧ ¬ bt K v = true) ∧ (∀ v, A v = true → p v ∈ ts ∧ bt (f v) (p v) = true) ∧ (∀ v w, A v = true → A w = true → p v = p w → v = w) ∧ ∀ v, bt L v = true ↔ bt K v = true ∨ A v = true
  | [], K, L, _, _, _, h => by
    have h : L = K := h
    subst h
    refine ⟨fun _ => false, id, fun v z => absurd z Bool.false_ne_true, fun v z => absurd z Bool.false_ne_true, fun v w z => absurd z Bool.false_ne_true, fun v => ⟨Or.inl, fun z => ?_⟩⟩
    rcases z with z | z
    · exact z
    · cases z
  | t :: ts, K, L, hd, ht, hk, h => by
    have hd2 := List.nodup_cons.mp hd
    rcases h with ⟨e, h⟩ | ⟨v, hv, h⟩
    · obtain ⟨A, p, a1, a2, a3, a4⟩ := PO_1 hn hw ts K L hd2.2 (fun t q => ht t (List.mem_cons_of_mem _ q)) hk h
      exact ⟨A, p, a1, fun v hv => ⟨List.mem_cons_of_mem _ (a2 v hv).1, (a2 v hv).2⟩, a3, a4⟩
    · rw [b_andn] at hv
      have htn := ht t List.mem_cons_self
      obtain ⟨-, hvn, -, hvt⟩ := hw t (by omega) v hv.1
      have hb : ∀ w, bt (K ||| lf_shl 1 (nI v)) w = true ↔ bt K w = true ∨ w = v := fun w => tk_on (by omega)
      obtain ⟨A, p, a1, a2, a3, a4⟩ := PO_1 hn hw ts _ L hd2.2 (fun t q => ht t (List.mem_cons_of_mem _ q)) (fun w hw => by
        rcases (hb w).mp hw with z | z
        · exact hk w z
        · omega) h
      have hAv : ∀ w, A w = true → w ≠ v := fun w hw e => (a1 w hw).2 ((hb w).mpr (Or.inr e))
      have hor : ∀ w, (A w || decide (w = v)) = true ↔ A w = true ∨ w = v := fun w => by rw [Bool.or_eq_true, decide_eq_true_iff]
      refine ⟨fun w => A w || decide (w = v), fun w => if w = v then t else p w, fun w hw => ?_, fun w hw => ?_, fun w u hw hu e => ?_, fun w => ?_⟩
      · rcases (hor w).mp hw with z | z
        · exact ⟨(a1 w z).1, fun q => (a1 w z).2 ((hb w).mpr (Or.inl q))⟩
        · subst z; exact ⟨hvn, hv.2⟩
      · rcases (hor w).mp hw with z | z
        · show (if w = v then t else p w) ∈ _ ∧ bt (f w) (if w = v then t else p w) = true
          rw [if_neg (hAv w z)]
          exact ⟨List.mem_cons_of_mem _ (a2 w z).1, (a2 w z).2⟩
        · subst z
          show (if w = w then t else p w) ∈ _ ∧ bt (f w) (if w = w then t else p w) = true
          rw [if_pos rfl]
          exact ⟨List.mem_cons_self, hvt⟩
      · have e : (if w = v then t else p w) = (if u = v then t else p u) := e
        rcases (hor w).mp hw with z | z
        · rw [if_neg (hAv w z)] at e
          rcases (hor u).mp hu with y | y
          · rw [if_neg (hAv u y)] at e
            exact a3 w u z y e
          · rw [if_pos y] at e
            have := (a2 w z).1
            rw [e] at this
            exact absurd this hd2.1
        · rw [if_pos z] at e
          rcases (hor u).mp hu with y | y
          · rw [if_neg (hAv u y)] at e
            have := (a2 u y).1
            rw [← e] at this
            exact absurd this hd2.1
          · rw [z, y]
      · rw [a4 w, hb w]
        show _ ↔ _ ∨ (A w || decide (w = v)) = true
        rw [hor w]
        constructor
        · rintro ((z | z) | z)
          · exact Or.inl z
          · exact Or.inr (Or.inr z)
          · exact Or.inr (Or.inl z)
        · rintro (z | z | z)
          · exact Or.inl (Or.inl z)
          · exact Or.inr z
          · exact Or.inl (Or.inr z)
theorem PO_2 (hn : n ≤ 24) (hw : gw f n) {K : Int32} {A : Nat → Bool} {p : Nat → Nat} (a1 : ∀ v, A v = true → v < n ∧ ¬ bt K v = true) (a2 : ∀ v, A v = true → bt K (p v) = true ∧ bt (f v) (p v) = true) (a3 : ∀ v w, A v = true → A w = true → p v = p w → v = w) : ∀ (ts : List Nat) (K' : Int32), (∀ t, t ∈ ts → t < n) → ∃ L, PO f ts K' L ∧ (∀ v, bt K' v = true → bt L v = true) ∧ ∀ v, A v = true → p v ∈ ts → bt L v = true
  | [], K', _ => ⟨K', rfl, fun _ h => h, fun v _ h => absurd h List.not_mem_nil⟩
  | t :: ts, K', ht => by
    have ht2 : ∀ t, t ∈ ts → t < n := fun t q => ht t (List.mem_cons_of_mem _ q)
    have htn := ht t List.mem_cons_self
    by_cases c : ∃ v, A v = true ∧ p v = t ∧ ¬ bt K' v = true
    · obtain ⟨v, c1, c2, c3⟩ := c
      have hvn := (a1 v c1).1
      have hvt := (hw v (by omega) (p v) (a2 v c1).2).2.2.2
      rw [c2] at hvt
      obtain ⟨L, l1, l2, l3⟩ := PO_2 hn hw a1 a2 a3 ts (K' ||| lf_shl 1 (nI v)) ht2
      refine ⟨L, Or.inr ⟨v, b_andn.mpr ⟨hvt, c3⟩, l1⟩, fun w hw => l2 w ((tk_on (by omega)).mpr (Or.inl hw)), fun w aw hw => ?_⟩
      rcases List.mem_cons.mp hw with e | e
      · have : w = v := a3 w v aw c1 (e.trans c2.symm)
        subst this
        exact l2 w ((tk_on (by omega)).mpr (Or.inr rfl))
      · exact l3 w aw e
    · by_cases d : f t &&& (K' ^^^ (-1)) = 0
      · obtain ⟨L, l1, l2, l3⟩ := PO_2 hn hw a1 a2 a3 ts K' ht2
        refine ⟨L, Or.inl ⟨d, l1⟩, l2, fun w aw hw => ?_⟩
        rcases List.mem_cons.mp hw with e | e
        · exact l2 w (Classical.byContradiction fun z => c ⟨w, aw, e, z⟩)
        · exact l3 w aw e
      · obtain ⟨v, hv⟩ : ∃ v, bt (f t &&& (K' ^^^ (-1))) v = true := Classical.byContradiction fun z => d (b_nothing.mpr (fun i hi => z ⟨i, hi⟩))
        have hvn := (hw t (by omega) v (b_andn.mp hv).1).2.1
        obtain ⟨L, l1, l2, l3⟩ := PO_2 hn hw a1 a2 a3 ts (K' ||| lf_shl 1 (nI v)) ht2
        refine ⟨L, Or.inr ⟨v, hv, l1⟩, fun w hw => l2 w ((tk_on (by omega)).mpr (Or.inl hw)), fun w aw hw => ?_⟩
        rcases List.mem_cons.mp hw with e | e
        · exact l2 w ((tk_on (by omega)).mpr (Or.inl (Classical.byContradiction fun z => c ⟨w, aw, e, z⟩)))
        · exact l3 w aw e
theorem bl_nd (x : Int32) : (bl x).Nodup := List.Nodup.sublist List.filter_sublist List.nodup_range
/-- a round of the class -/
def NxC (f : Nat → Int32) (x y : Int32) : Prop := PO f (bl x) x y
theorem NxC_1 (hn : n ≤ 24) (hw : gw f n) (x y : Int32) (hx : tkO n x) (h : NxC f x y) : ∃ A, TS (fun v p => bt (f v) p) n (bt x) A ∧ ∀ v, bt y v = true ↔ bt x v = true ∨ A v = true := by
  obtain ⟨A, p, a1, a2, a3, a4⟩ := PO_1 hn hw (bl x) x y (bl_nd x) (fun t q => hx t (bl_mem.mp q)) hx h
  exact ⟨A, ⟨a1, p, fun v hv => ⟨bl_mem.mp (a2 v hv).1, (a2 v hv).2⟩, a3⟩, a4⟩
theorem NxC_2 (hn : n ≤ 24) (hw : gw f n) (x : Int32) (A : Nat → Bool) (hx : tkO n x) (h : TS (fun v p => bt (f v) p) n (bt x) A) : ∃ y, NxC f x y ∧ ∀ v, bt x v = true ∨ A v = true → bt y v = true := by
  obtain ⟨a1, p, a2, a3⟩ := h
  obtain ⟨L, l1, l2, l3⟩ := PO_2 hn hw a1 a2 a3 (bl x) x (fun t q => hx t (bl_mem.mp q))
  refine ⟨L, l1, fun v hv => ?_⟩
  rcases hv with z | z
  · exact l2 v z
  · exact l3 v z (bl_mem.mpr (a2 v z).1)
/-- in a whole net someone who knows has a neighbour who doesn't -/
theorem tk_out (hn : n ≤ 24) (hw : gw f n) (hJ : dS f (al n) 23 = 0) {x : Int32} {a : Nat} (ha : bt x a = true) (han : a < n) : ∀ (d b : Nat), b < n → ¬ bt x b = true → gd f (al n) b a ≤ d → ∃ v y, v < n ∧ ¬ bt x v = true ∧ bt x y = true ∧ bt (f v) y = true := by
  intro d
  induction d with
  | zero =>
    intro b hb hbx hd
    have hba : b ≠ a := fun e => hbx (by rw [e]; exact ha)
    obtain ⟨-, -, -, h4⟩ := hop_ok hn hw hJ hb han hba
    omega
  | succ d ih =>
    intro b hb hbx hd
    have hba : b ≠ a := fun e => hbx (by rw [e]; exact ha)
    obtain ⟨-, h2, h3, h4⟩ := hop_ok hn hw hJ hb han hba
    by_cases c : bt x (hq f (al n) b a) = true
    · exact ⟨b, _, hb, hbx, c, h3⟩
    · exact ih _ h2 c (by omega)
/-- so many rounds are enough -/
theorem RT_ex (hn : n ≤ 24) (hw : gw f n) (hJ : dS f (al n) 23 = 0) : ∀ (r : Nat) (x : Int32), tkO n x → ¬ x = 0 → n ≤ i_pc x + r → RT (fun v p => bt (f v) p) n r (bt x) := by
  have full : ∀ x : Int32, tkO n x → n ≤ i_pc x → ∀ v, v < n → bt x v = true := by
    intro x hx h v hv
    apply Classical.byContradiction
    intro c
    have := i_pc_lt (x := x) (y := al n) (fun i hi => (al_in hn).mpr (hx i hi)) (ts_nt c) ((al_in hn).mpr hv)
    have h2 := i_pc_max (x := al n) (n := n) (by omega) (fun i hi => (al_in hn).mp hi)
    omega
  intro r
  induction r with
  | zero =>
    intro x hx h0 h
    exact full x hx (by omega)
  | succ r ih =>
    intro x hx h0 h
    by_cases c : n ≤ i_pc x
    · exact ⟨fun _ => false, ⟨fun v z => absurd z Bool.false_ne_true, id, fun v z => absurd z Bool.false_ne_true, fun v w z => absurd z Bool.false_ne_true⟩, RT_mono r (bt x) _ (fun v hv => kU_iff.mpr (Or.inl hv)) (ih x hx h0 (by omega))⟩
    · obtain ⟨a, ha⟩ : ∃ a, bt x a = true := Classical.byContradiction fun z => h0 (b_nothing.mpr (fun i hi => z ⟨i, hi⟩))
      obtain ⟨b, hb, hbx⟩ : ∃ b, b < n ∧ ¬ bt x b = true := by
        apply Classical.byContradiction
        intro z
        have e : x = al n := b_eq (fun i => ⟨fun q => (al_in hn).mpr (hx i q), fun q => Classical.byContradiction fun y => z ⟨i, (al_in hn).mp q, y⟩⟩)
        apply c
        rw [e]
        have := bl_len (al n)
        rw [bl_n (n := n) (by omega) (fun i hi => (al_in hn).mp hi), filt_sm, sm_congr (G := fun _ => 1) (fun k hk => by rw [if_pos ⟨Nat.zero_le _, (al_in hn).mpr (by omega)⟩])] at this
        have h1 : ∀ m, sm (fun _ => 1) m = m := by
          intro m
          induction m with
          | zero => rfl
          | succ m ih => show sm (fun _ => 1) m + 1 = _; rw [ih]
        rw [h1] at this
        omega
      obtain ⟨v, y, v1, v2, v3, v4⟩ := tk_out hn hw hJ ha (hx a ha) _ b hb hbx (Nat.le_refl _)
      have hv32 : v < 32 := by omega
      refine ⟨fun w => decide (w = v), ⟨fun w hw => ?_, fun _ => y, fun w hw => ?_, fun w u hw hu _ => ?_⟩, RT_mono r (bt (x ||| lf_shl 1 (nI v))) _ (fun w hw => ?_) (ih _ (fun w hw => ?_) (fun e => ?_) ?_)⟩
      · have := of_decide_eq_true hw
        subst this
        exact ⟨v1, v2⟩
      · have := of_decide_eq_true hw
        subst this
        exact ⟨v3, v4⟩
      · rw [of_decide_eq_true hw, of_decide_eq_true hu]
      · rw [kU_iff]
        rcases (tk_on hv32).mp hw with z | z
        · exact Or.inl z
        · exact Or.inr (decide_eq_true z)
      · rcases (tk_on hv32).mp hw with z | z
        · exact hx w z
        · omega
      · exact b_nothing.mp e v ((tk_on hv32).mpr (Or.inr rfl))
      · have := i_pc_lt (x := x) (y := x ||| lf_shl 1 (nI v)) (fun i hi => (tk_on hv32).mpr (Or.inl hi)) (ts_nt v2) ((tk_on hv32).mpr (Or.inr rfl))
        omega
end TK
