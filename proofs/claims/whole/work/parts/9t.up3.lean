/-! up and down from a top -/
def uPr (f : Nat → Int32) (n v u : Nat) : Int32 := if u < n then f u &&& ((if gd f (al n) v u = 0 then 0 else bal f (al n) v (gd f (al n) v u - 1)) ||| (rim f (al n) v (gd f (al n) v u) &&& (lf_shl 1 (nI u) - 1))) else 0
def uDr (f : Nat → Int32) (n v u : Nat) : Int32 := if u < n then f u &&& (uPr f n v u ^^^ (-1)) else 0
def mxF (F : Nat → Nat) : Nat → Nat → Nat
  | 0, b => b
  | k + 1, b => if mxF F k b < F k then F k else mxF F k b
theorem mxF_uM {F : Nat → Nat} {b : Nat} : ∀ k, uM (fun w => w < k) F b (mxF F k b) := by
  intro k
  induction k with
  | zero => exact ⟨Nat.le_refl _, fun w z => absurd z (Nat.not_lt_zero _), Or.inl rfl⟩
  | succ k ih =>
    obtain ⟨h1, h2, h3⟩ := ih
    show uM (fun w => w < k + 1) F b (if mxF F k b < F k then F k else mxF F k b)
    by_cases c : mxF F k b < F k
    · rw [if_pos c]
      refine ⟨by omega, fun w z => ?_, Or.inr ⟨k, by omega, rfl⟩⟩
      by_cases e : w = k
      · rw [e]; omega
      · have := h2 w (show w < k by omega); omega
    · rw [if_neg c]
      refine ⟨h1, fun w z => ?_, ?_⟩
      · by_cases e : w = k
        · rw [e]; omega
        · exact h2 w (show w < k by omega)
      · rcases h3 with z | ⟨w, z1, z2⟩
        · exact Or.inl z
        · exact Or.inr ⟨w, by omega, z2⟩
section UR
variable {f : Nat → Int32} {n d v N s : Nat} {cs : Nat × Nat}
theorem uP_bt {u w : Nat} (hv : v < n) (hn : n ≤ 24) (hu : u < n) (h24 : gd f (al n) v u < 24) : bt (uPr f n v u) w = true ↔ bt (f u) w = true ∧ (gd f (al n) v w < gd f (al n) v u ∨ (gd f (al n) v w = gd f (al n) v u ∧ w < u)) := by
  unfold uPr
  rw [if_pos hu, b_and_iff, b_or_iff, b_and_iff, al_bt (by omega), ← gd_eq (by omega) h24]
  have k : bt (if gd f (al n) v u = 0 then 0 else bal f (al n) v (gd f (al n) v u - 1)) w = true ↔ gd f (al n) v w < gd f (al n) v u := by
    by_cases c : gd f (al n) v u = 0
    · rw [if_pos c, b_0, c]
      exact ⟨fun z => absurd z (by decide), fun z => absurd z (Nat.not_lt_zero _)⟩
    · rw [if_neg c]
      have := gd_lt_iff (f := f) (A := al n) (v := v) (x := w) (s := gd f (al n) v u - 1) (by omega) (by omega)
      constructor
      · intro z
        apply Classical.byContradiction
        intro y
        exact this.mp (by omega) z
      · intro z
        apply Classical.byContradiction
        intro y
        have := this.mpr y
        omega
  rw [k]
theorem uD_bt {u w : Nat} (hv : v < n) (hn : n ≤ 24) (hu : u < n) (h24 : gd f (al n) v u < 24) : bt (uDr f n v u) w = true ↔ bt (f u) w = true ∧ ¬ (gd f (al n) v w < gd f (al n) v u ∨ (gd f (al n) v w = gd f (al n) v u ∧ w < u)) := by
  unfold uDr
  rw [if_pos hu, b_andn, uP_bt hv hn hu h24]
  constructor
  · rintro ⟨z1, z2⟩
    exact ⟨z1, fun y => z2 ⟨z1, y⟩⟩
  · rintro ⟨z1, z2⟩
    exact ⟨z1, fun y => z2 y.2⟩
theorem uP_in (hw : gw f n) (hn : n ≤ 24) {j i : Nat} (h : bt (uPr f n v j) i = true) : i < n := by
  unfold uPr at h
  by_cases c : j < n
  · rw [if_pos c] at h
    exact (hw j (by omega) i (b_and_iff.mp h).1).2.1
  · rw [if_neg c, b_0] at h
    cases h
theorem uD_in (hw : gw f n) (hn : n ≤ 24) {j i : Nat} (h : bt (uDr f n v j) i = true) : i < n := by
  unfold uDr at h
  by_cases c : j < n
  · rw [if_pos c] at h
    exact (hw j (by omega) i (b_and_iff.mp h).1).2.1
  · rw [if_neg c, b_0] at h
    cases h
/-- all is reached -/
theorem up_top (hn : n ≤ 24) (hw : gw f n) (hJ : dS f (al n) 23 = 0) (hv : v < n) {a : Nat} : ∀ (t s u : Nat), u < n → gd f (al n) v u = t → bt (uU (uPr f n v) a s) u = true → bt (uU (uPr f n v) a (s + t)) v = true := by
  have hsy : ∀ a b, bt (al n) a = true → bt (al n) b = true → bt (f a) b = true → bt (f b) a = true := fun a b ha hb h => (hw a (by have := (al_in hn).mp ha; omega) b h).2.2.2
  have hlt : ∀ x, x < n → gd f (al n) v x < 24 := fun x hx => gJ_iff.mp hJ v x (by omega) (by omega) ((al_in hn).mpr hv) ((al_in hn).mpr hx)
  have sym : ∀ x, x < n → gd f (al n) x v = gd f (al n) v x := fun x hx => gd_sym hsy (by omega) (by omega) ((al_in hn).mpr hx) ((al_in hn).mpr hv)
  intro t
  induction t with
  | zero =>
    intro s u hu hg hs
    have e := (gd_eq (f := f) (A := al n) (v := v) (x := u) (s := 0) (by omega) (by omega)).mp hg
    have : u = v := (b_one (by omega)).mp e
    rw [this] at hs
    exact hs
  | succ t ih =>
    intro s u hu hg hs
    have hne : u ≠ v := by
      intro z
      rw [z, gd_self (by omega)] at hg
      omega
    obtain ⟨-, q1, q2, q3⟩ := hop_ok hn hw hJ hu hv hne
    rw [sym _ q1, sym _ hu] at q3
    have := ih (s + 1) _ q1 (by omega) (uU_s.mpr (Or.inr ⟨u, hs, (uP_bt hv hn hu (hlt u hu)).mpr ⟨q2, Or.inl (by omega)⟩⟩))
    rwa [show s + 1 + t = s + (t + 1) by omega] at this
theorem dn_all (hn : n ≤ 24) (hw : gw f n) (hJ : dS f (al n) 23 = 0) (hv : v < n) {a s : Nat} (h0 : bt (uS (uPr f n v) (uDr f n v) a s) v = true) : ∀ (t w : Nat), w < n → gd f (al n) v w = t → bt (uS (uPr f n v) (uDr f n v) a (s + t)) w = true := by
  have hsy : ∀ a b, bt (al n) a = true → bt (al n) b = true → bt (f a) b = true → bt (f b) a = true := fun a b ha hb h => (hw a (by have := (al_in hn).mp ha; omega) b h).2.2.2
  have hlt : ∀ x, x < n → gd f (al n) v x < 24 := fun x hx => gJ_iff.mp hJ v x (by omega) (by omega) ((al_in hn).mpr hv) ((al_in hn).mpr hx)
  have sym : ∀ x, x < n → gd f (al n) x v = gd f (al n) v x := fun x hx => gd_sym hsy (by omega) (by omega) ((al_in hn).mpr hx) ((al_in hn).mpr hv)
  intro t
  induction t with
  | zero =>
    intro w hw' hg
    have e := (gd_eq (f := f) (A := al n) (v := v) (x := w) (s := 0) (by omega) (by omega)).mp hg
    have : w = v := (b_one (by omega)).mp e
    rw [this]
    exact h0
  | succ t ih =>
    intro w hw' hg
    have hne : w ≠ v := by
      intro z
      rw [z, gd_self (by omega)] at hg
      omega
    obtain ⟨-, q1, q2, q3⟩ := hop_ok hn hw hJ hw' hv hne
    rw [sym _ q1, sym _ hw'] at q3
    have := ih _ q1 (by omega)
    refine uS_s.mpr (Or.inr (Or.inr ⟨_, this, (uD_bt hv hn q1 (hlt _ q1)).mpr ⟨(hw w (by omega) _ q2).2.2.2, by omega⟩⟩))
theorem up_all (hn : n ≤ 24) (hw : gw f n) (hJ : dS f (al n) 23 = 0) (hv : v < n) {a : Nat} (ha : a < n) : ∀ w, w < n → bt (uS (uPr f n v) (uDr f n v) a 48) w = true := by
  intro w hw'
  have hlt : ∀ x, x < n → gd f (al n) v x < 24 := fun x hx => gJ_iff.mp hJ v x (by omega) (by omega) ((al_in hn).mpr hv) ((al_in hn).mpr hx)
  have h1 := up_top (a := a) hn hw hJ hv (gd f (al n) v a) 0 a ha rfl ((b_one (by omega)).mpr rfl)
  have h2 := dn_all hn hw hJ hv (uU_sub (D := uDr f n v) _ _ h1) (gd f (al n) v w) w hw' rfl
  have l1 := hlt a ha
  have l2 := hlt w hw'
  have := uS_mono h2 (48 - (0 + gd f (al n) v a + gd f (al n) v w))
  rwa [show 0 + gd f (al n) v a + gd f (al n) v w + (48 - (0 + gd f (al n) v a + gd f (al n) v w)) = 48 by omega] at this
/-- the class writes the rows of a level -/
def uW (σ : hp_S) (f : Nat → Int32) (n v : Nat) (p : Nat → Prop) : Prop := ∀ u, u < n → p u → σ.1 70 u = uPr f n v u ∧ σ.1 71 u = uDr f n v u
theorem c_lev {t : Nat} (hs : s < 8) (hn : n ≤ 24) (hN : iv_N N) (hw : gw f n) (hv : v < n) (ht : t < 24) {k10 : Nat → Nat → Int32 → Int32 → Int32 → lf_W → lf_R} {x3 : Int32} (hx3 : x3 = if t = 0 then 0 else bal f (al n) v (t - 1)) : ∀ (c u : Nat) (X : Int32) (σ : hp_S), i_pc X = c → c < u → (∀ i, bt X i = true → i < n ∧ gd f (al n) v i = t) → (∀ k, k < 24 → σ.1 (3 + 2 * s) k = f k) → uW σ f n v (fun i => gd f (al n) v i < t ∨ (gd f (al n) v i = t ∧ ¬ bt X i = true)) → ∃ τ, fr [70, 71] [] σ τ ∧ uW τ f n v (fun i => gd f (al n) v i < t + 1) ∧ g127_26 N k10 u 61 (2 + 2 * s) x3 (rim f (al n) v t) (nI t) X (hp σ, cs) = k10 61 (2 + 2 * s) (bal f (al n) v t) (rim f (al n) v (t + 1)) (nI (t + 1)) (hp τ, cs) := by
  have hbal : x3 ||| rim f (al n) v t = bal f (al n) v t := by
    rw [hx3]
    by_cases c : t = 0
    · rw [if_pos c, c]
      show (0 : Int32) ||| lf_shl 1 (nI v) = lf_shl 1 (nI v)
      exact Int32.zero_or
    · rw [if_neg c]
      have := rim_seen (f := f) (A := al n) (v := v) (s := t - 1) (by omega)
      rwa [show t - 1 + 1 = t by omega] at this
  have hrimn : ∀ i, bt (rim f (al n) v t) i = true → i < n := rim_in (fun i z => (al_in hn).mp z) hv (by omega) t
  have hnext : us f (rim f (al n) v t) &&& (bal f (al n) v t ^^^ (-1)) = rim f (al n) v (t + 1) := by
    have e : us f (rim f (al n) v t) &&& al n = us f (rim f (al n) v t) := b_eq (fun i => by
      rw [b_and_iff]
      constructor
      · exact fun z => z.1
      · intro z
        obtain ⟨j, z1, z2⟩ := us_bt.mp z
        exact ⟨z, (al_in hn).mpr (hw j (by have := hrimn j z1; omega) i z2).2.1⟩)
    have e2 : rim f (al n) v (t + 1) = us f (rim f (al n) v t) &&& al n &&& (bal f (al n) v t ^^^ (-1)) := rfl
    rw [e2, e]
  intro c
  induction c with
  | zero =>
    intro u X σ hX hu hb ef hW
    obtain ⟨u, rfl⟩ : ∃ q, u = q + 1 := ⟨u - 1, by omega⟩
    have h0 : X = 0 := by
      apply Classical.byContradiction
      intro z
      obtain ⟨l, -, -, -, el, -⟩ := bl_low z
      have := bl_len X
      rw [el, List.length_cons] at this
      omega
    have f2 := c_union (σ := σ) (cs := cs) (f := f) (N := N) (r := 3 + 2 * s) (n0 := 24) (lay_row hs) (by omega) ef hN (x := rim f (al n) v t) (fun i z => by have := hrimn i z; omega)
    refine ⟨σ, fr.rf, fun i hi z => hW i hi ?_, ?_⟩
    · by_cases y : gd f (al n) v i < t
      · exact Or.inl y
      · exact Or.inr ⟨by omega, by rw [h0, b_0]; decide⟩
    · unfold g127_26
      rw [if_pos h0, sN_r hs, f2, lf_nest_r, lf_ci_r, hbal, nI_1, hnext]
  | succ c ih =>
    intro u X σ hX hu hb ef hW
    obtain ⟨u, rfl⟩ : ∃ q, u = q + 1 := ⟨u - 1, by omega⟩
    have h0 : ¬ X = 0 := by
      intro z
      rw [z, i_pc_0] at hX
      omega
    obtain ⟨l, l1, l2, l3, l4, l5⟩ := bl_low h0
    have hX' : i_pc (X &&& (X - 1)) = c := by
      have h1 := bl_len X
      have h2 := bl_len (X &&& (X - 1))
      rw [l4, List.length_cons] at h1
      omega
    obtain ⟨ln, lt⟩ := hb l l2
    have eP : f l &&& (x3 ||| (rim f (al n) v t &&& (lf_shl 1 (nI l) - 1))) = uPr f n v l := by
      unfold uPr
      rw [if_pos ln, lt, ← hx3]
    have eD : f l &&& (uPr f n v l ^^^ (-1)) = uDr f n v l := by
      unfold uDr
      rw [if_pos ln]
    have w1 : fr [70, 71] [] σ (hp_wi (hp_wi σ 70 l (uPr f n v l)) 71 l (uDr f n v l)) := (fr.wi (by decide)).tr (fr.wi (by decide))
    obtain ⟨τ, t1, t2, t3⟩ := ih u (X &&& (X - 1)) (hp_wi (hp_wi σ 70 l (uPr f n v l)) 71 l (uDr f n v l)) hX' (by omega) (fun i hi => by
      rw [l3] at hi
      simp only [Bool.and_eq_true] at hi
      exact hb i hi.1) (fun k hk => by rw [w1.r (by simp; omega)]; exact ef k hk) (fun i hi z => by
      by_cases e : i = l
      · subst e
        rw [hp_wi_ne (by decide), hp_wi_at, hp_wi_at]
        exact ⟨rfl, rfl⟩
      · rw [hp_wi_ne (by decide), hp_wi_nj e, hp_wi_nj e, hp_wi_ne (by decide)]
        refine hW i hi ?_
        rcases z with z | ⟨z1, z2⟩
        · exact Or.inl z
        · refine Or.inr ⟨z1, fun y => z2 ?_⟩
          rw [l3, y, decide_eq_true e]
          rfl)
    refine ⟨τ, w1.tr t1, t2, ?_⟩
    rw [← t3]
    conv => lhs; unfold g127_26
    rw [if_neg h0, (l5 N _).1, lf_nest_r, lf_ci_r, r61_11, sN_r hs, sN_ri hs (by omega), ef l (by omega), eP, b70 (by omega), r61_12, sN_r hs, sN_ri hs (by omega), hp_wi_ne (by omega), ef l (by omega), r61_11, a70 (by omega), hp_wi_at, eD, b71 (by omega)]
theorem c_levs (hs : s < 8) (hn : n ≤ 24) (hN : iv_N N) (hw : gw f n) (hv : v < n) : ∀ (c t u : Nat) (σ : hp_S), t + c = 24 → c < u → (∀ k, k < 24 → σ.1 (3 + 2 * s) k = f k) → uW σ f n v (fun i => gd f (al n) v i < t) → ∃ τ, fr [70, 71] [] σ τ ∧ uW τ f n v (fun i => gd f (al n) v i < 24) ∧ g127_10 N u 61 (2 + 2 * s) (if t = 0 then 0 else bal f (al n) v (t - 1)) (rim f (al n) v t) (nI t) (hp σ, cs) = some (.inl none, (hp τ, cs)) := by
  intro c
  induction c with
  | zero =>
    intro t u σ ht hu ef hW
    obtain ⟨u, rfl⟩ : ∃ q, u = q + 1 := ⟨u - 1, by omega⟩
    refine ⟨σ, fr.rf, by rw [show 24 = t by omega]; exact hW, ?_⟩
    unfold g127_10
    rw [if_pos (show (24 : Int32) ≤ nI t from nI_le (a := 24) (by omega) (by omega))]
  | succ c ih =>
    intro t u σ ht hu ef hW
    obtain ⟨u, rfl⟩ : ∃ q, u = q + 1 := ⟨u - 1, by omega⟩
    by_cases h0 : rim f (al n) v t = 0
    · refine ⟨σ, fr.rf, fun i hi z => hW i hi ?_, ?_⟩
      · apply Classical.byContradiction
        intro y
        have := (gd_eq (f := f) (A := al n) (v := v) (x := i) (s := gd f (al n) v i) (by omega) z).mp rfl
        rw [rim_still h0 _ (by omega), b_0] at this
        cases this
      · unfold g127_10
        rw [if_neg (show ¬ (24 : Int32) ≤ nI t from nI_ge (b := 24) (by omega) (by omega)), if_pos h0]
    · obtain ⟨τ, t1, t2, t3⟩ := c_lev (cs := cs) (N := N) (t := t) (k10 := g127_10 N u) hs hn hN hw hv (by omega) (x3 := if t = 0 then 0 else bal f (al n) v (t - 1)) rfl (i_pc (rim f (al n) v t)) N (rim f (al n) v t) σ rfl (by have := i_pc_max (x := rim f (al n) v t) (n := 32) (by omega) (fun i hi => bt_lt hi); unfold iv_N at hN; omega) (fun i z => ⟨rim_in (fun i z => (al_in hn).mp z) hv (by omega) t i z, (gd_eq (by omega) (by omega)).mpr z⟩) ef (fun i hi z => hW i hi (z.resolve_right (fun y => y.2 ((gd_eq (by omega) (by omega)).mp y.1))))
      obtain ⟨υ, v1, v2, v3⟩ := ih (t + 1) u τ (by omega) (by omega) (fun k hk => by rw [t1.r (by simp; omega)]; exact ef k hk) t2
      refine ⟨υ, t1.tr v1, v2, ?_⟩
      rw [← v3]
      conv => lhs; unfold g127_10
      rw [if_neg (show ¬ (24 : Int32) ≤ nI t from nI_ge (b := 24) (by omega) (by omega)), if_neg h0, t3, if_neg (by omega)]
      rfl
end UR
