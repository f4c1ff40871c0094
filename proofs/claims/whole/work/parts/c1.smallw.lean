/-! small nets: which are wanted -/
section SMW
variable {n : Nat} {p q : Nat → Nat} {x y z d k : Nat}
/-- a net's row -/
def fRY (n x a : Nat) : Nat → Int32
  | 0 => 0
  | b + 1 => if a ≠ b ∧ x.testBit (pqY n a b) = true then fRY n x a b ||| lf_shl 1 (nI b) else fRY n x a b
def fxY (n x a : Nat) : Int32 := if a < n then fRY n x a n else 0
theorem fRY_bt {a i : Nat} : ∀ m, m ≤ 24 → (bt (fRY n x a m) i = true ↔ i < m ∧ a ≠ i ∧ x.testBit (pqY n a i) = true)
  | 0, _ => ⟨fun z => absurd z (by show ¬ bt 0 i = true; rw [b_0]; decide), fun z => absurd z.1 (Nat.not_lt_zero _)⟩
  | m + 1, hm => by
    have ih := fRY_bt (a := a) (i := i) m (by omega)
    show bt (if a ≠ m ∧ x.testBit (pqY n a m) = true then fRY n x a m ||| lf_shl 1 (nI m) else fRY n x a m) i = true ↔ _
    by_cases c : a ≠ m ∧ x.testBit (pqY n a m) = true
    · rw [if_pos c, tk_on (by omega), ih]
      constructor
      · rintro (w | w)
        · exact ⟨by omega, w.2⟩
        · subst w; exact ⟨by omega, c⟩
      · rintro ⟨w1, w2⟩
        by_cases e : i = m
        · exact Or.inr e
        · exact Or.inl ⟨by omega, w2⟩
    · rw [if_neg c, ih]
      constructor
      · rintro ⟨w1, w2⟩
        exact ⟨by omega, w2⟩
      · rintro ⟨w1, w2⟩
        refine ⟨?_, w2⟩
        rcases Nat.lt_or_ge i m with e | e
        · exact e
        · have : i = m := by omega
          subst this
          exact absurd w2 c
theorem fx_bt (hn : n ≤ 6) {a b : Nat} : bt (fxY n x a) b = true ↔ a < n ∧ b < n ∧ a ≠ b ∧ x.testBit (pqY n a b) = true := by
  unfold fxY
  by_cases c : a < n
  · rw [if_pos c, fRY_bt n (by omega)]
    exact ⟨fun z => ⟨c, z⟩, fun z => z.2⟩
  · rw [if_neg c, b_0]
    exact ⟨fun z => absurd z (by decide), fun z => absurd z.1 c⟩
theorem fx_gw (hn : n ≤ 6) : gw (fxY n x) n := by
  intro a _ b h
  obtain ⟨h1, h2, h3, h4⟩ := (fx_bt hn).mp h
  exact ⟨h1, h2, h3, (fx_bt hn).mpr ⟨h2, h1, fun e => h3 e.symm, by rw [pqY_c (fun e => h3 e.symm)]; exact h4⟩⟩
/-- few lines each, all within so many steps -/
def wtY (n d k x : Nat) : Prop := (∀ a, a < n → i_pc (fxY n x a) ≤ d) ∧ ∀ a b, a < n → b < n → gR (fxY n x) (al n) (if k ≤ n then k else n) a b
theorem gR_ag (hn : n ≤ 6) (hp' : prm n p) (h : agY n p x y) : ∀ (s a b : Nat), a < n → gR (fxY n x) (al n) s a b → b < n ∧ gR (fxY n y) (al n) s (p a) (p b)
  | 0, a, b, ha, e => by
    have e : a = b := e
    subst e
    exact ⟨ha, rfl⟩
  | s + 1, a, b, ha, e => by
    rcases e with e | ⟨u, u1, u2, u3⟩
    · obtain ⟨h1, h2⟩ := gR_ag hn hp' h s a b ha e
      exact ⟨h1, Or.inl h2⟩
    · obtain ⟨h1, h2⟩ := gR_ag hn hp' h s a u ha u1
      obtain ⟨g1, g2, g3, g4⟩ := (fx_bt hn).mp u2
      refine ⟨g2, Or.inr ⟨p u, h2, (fx_bt hn).mpr ⟨hp'.1 u g1, hp'.1 b g2, fun e => g3 (hp'.2 u b g1 g2 e), ?_⟩, (al_in (by omega)).mpr (hp'.1 b g2)⟩⟩
      rw [h u b g1 g2 g3]
      exact g4
theorem deg_ag (hn : n ≤ 6) (hp' : prm n p) (h : agY n p x y) {a : Nat} (ha : a < n) : i_pc (fxY n x a) ≤ i_pc (fxY n y (p a)) := by
  rw [i_pc_sm, i_pc_sm]
  refine sm_inj (P := fun b => bt (fxY n x a) b) (Q := fun b => bt (fxY n y (p a)) b) (g := p) (fun b hb hP => ?_) (fun b c _ _ hb hc e => ?_)
  · obtain ⟨g1, g2, g3, g4⟩ := (fx_bt hn).mp hP
    have := hp'.1 b g2
    refine ⟨by omega, (fx_bt hn).mpr ⟨hp'.1 a ha, this, fun e => g3 (hp'.2 a b ha g2 e), ?_⟩⟩
    rw [h a b g1 g2 g3]
    exact g4
  · exact hp'.2 b c ((fx_bt hn).mp hb).2.1 ((fx_bt hn).mp hc).2.1 e
theorem wt_eq1 (hn : n ≤ 6) (h : eqY n x y) (hw : wtY n d k y) : wtY n d k x := by
  obtain ⟨p, p1, p2⟩ := h
  refine ⟨fun a ha => Nat.le_trans (deg_ag hn p1 p2 ha) (hw.1 (p a) (p1.1 a ha)), fun a b ha hb => ?_⟩
  obtain ⟨r, r1, r2, r3⟩ := prm_inv p1
  have hs : agY n r y x := fun a b ha hb hab => by
    have := p2 (r a) (r b) (r1.1 a ha) (r1.1 b hb) (fun e => hab (r1.2 a b ha hb e))
    rw [r2 a ha, r2 b hb] at this
    exact this.symm
  have := (gR_ag hn r1 hs _ (p a) (p b) (p1.1 a ha) (hw.2 _ _ (p1.1 a ha) (p1.1 b hb))).2
  rw [r3 a ha, r3 b hb] at this
  exact this
theorem wt_eq (hn : n ≤ 6) (h : eqY n x y) : wtY n d k x ↔ wtY n d k y := ⟨wt_eq1 hn (eqY_sy h), wt_eq1 hn h⟩
/-- sums by another order -/
theorem sm_perm {F π : Nat → Nat} (h : prm n π) : sm (fun i => F (π i)) n = sm F n := by
  have e1 : sm (fun i => F (π i)) n = sm (fun i => sm (fun j => if π i = j then F j else 0) n) n := sm_congr (fun i hi => by
    have : sm (fun j => if π i = j then F j else 0) n = sm (fun j => if π i = j then F (π i) else 0) n := sm_congr (fun j _ => by
      by_cases c : π i = j
      · rw [if_pos c, if_pos c, c]
      · rw [if_neg c, if_neg c])
    rw [this, sm_pick (h.1 i hi)])
  rw [e1, sm_swap]
  refine sm_congr (fun j hj => ?_)
  obtain ⟨i, i1, i2⟩ := prm_sur h hj
  have : sm (fun a => if π a = j then F j else 0) n = sm (fun a => if i = a then F j else 0) n := sm_congr (fun a ha => by
    by_cases c : i = a
    · rw [if_pos c, if_pos (by rw [← c]; exact i2)]
    · rw [if_neg c, if_neg (fun e => c (h.2 i a i1 ha (by rw [i2, e])))])
  rw [this, sm_pick i1]
def ckQ : Bool := (List.range 7).all fun n => (List.range (n - 1)).all fun v => (List.range (ppY n)).all fun i => decide (srY (wlY n v) 1 (srY (wgY n v) (n - 2 - v) i) < ppY n) && decide (srY (wlY n v) 1 (srY (wgY n v) (n - 2 - v) (srY (wlY n v) 1 (srY (wgY n v) (n - 2 - v) i))) = i)
theorem ckQ_t : ckQ = true := by decide +kernel
theorem src_prm (hn : n ≤ 6) {v : Nat} (hv : v + 1 < n) : prm (ppY n) (fun i => srY (wlY n v) 1 (srY (wgY n v) (n - 2 - v) i)) := by
  have h := ckQ_t
  unfold ckQ at h
  rw [List.all_eq_true] at h
  have h2 := h n (List.mem_range.mpr (by omega))
  rw [List.all_eq_true] at h2
  have h3 := h2 v (List.mem_range.mpr (by omega))
  simp only [Bool.and_eq_true, decide_eq_true_iff, List.all_eq_true, List.mem_range] at h3
  refine ⟨fun i hi => (h3 i hi).1, fun i j hi hj e => ?_⟩
  have e1 := (h3 i hi).2
  have e2 := (h3 j hj).2
  have e : srY (wlY n v) 1 (srY (wgY n v) (n - 2 - v) i) = srY (wlY n v) 1 (srY (wgY n v) (n - 2 - v) j) := e
  rw [e] at e1
  omega
/-- how many lines -/
def pcY (n x : Nat) : Nat := sm (fun i => if x.testBit i = true then 1 else 0) (ppY n)
theorem pcY_tv (hn : n ≤ 6) {v : Nat} (hv : v + 1 < n) : pcY n (tvY n v x) = pcY n x := by
  unfold pcY
  rw [← sm_perm (F := fun i => if x.testBit i = true then 1 else 0) (src_prm hn hv)]
  exact sm_congr (fun i hi => by rw [tv_bit hn hv hi])
theorem pcY_eq (hn : n ≤ 6) (hx : x < 2 ^ ppY n) (hy : y < 2 ^ ppY n) (h : eqY n x y) : pcY n y = pcY n x := eq_close (S := fun z => pcY n z = pcY n x) hn (fun z hz e v hv => by rw [pcY_tv hn hv]; exact e) hx hy h rfl
theorem pcY_pc (hn : n ≤ 6) (hx : x < 2 ^ ppY n) : i_pc (nI x) = pcY n x := by
  have h15 := pp_15 hn
  have h32 : x < 2 ^ 32 := Nat.lt_of_lt_of_le hx (Nat.pow_le_pow_right (by omega) (by omega))
  rw [i_pc_sm]
  unfold pcY
  rw [sm_more (n := ppY n) (m := 32) (by omega) (fun i h1 h2 => by
    rw [if_neg]
    rw [bt_nI h32, Nat.testBit_lt_two_pow (Nat.lt_of_lt_of_le hx (Nat.pow_le_pow_right (by omega) h1))]
    decide)]
  exact sm_congr (fun i _ => by rw [bt_nI h32])
/-- counts, by what holds -/
noncomputable def ctY (P : Nat → Prop) (m : Nat) : Nat := sm (fun x => @ite Nat (P x) (Classical.propDecidable _) 1 0) m
theorem ctY_s {P : Nat → Prop} {m : Nat} : (P m → ctY P (m + 1) = ctY P m + 1) ∧ (¬ P m → ctY P (m + 1) = ctY P m) := by
  constructor
  · intro h
    show ctY P m + @ite Nat (P m) (Classical.propDecidable _) 1 0 = _
    rw [if_pos h]
  · intro h
    show ctY P m + @ite Nat (P m) (Classical.propDecidable _) 1 0 = _
    rw [if_neg h, Nat.add_zero]
theorem ctY_cg {P Q : Nat → Prop} {m : Nat} (h : ∀ x, x < m → (P x ↔ Q x)) : ctY P m = ctY Q m := sm_congr (fun x hx => by
  by_cases c : P x
  · rw [if_pos c, if_pos ((h x hx).mp c)]
  · rw [if_neg c, if_neg (fun z => c ((h x hx).mpr z))])
theorem ctY_le {P : Nat → Prop} {m : Nat} : ctY P m ≤ m := by
  have := sm_le (F := fun x => @ite Nat (P x) (Classical.propDecidable _) 1 0) (G := fun _ => 1) (n := m) (fun x _ => by
    (try dsimp only)
    by_cases c : P x
    · rw [if_pos c]; exact Nat.le_refl _
    · rw [if_neg c]; exact Nat.zero_le _)
  rw [sm_one] at this
  exact this
/-- the wanted ones, kind by kind -/
theorem ctY_kinds (hn : n ≤ 6) : ctY (wtY n d k) (2 ^ ppY n) = sm (fun m => @ite Nat (mnY n m ∧ wtY n d k m) (Classical.propDecidable _) (ctY (eqY n m) (2 ^ ppY n)) 0) (2 ^ ppY n) := by
  have e1 : ctY (wtY n d k) (2 ^ ppY n) = sm (fun x => sm (fun m => @ite Nat (mnY n m ∧ eqY n m x ∧ wtY n d k x) (Classical.propDecidable _) 1 0) (2 ^ ppY n)) (2 ^ ppY n) := sm_congr (fun x hx => by
    by_cases c : wtY n d k x
    · obtain ⟨m, m1, m2, m3, m4⟩ := mn_ex hx
      rw [if_pos c, sm_congr (G := fun j => if m = j then 1 else 0) (fun j hj => by
        by_cases e : m = j
        · rw [if_pos e, ← e, if_pos ⟨m2, m3, c⟩]
        · rw [if_neg e, if_neg (fun z => e (mn_one m1 hj m2 z.1 (eqY_tr m3 (eqY_sy z.2.1))))]), sm_point m1]
    · rw [if_neg c, sm_congr (G := fun _ => 0) (fun j _ => if_neg (fun z => c z.2.2)), sm_0])
  rw [e1, sm_swap]
  refine sm_congr (fun m hm => ?_)
  by_cases c : mnY n m ∧ wtY n d k m
  · rw [if_pos c]
    unfold ctY
    refine sm_congr (fun x _ => ?_)
    by_cases e : eqY n m x
    · rw [if_pos e, if_pos ⟨c.1, e, (wt_eq hn e).mp c.2⟩]
    · rw [if_neg e, if_neg (fun z => e z.2.1)]
  · rw [if_neg c, sm_congr (G := fun _ => 0) (fun x _ => if_neg (fun z => c ⟨z.1, (wt_eq hn z.2.1).mpr z.2.2⟩)), sm_0]
theorem ctY_list {P : Nat → Prop} {L : List Nat} {m : Nat} (h : ∀ x, x < m → P x → x ∈ L) : ctY P m ≤ L.length := by
  obtain ⟨g, hg⟩ : ∃ g : Nat → Nat, ∀ x, x ∈ L → g x < L.length ∧ L.getD (g x) 0 = x := Classical.axiomOfChoice (r := fun x i => x ∈ L → i < L.length ∧ L.getD i 0 = x) (fun x => by
    by_cases c : x ∈ L
    · obtain ⟨i, i1, i2⟩ := gx_ex c
      exact ⟨i, fun _ => ⟨i1, i2⟩⟩
    · exact ⟨0, fun z => absurd z c⟩)
  have := sm_inj (P := fun x => @decide (P x) (Classical.propDecidable _)) (Q := fun _ => true) (g := g) (n := m) (m := L.length) (fun x hx hP => ⟨(hg x (h x hx (@of_decide_eq_true _ (Classical.propDecidable _) hP))).1, rfl⟩) (fun x y hx hy hPx hPy e => by
    have h1 := (hg x (h x hx (@of_decide_eq_true _ (Classical.propDecidable _) hPx))).2
    have h2 := (hg y (h y hy (@of_decide_eq_true _ (Classical.propDecidable _) hPy))).2
    rw [← h1, ← h2, e])
  have e2 : sm (fun x => if (fun _ : Nat => true) x = true then 1 else 0) L.length = L.length := (sm_congr (G := fun _ => 1) (fun k _ => if_pos rfl)).trans (sm_one _)
  rw [e2] at this
  refine Nat.le_trans (Nat.le_of_eq ?_) this
  unfold ctY
  exact sm_congr (fun x _ => by
    (try dsimp only)
    by_cases c : P x
    · rw [if_pos c, if_pos (@decide_eq_true _ (Classical.propDecidable _) c)]
    · rw [if_neg c, if_neg (fun z => c (@of_decide_eq_true _ (Classical.propDecidable _) z))])
def R5s : List Nat := [0, 1, 3, 7, 15, 19, 20, 21, 23, 28, 29, 31, 54, 55, 56, 57, 58, 59, 62, 63, 126, 127, 183, 184, 185, 187, 191, 200, 201, 202, 203, 206, 207, 218, 219, 220, 221, 222, 223, 254, 255, 492, 493, 495, 511, 1023]
def ck5 : Bool := (List.range 1024).all fun x => decide (tvY 5 0 x < x) || decide (tvY 5 1 x < x) || decide (tvY 5 2 x < x) || decide (tvY 5 3 x < x) || R5s.elem x
theorem ck5_t : ck5 = true := by decide +kernel
/-- at most 156 kinds -/
theorem kinds_156 (hn : n ≤ 6) : ctY (mnY n) (2 ^ ppY n) ≤ 156 := by
  have small : ∀ m, ppY m ≤ 6 → ctY (mnY m) (2 ^ ppY m) ≤ 156 := fun m hm => by
    have h1 := ctY_le (P := mnY m) (m := 2 ^ ppY m)
    have h2 : 2 ^ ppY m ≤ 2 ^ 6 := Nat.pow_le_pow_right (by omega) hm
    omega
  rcases (show n ≤ 4 ∨ n = 5 ∨ n = 6 by omega) with h | h | h
  · refine small n ?_
    rcases (show n = 0 ∨ n = 1 ∨ n = 2 ∨ n = 3 ∨ n = 4 by omega) with h | h | h | h | h <;> subst h <;> decide +kernel
  · subst h
    have e5 : ppY 5 = 10 := by decide +kernel
    refine Nat.le_trans (ctY_list (L := R5s) (fun x hx hm => ?_)) (by decide +kernel)
    have hx' : x < 1024 := by rw [e5] at hx; omega
    have h := ck5_t
    unfold ck5 at h
    rw [List.all_eq_true] at h
    have h1 := h x (List.mem_range.mpr hx')
    simp only [Bool.or_eq_true, decide_eq_true_iff] at h1
    have no : ∀ v, v < 4 → ¬ tvY 5 v x < x := fun v hv w => by
      have := hm (tvY 5 v x) (tv_lt (by omega) (by omega) hx) (tv_eq (by omega) (by omega))
      omega
    rcases h1 with (((w | w) | w) | w) | w
    · exact absurd w (no 0 (by omega))
    · exact absurd w (no 1 (by omega))
    · exact absurd w (no 2 (by omega))
    · exact absurd w (no 3 (by omega))
    · exact List.elem_iff.mp w
  · subst h
    have e6 : ppY 6 = 15 := by decide +kernel
    exact Nat.le_trans (ctY_list (L := RLs) (fun x hx hm => mn_R (by rw [e6] at hx; exact hx) hm)) (by decide +kernel)
end SMW
