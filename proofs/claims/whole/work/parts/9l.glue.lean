/-! two nets become one -/
theorem shl_bit {v : Int32} {n i : Nat} (hn : n < 32) (hi : i < 32) : bt (lf_shl v (nI n)) i = (decide (n ≤ i) && bt v (i - n)) := by
  unfold lf_shl
  exact b_shl n hn v hi
theorem sh_sm {v : Int32} {n : Nat} : ∀ m, sm (fun i => if (decide (n ≤ i) && bt v (i - n)) = true then 1 else 0) m ≤ sm (fun i => if bt v i = true then 1 else 0) (m - n) := by
  intro m
  induction m with
  | zero => exact Nat.zero_le _
  | succ m ih =>
    show sm (fun i => if (decide (n ≤ i) && bt v (i - n)) = true then 1 else 0) m + (if (decide (n ≤ m) && bt v (m - n)) = true then 1 else 0) ≤ _
    by_cases c : n ≤ m
    · rw [show m + 1 - n = (m - n) + 1 by omega, decide_eq_true c, Bool.true_and]
      show _ ≤ sm (fun i => if bt v i = true then 1 else 0) (m - n) + (if bt v (m - n) = true then 1 else 0)
      omega
    · rw [decide_eq_false c, Bool.false_and, if_neg (by decide)]
      rw [show m + 1 - n = m - n by omega]
      omega
theorem sh_pc {v : Int32} {n : Nat} (hn : n < 32) : i_pc (lf_shl v (nI n)) ≤ i_pc v := by
  rw [i_pc_sm, i_pc_sm]
  have e : sm (fun i => if bt (lf_shl v (nI n)) i = true then 1 else 0) 32 = sm (fun i => if (decide (n ≤ i) && bt v (i - n)) = true then 1 else 0) 32 := sm_congr (fun k hk => by simp only [shl_bit hn hk])
  rw [e]
  exact Nat.le_trans (sh_sm 32) (sm_le_n (by omega))
theorem or1_pc {x : Int32} {k : Nat} (hk : k < 32) : i_pc (x ||| lf_shl 1 (nI k)) ≤ i_pc x + 1 := by
  by_cases c : bt x k = true
  · rw [show x ||| lf_shl 1 (nI k) = x from b_ext (fun i hi => by
      rw [b_or, one_bit hk hi]
      by_cases e : i = k
      · rw [e, c]; rfl
      · rw [decide_eq_false e, Bool.or_false])]
    omega
  · have c' : bt x k = false := by simpa using c
    rw [show x ||| lf_shl 1 (nI k) = x ^^^ lf_shl 1 (nI k) from b_ext (fun i hi => by
      rw [b_or, b_xor, one_bit hk hi]
      by_cases e : i = k
      · rw [e, c', Bool.false_or, Bool.false_xor]
      · rw [decide_eq_false e, Bool.or_false, Bool.xor_false]), i_pc_on hk c']
    omega
/-- the bits of the glued net -/
def gB (f g : Nat → Int32) (p : Nat) (Z : Int32) (k i : Nat) : Bool := (decide (i / p = k / p) && (bt (f (k % p)) (i % p) && (decide (Z = 0) || decide (k / p = 0)))) || (decide (i % p = k % p) && bt (g (k / p)) (i / p))
theorem dm_of {p x y : Nat} (hx : x < p) : (x + p * y) / p = y ∧ (x + p * y) % p = x := by
  refine ⟨?_, ?_⟩
  · rw [Nat.add_mul_div_left _ _ (by omega), Nat.div_eq_of_lt hx, Nat.zero_add]
  · rw [Nat.add_mul_mod_self_left, Nat.mod_eq_of_lt hx]
theorem of_dm {p i : Nat} : i = i % p + p * (i / p) := (Nat.mod_add_div i p).symm
section GU
variable {cs : Nat × Nat} {N s t p q d e : Nat} {f g : Nat → Int32} {Z : Int32}
/-- the lines of G at one knot -/
theorem c_gx {x y : Nat} {k25 : Nat → Int32 → Nat → Nat → Int32 → lf_W → lf_R} {k37 : Nat → Int32 → Nat → Nat → Int32 → Int32 → lf_W → lf_R} (hs : s < 8) (hx : x < p) (hy : y < q) (hpq : p * q ≤ 24) : ∀ (m u : Nat) (W X : Int32) (σ : hp_S), i_pc X = m → m < u → σ.2.2.1 (2 + 2 * s) 1 = nI p → (∀ i, bt X i = true → i < q) → ∃ V, (∀ i, i < 32 → bt V i = (bt W i || (decide (i % p = x) && bt X (i / p)))) ∧ i_pc V ≤ i_pc W + m ∧ g53_85 N k25 k37 u 18 Z (2 + 2 * s) (2 + 2 * t) (nI y) (nI x) W X (hp σ, cs) = k37 18 Z (2 + 2 * s) (2 + 2 * t) (nI y) (nI (x + 1)) (hp (hp_wi σ 19 (x + p * y) V), cs) := by
  have hlt : ∀ l, l < q → x + p * l < 24 := fun l hl => by
    have : p * (l + 1) ≤ p * q := Nat.mul_le_mul_left p hl
    rw [Nat.mul_add] at this
    omega
  intro m
  induction m with
  | zero =>
    intro u W X σ hm hu e hX
    obtain ⟨u, rfl⟩ : ∃ q, u = q + 1 := ⟨u - 1, by omega⟩
    have h0 : X = 0 := by
      apply Classical.byContradiction
      intro z
      obtain ⟨l, -, -, -, el, -⟩ := bl_low z
      have := bl_len X
      rw [el, List.length_cons] at this
      omega
    refine ⟨W, fun i hi => ?_, by omega, ?_⟩
    · rw [h0, show bt 0 (i / p) = false from by
        cases z : bt 0 (i / p) with
        | false => rfl
        | true => exact absurd z (b_nothing.mp rfl _), Bool.and_false, Bool.or_false]
    · unfold g53_85
      rw [if_pos h0, r18_0, sN_1 hs, e, pk_mul, nI_add, b19 (hlt y hy), nI_1]
  | succ m ih =>
    intro u W X σ hm hu e hX
    obtain ⟨u, rfl⟩ : ∃ q, u = q + 1 := ⟨u - 1, by omega⟩
    have h0 : ¬ X = 0 := by
      intro z
      rw [z, i_pc_0] at hm
      omega
    obtain ⟨l, l1, l2, l3, l4, l5⟩ := bl_low h0
    have hl := hlt l (hX l l2)
    have hm' : i_pc (X &&& (X - 1)) = m := by
      have h1 := bl_len X
      have h2 := bl_len (X &&& (X - 1))
      rw [l4, List.length_cons] at h1
      omega
    obtain ⟨V, v1, v2, v3⟩ := ih u (W ||| lf_shl 1 (nI (x + p * l))) (X &&& (X - 1)) σ hm' (by omega) e (fun i hi => by
      rw [l3] at hi
      simp only [Bool.and_eq_true] at hi
      exact hX i hi.1)
    refine ⟨V, fun i hi => ?_, ?_, ?_⟩
    · rw [v1 i hi, b_or, one_bit (by omega) hi, l3]
      by_cases c : i % p = x
      · rw [decide_eq_true c, Bool.true_and, Bool.true_and]
        by_cases c2 : i / p = l
        · rw [decide_eq_true (show i = x + p * l by rw [← c, ← c2]; exact of_dm), c2, l2, Bool.or_true, Bool.true_or]
        · rw [decide_eq_false (show ¬ i = x + p * l from fun z => c2 (by rw [z]; exact (dm_of hx).1)), Bool.or_false, decide_eq_true c2, Bool.and_true]
      · rw [decide_eq_false c, decide_eq_false (show ¬ i = x + p * l from fun z => c (by rw [z]; exact (dm_of hx).2)), Bool.false_and, Bool.false_and, Bool.or_false]
    · have := or1_pc (x := W) (show x + p * l < 32 by omega)
      omega
    · rw [g53_85]
      rw [if_neg h0, sN_1 hs, e, (l5 N _).1, lf_nest_r, lf_ci_r, pk_mul, nI_add]
      exact v3
theorem gB_row {W V : Int32} {x y : Nat} (hx : x < p) (hf : ∀ i, bt (f x) i = true → i < p) (hw : ∀ i, i < 32 → bt W i = ((decide (p * y ≤ i) && bt (f x) (i - p * y)) && (decide (Z = 0) || decide (y = 0)))) (hv : ∀ i, i < 32 → bt V i = (bt W i || (decide (i % p = x) && bt (g y) (i / p)))) : ∀ i, i < 32 → bt V i = gB f g p Z (x + p * y) i := by
  intro i hi
  unfold gB
  rw [(dm_of hx).1, (dm_of hx).2, hv i hi, hw i hi]
  congr 1
  rw [← Bool.and_assoc]
  congr 1
  by_cases c : p * y ≤ i ∧ i - p * y < p
  · have c1 : i / p = y ∧ i % p = i - p * y := by
      have := dm_of (y := y) c.2
      rw [show i - p * y + p * y = i by omega] at this
      exact this
    rw [decide_eq_true c.1, decide_eq_true c1.1, c1.2]
  · have c1 : ¬ i / p = y := by
      intro z
      apply c
      have h1 := of_dm (p := p) (i := i)
      have h2 := Nat.mod_lt i (show p > 0 by omega)
      rw [z] at h1
      omega
    rw [decide_eq_false c1, Bool.false_and]
    by_cases c2 : p * y ≤ i
    · rw [decide_eq_true c2, Bool.true_and]
      cases z : bt (f x) (i - p * y) with
      | false => rfl
      | true => exact absurd ⟨c2, hf _ z⟩ c
    · rw [decide_eq_false c2, Bool.false_and]
/-- the rows done so far -/
def gPt (σ : hp_S) (f g : Nat → Int32) (p : Nat) (Z : Int32) (c T : Nat) : Prop := (∀ k, k < 24 → ∀ i, i < 32 → bt (σ.1 19 k) i = (decide (k < T) && gB f g p Z k i)) ∧ ∀ k, k < 24 → i_pc (σ.1 19 k) ≤ c
theorem c_gR {y : Nat} {k25 : Nat → Int32 → Nat → Nat → Int32 → lf_W → lf_R} (hs : s < 8) (ht : t < 8) (hN : iv_N N) (hf : GW p d f) (hg : GW q e g) (hy : y < q) (hpq : p * q ≤ 24) : ∀ (m x u : Nat) (σ : hp_S), x + m = p → m < u → NV σ s p d f → NV σ t q e g → gPt σ f g p Z (d + e) (x + p * y) → ∃ τ, fr [19] [] σ τ ∧ gPt τ f g p Z (d + e) (p * (y + 1)) ∧ g53_37 N k25 u 18 Z (2 + 2 * s) (2 + 2 * t) (nI y) (nI x) (hp σ, cs) = k25 18 Z (2 + 2 * s) (2 + 2 * t) (nI (y + 1)) (hp τ, cs) := by
  have hp24 := hf.2.1
  have hq24 := hg.2.1
  have hyp : p * (y + 1) ≤ 24 := Nat.le_trans (Nat.mul_le_mul_left p hy) hpq
  rw [Nat.mul_add] at hyp
  intro m
  induction m with
  | zero =>
    intro x u σ hx hu hv hw hP
    obtain ⟨u, rfl⟩ : ∃ q, u = q + 1 := ⟨u - 1, by omega⟩
    refine ⟨σ, fr.rf, ?_, ?_⟩
    · rw [show p * (y + 1) = x + p * y by rw [Nat.mul_add]; omega]
      exact hP
    · unfold g53_37
      rw [sN_1 hs, hv.1, if_pos (nI_le (by omega) (by omega)), nI_1]
  | succ m ih =>
    intro x u σ hx hu hv hw hP
    obtain ⟨u, rfl⟩ : ∃ q, u = q + 1 := ⟨u - 1, by omega⟩
    have hxp : x < p := by omega
    obtain ⟨W, w1, w2, w3⟩ : ∃ W, (∀ i, i < 32 → bt W i = ((decide (p * y ≤ i) && bt (f x) (i - p * y)) && (decide (Z = 0) || decide (y = 0)))) ∧ i_pc W ≤ d ∧ g53_37 N k25 (u + 1) 18 Z (2 + 2 * s) (2 + 2 * t) (nI y) (nI x) (hp σ, cs) = g53_74 N k25 (g53_37 N k25 u) 18 Z (2 + 2 * s) (2 + 2 * t) (nI y) (nI x) W (hp σ, cs) := by
      have hfd := hf.2.2.2.2.2 x (by omega)
      have sh := sh_pc (v := f x) (n := p * y) (by omega)
      by_cases c : Z = 0 ∨ y = 0
      · refine ⟨lf_shl (f x) (nI (p * y)), fun i hi => ?_, by omega, ?_⟩
        · rw [shl_bit (by omega) hi, show (decide (Z = 0) || decide (y = 0)) = true by simpa using c, Bool.and_true]
        · rw [g53_37]
          rw [sN_1 hs, hv.1, if_neg (nI_ge (by omega) (by omega))]
          have e1 : g53_59 N k25 (g53_37 N k25 u) 18 Z (2 + 2 * s) (2 + 2 * t) (nI y) (nI x) (hp σ, cs) = g53_74 N k25 (g53_37 N k25 u) 18 Z (2 + 2 * s) (2 + 2 * t) (nI y) (nI x) (lf_shl (f x) (nI (p * y))) (hp σ, cs) := by
            unfold g53_59
            rw [sN_r hs, sN_ri hs (by omega), hv.2.2 x (by omega), sN_1 hs, hv.1, pk_mul]
          by_cases z : Z = 0
          · rw [if_pos z, e1]
          · rw [if_neg z, if_pos (show nI y ≤ 0 from by rw [show y = 0 by rcases c with c | c; exact absurd c z; exact c]; decide), e1]
      · refine ⟨0, fun i hi => ?_, by rw [i_pc_0]; omega, ?_⟩
        · rw [show (decide (Z = 0) || decide (y = 0)) = false by simpa using c, Bool.and_false]
          cases z : bt 0 i with
          | false => rfl
          | true => exact absurd z (b_nothing.mp rfl _)
        · rw [g53_37]
          rw [sN_1 hs, hv.1, if_neg (nI_ge (by omega) (by omega)), if_neg (fun z => c (Or.inl z)), if_neg (nI_pos1 (m := y) (by omega) (by omega))]
    obtain ⟨V, v1, v2, v3⟩ := c_gx (cs := cs) (N := N) (t := t) (Z := Z) (k25 := k25) (k37 := g53_37 N k25 u) hs hxp hy hpq (i_pc (g y)) N W (g y) σ rfl (by have := hg.2.2.2.2.2 y (by omega); have := hg.2.2.2.1; unfold iv_N at hN; omega) hv.1 (fun i hi => (hg.2.2.2.2.1 y (by omega) i hi).2.1)
    have hgd := hg.2.2.2.2.2 y (by omega)
    have hrow := gB_row hxp (fun i hi => (hf.2.2.2.2.1 x (by omega) i hi).2.1) w1 v1
    have w4 : fr [19] [] σ (hp_wi σ 19 (x + p * y) V) := fr.wi (by decide)
    obtain ⟨τ, t1, t2, t3⟩ := ih (x + 1) u (hp_wi σ 19 (x + p * y) V) (by omega) (by omega) (hv.fr w4 (by simp; omega) List.not_mem_nil List.not_mem_nil) (hw.fr w4 (by simp; omega) List.not_mem_nil List.not_mem_nil) ⟨fun k hk i hi => by
      by_cases c : k = x + p * y
      · rw [c, hp_wi_at, hrow i hi, decide_eq_true (by omega), Bool.true_and]
      · rw [hp_wi_nj c, hP.1 k hk i hi]
        by_cases c2 : k < x + p * y
        · rw [decide_eq_true c2, decide_eq_true (by omega)]
        · rw [decide_eq_false c2, decide_eq_false (by omega)], fun k hk => by
      by_cases c : k = x + p * y
      · rw [c, hp_wi_at]; omega
      · rw [hp_wi_nj c]; exact hP.2 k hk⟩
    refine ⟨τ, w4.tr t1, t2, ?_⟩
    rw [w3]
    unfold g53_74
    rw [sN_r ht, sN_ri ht (by omega), hw.2.2 y (by omega), v3]
    exact t3
theorem c_gO (hs : s < 8) (ht : t < 8) (hN : iv_N N) (hf : GW p d f) (hg : GW q e g) (hpq : p * q ≤ 24) : ∀ (m y u : Nat) (σ : hp_S), y + m = q → m < u → NV σ s p d f → NV σ t q e g → gPt σ f g p Z (d + e) (p * y) → ∃ τ, fr [19] [] σ τ ∧ gPt τ f g p Z (d + e) (p * q) ∧ g53_25 N u 18 Z (2 + 2 * s) (2 + 2 * t) (nI y) (hp σ, cs) = some (.inl none, (hp τ, cs)) := by
  have hp24 := hf.2.1
  have hq24 := hg.2.1
  intro m
  induction m with
  | zero =>
    intro y u σ hy hu hv hw hP
    obtain ⟨u, rfl⟩ : ∃ q, u = q + 1 := ⟨u - 1, by omega⟩
    refine ⟨σ, fr.rf, by rw [show q = y by omega]; exact hP, ?_⟩
    unfold g53_25
    rw [sN_1 ht, hw.1, if_pos (nI_le (by omega) (by omega))]
  | succ m ih =>
    intro y u σ hy hu hv hw hP
    obtain ⟨u, rfl⟩ : ∃ q, u = q + 1 := ⟨u - 1, by omega⟩
    obtain ⟨τ, t1, t2, t3⟩ := c_gR (cs := cs) (N := N) (Z := Z) (k25 := g53_25 N u) hs ht hN hf hg (show y < q by omega) hpq p 0 N σ (by omega) (by unfold iv_N at hN; omega) hv hw (by rw [Nat.zero_add]; exact hP)
    obtain ⟨υ, v1, v2, v3⟩ := ih (y + 1) u τ (by omega) (by omega) (hv.fr t1 (by simp; omega) List.not_mem_nil List.not_mem_nil) (hw.fr t1 (by simp; omega) List.not_mem_nil List.not_mem_nil) t2
    refine ⟨υ, t1.tr v1, v2, ?_⟩
    rw [g53_25]
    rw [sN_1 ht, hw.1, if_neg (nI_ge (by omega) (by omega))]
    exact t3.trans v3
theorem c_bg_loop : ∀ (m k u : Nat) (σ : hp_S), k + m = 24 → m < u → g51_12 N u 18 (nI k) (hp (hp_fill σ 19 k (fun _ => 0)), cs) = some (.inl none, (hp (hp_fill σ 19 24 (fun _ => 0)), cs)) := by
  intro m
  induction m with
  | zero =>
    intro k u σ hk hu
    obtain ⟨u, rfl⟩ : ∃ q, u = q + 1 := ⟨u - 1, by omega⟩
    unfold g51_12
    rw [show k = 24 by omega, if_pos (show (24 : Int32) ≤ nI 24 by decide)]
  | succ m ih =>
    intro k u σ hk hu
    obtain ⟨u, rfl⟩ : ∃ q, u = q + 1 := ⟨u - 1, by omega⟩
    unfold g51_12
    rw [if_neg (show ¬ (24 : Int32) ≤ nI k from nI_ge (b := 24) (by omega) (by omega)), r18_0, b19 (by omega), hp_fill_s (g := fun _ => 0), nI_1]
    exact ih (k + 1) u σ (by omega) (by omega)
/-- glue -/
theorem c_glue {σ : hp_S} (hs : s < 8) (ht : t < 8) (hN : iv_N N) (hf : GW p d f) (hg : GW q e g) (hpq : p * q ≤ 24) (hv : NV σ s p d f) (hw : NV σ t q e g) : ∃ τ, fr [19] [(18, 1), (18, 2)] σ τ ∧ gPt τ f g p Z (d + e) (p * q) ∧ τ.2.2.1 18 1 = nI (p * q) ∧ τ.2.2.1 18 2 = nI (d + e) ∧ f53 N 18 Z (2 + 2 * s) (2 + 2 * t) (hp σ, cs) = some (.inl none, (hp τ, cs)) := by
  have w1 : fr [19] [(18, 1), (18, 2)] σ (hp_fill (hp_wf (hp_wf σ 18 1 (nI (p * q))) 18 2 (nI (d + e))) 19 24 (fun _ => 0)) := by
    refine ((fr.wf (k := 1) (by decide)).tr (fr.wf (k := 2) (by decide))).tr ⟨fun a h => ⟨hp_fill_ne (by simp at h; exact h), rfl⟩, fun a k h => ⟨rfl, rfl⟩⟩
  obtain ⟨τ, t1, t2, t3⟩ := c_gO (cs := cs) (N := N) (Z := Z) hs ht hN hf hg hpq q 0 N (hp_fill (hp_wf (hp_wf σ 18 1 (nI (p * q))) 18 2 (nI (d + e))) 19 24 (fun _ => 0)) (by omega) (by have := hg.2.1; unfold iv_N at hN; omega) (hv.fr w1 (by simp; omega) (by simp; omega) (by simp; omega)) (hw.fr w1 (by simp; omega) (by simp; omega) (by simp; omega)) ⟨fun k hk i hi => by
    rw [hp_fill_at hk, decide_eq_false (by omega), Bool.false_and]
    cases z : bt 0 i with
    | false => rfl
    | true => exact absurd z (b_nothing.mp rfl _), fun k hk => by rw [hp_fill_at hk, i_pc_0]; omega⟩
  refine ⟨τ, w1.tr (t1.wk (fun _ z => z) (fun _ z => absurd z List.not_mem_nil)), t2, ?_, ?_, ?_⟩
  · rw [t1.f List.not_mem_nil]
    show (hp_wf (hp_wf σ 18 1 (nI (p * q))) 18 2 (nI (d + e))).2.2.1 18 1 = _
    rw [hp_wf_ne (by decide), hp_wf_at]
  · rw [t1.f List.not_mem_nil]
    show (hp_wf (hp_wf σ 18 1 (nI (p * q))) 18 2 (nI (d + e))).2.2.1 18 2 = _
    rw [hp_wf_at]
  · have eb := c_bg_loop (cs := cs) (N := N) 24 0 N (hp_wf (hp_wf σ 18 1 (nI (p * q))) 18 2 (nI (d + e))) rfl (by unfold iv_N at hN; omega)
    rw [hp_fill_0] at eb
    unfold f53 f51
    rw [sN_1 hs, hv.1, sN_1 ht, hw.1, sN_2 hs, hv.2.1, sN_2 ht, hw.2.1, o18, pk_mul, nI_add, w18_1, w18_2, show (0 : Int32) = nI 0 from rfl, eb, lf_cv_r]
    exact t3
end GU
