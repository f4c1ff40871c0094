/-! small nets, the class: kinds -/
section SMS
variable {cs : Nat × Nat} {N n x d k : Nat} {σ τ : hp_S} {S : Nat → Prop} {L : List Nat}
theorem shr_nI {a j : Nat} (ha : a < 2 ^ 31) (hj : j < 32) : lf_shr (nI a) (nI j) = nI (a >>> j) := by
  have h2 : a >>> j ≤ a := by
    rw [Nat.shiftRight_eq_div_pow]
    exact Nat.div_le_self _ _
  refine b_ext (fun i hi => ?_)
  unfold lf_shr
  rw [b_sshr j hj (nI a) hi, bt_nI (n := a >>> j) (by omega), Nat.testBit_shiftRight]
  by_cases c : j + i < 32
  · rw [if_pos c, bt_nI (by omega)]
  · rw [if_neg c, bt_nI (by omega), Nat.testBit_lt_two_pow (show a < 2 ^ 31 by omega), Nat.testBit_lt_two_pow (Nat.lt_of_lt_of_le ha (Nat.pow_le_pow_right (by omega) (by omega)))]
theorem shl_nI2 {a j : Nat} (hj : j < 32) (h : a <<< j < 2 ^ 32) (ha : a < 2 ^ 32) : lf_shl (nI a) (nI j) = nI (a <<< j) := by
  refine b_ext (fun i hi => ?_)
  unfold lf_shl
  rw [b_shl j hj (nI a) hi, bt_nI h, Nat.testBit_shiftLeft, bt_nI ha]
theorem cb_I {a m j : Nat} (ha : a < 2 ^ 15) (hm : m < 2 ^ 15) (hj : j ≤ 4) : (nI a ^^^ ((nI a ^^^ lf_shr (nI a) (nI j)) &&& nI m)) ^^^ lf_shl ((nI a ^^^ lf_shr (nI a) (nI j)) &&& nI m) (nI j) = nI (cbY a m j) := by
  have hu : (a ^^^ (a >>> j)) &&& m ≤ m := Nat.and_le_right
  have hs : ((a ^^^ (a >>> j)) &&& m) <<< j < 2 ^ 32 := by
    rw [Nat.shiftLeft_eq]
    have h1 : 2 ^ j ≤ 2 ^ 4 := Nat.pow_le_pow_right (by omega) hj
    have h2 : ((a ^^^ (a >>> j)) &&& m) * 2 ^ j ≤ 2 ^ 15 * 2 ^ 4 := Nat.mul_le_mul (by omega) h1
    omega
  rw [shr_nI (by omega) (by omega), nx_xor, fa_and, nx_xor, shl_nI2 (by omega) hs (by omega), nx_xor]
  rfl
/-- marks of the pairs -/
theorem c_m14 {v : Nat} (hn : n ≤ 6) (hv : v + 1 < n) : ∀ (m j u : Nat) (σ : hp_S), j + m = v → m < u → σ.1 51 v = nI (wlR n v j) → ∃ τ, fr [51, 52] [] σ τ ∧ τ.1 51 v = nI (wlY n v) ∧ τ.1 52 v = nI (wgY n v) ∧ (∀ w, w ≠ v → τ.1 51 w = σ.1 51 w ∧ τ.1 52 w = σ.1 52 w) ∧ g100_14 N u 44 (nI n) (nI v) (nI (prY n j + (v - j)) - 1) (nI j) (hp σ, cs) = some (.inl none, (hp τ, cs)) := by
  obtain ⟨-, -, hwl, hwg⟩ := tv_all hn hv
  have h15 := pp_15 hn
  have e2 : nI n - 2 - nI v = nI (n - 2 - v) := by
    rw [show nI n - 2 = nI (n - 2) from pk_sub (b := 2) (by omega), sub_nI (by omega)]
  intro m
  induction m with
  | zero =>
    intro j u σ hj hu h1
    obtain ⟨u, rfl⟩ : ∃ q, u = q + 1 := ⟨u - 1, by omega⟩
    have ej : j = v := by omega
    subst ej
    refine ⟨hp_wi σ 52 j (nI (wgY n j)), fr.wi (by decide), by rw [hp_wi_ne (by decide)]; exact h1, hp_wi_at, fun w hw => ⟨by rw [hp_wi_ne (by decide)], hp_wi_nj hw⟩, ?_⟩
    have e3 : nI (prY n j + (j - j)) - 1 + 2 = nI (prY n j + 1) := by
      rw [show j - j = 0 by omega, Nat.add_zero]
      have : nI (prY n j + 1) = nI (prY n j) + nI 1 := (nI_add _ _).symm
      rw [this, show (2 : Int32) = nI 1 + 1 from rfl]
      grind
    have e4 : lf_shl 1 (nI (n - 2 - j)) - 1 = nI (2 ^ (n - 2 - j) - 1) := al_nI (n := n - 2 - j) (by omega)
    have e5 : (2 ^ (n - 2 - j) - 1) <<< (prY n j + 1) = wgY n j := Nat.shiftLeft_eq _ _
    have hpr : prY n j + 1 < 32 := by
      have : pqY n j (j + 1) < ppY n := pq_lt hn (by omega) hv (by omega)
      unfold pqY at this
      rw [if_pos (by omega)] at this
      omega
    have h4 : 2 ^ (n - 2 - j) ≤ 2 ^ 4 := Nat.pow_le_pow_right (by omega) (by omega)
    unfold g100_14
    rw [if_pos (nI_le (Nat.le_refl _) (by omega)), r44_13, e2, e4, e3, shl_nI2 hpr (by rw [e5]; omega) (by omega), e5, b52 (by omega)]
  | succ m ih =>
    intro j u σ hj hu h1
    obtain ⟨u, rfl⟩ : ∃ q, u = q + 1 := ⟨u - 1, by omega⟩
    have hjv : j < v := by omega
    have hpq : pqY n j v = prY n j + (v - j - 1) := by unfold pqY; rw [if_pos hjv]
    have hlt := pq_lt hn (show j < n by omega) (show v < n by omega) (show j ≠ v by omega)
    have e3 : nI (prY n j + (v - j)) - 1 = nI (pqY n j v) := by
      rw [hpq, show prY n j + (v - j - 1) = prY n j + (v - j) - 1 by omega]
      exact pk_sub (b := 1) (by omega)
    have e6 : nI (wlR n v j) ||| lf_shl 1 (nI (pqY n j v)) = nI (wlR n v (j + 1)) := by
      rw [shl_nI (by omega), fa_or]
      rfl
    have e7 : nI (pqY n j v) + (nI n - 2 - nI j) = nI (prY n (j + 1) + (v - (j + 1))) - 1 := by
      rw [show nI n - 2 = nI (n - 2) from pk_sub (b := 2) (by omega), sub_nI (by omega), nI_add]
      have : nI (prY n (j + 1) + (v - (j + 1))) - 1 = nI (prY n (j + 1) + (v - (j + 1)) - 1) := by
        refine pk_sub (b := 1) ?_
        show 1 ≤ prY n j + (n - 1 - j) + (v - (j + 1))
        omega
      rw [this, hpq]
      congr 1
      show _ = prY n j + (n - 1 - j) + (v - (j + 1)) - 1
      omega
    obtain ⟨τ, q1, q2, q3, q4, q5⟩ := ih (j + 1) u (hp_wi σ 51 v (nI (wlR n v (j + 1)))) (by omega) (by omega) hp_wi_at
    refine ⟨τ, (fr.wi (by decide)).tr q1, q2, q3, fun w hw => ⟨by rw [(q4 w hw).1, hp_wi_nj hw], by rw [(q4 w hw).2, hp_wi_ne (by decide)]⟩, ?_⟩
    unfold g100_14
    rw [if_neg (nI_ge hjv (by omega)), r44_12, a51 (by omega), h1, e3, e6, b51 (by omega), e7, nI_1]
    exact q5
/-- the masks lie ready -/
def MKy (σ : hp_S) (n m : Nat) : Prop := ∀ v, v < m → σ.1 51 v = nI (wlY n v) ∧ σ.1 52 v = nI (wgY n v)
theorem c_mark {v : Nat} (hn : n ≤ 6) (hN : iv_N N) (hv : v + 1 < n) (hM : MKy σ n v) : ∃ τ, fr [51, 52] [] σ τ ∧ MKy τ n (v + 1) ∧ f100 N 44 (nI n) (nI v) (hp σ, cs) = some (.inl none, (hp τ, cs)) := by
  obtain ⟨τ, q1, q2, q3, q4, q5⟩ := c_m14 (N := N) (cs := cs) hn hv v 0 N (hp_wi σ 51 v 0) (by omega) (by unfold iv_N at hN; omega) hp_wi_at
  refine ⟨τ, (fr.wi (by decide)).tr q1, fun w hw => ?_, ?_⟩
  · by_cases c : w = v
    · subst c; exact ⟨q2, q3⟩
    · rw [(q4 w c).1, (q4 w c).2, hp_wi_nj c, hp_wi_ne (by decide)]
      exact hM w (by omega)
  · have e0 : nI (prY n 0 + (v - 0)) - 1 = nI v - 1 := by
      show nI (0 + (v - 0)) - 1 = _
      rw [show 0 + (v - 0) = v by omega]
    rw [e0] at q5
    unfold f100
    rw [r44_12, b51 (by omega)]
    exact q5
theorem c_renum {v : Nat} (hn : n ≤ 6) (hv : v + 1 < n) (hx : x < 2 ^ ppY n) (hM : MKy σ n (n - 1)) : f101 N 44 (nI n) (nI v) (nI x) (hp σ, cs) = some (.inl (some (.int (nI (tvY n v x)))), (hp σ, cs)) := by
  obtain ⟨h1, -, hwl, hwg⟩ := tv_all hn hv
  have h15 := pp_15 hn
  have hx15 : x < 2 ^ 15 := Nat.lt_of_lt_of_le hx (Nat.pow_le_pow_right (by omega) h15)
  have e2 : nI n - 2 - nI v = nI (n - 2 - v) := by
    rw [show nI n - 2 = nI (n - 2) from pk_sub (b := 2) (by omega), sub_nI (by omega)]
  have hc : cbY x (wlY n v) 1 < 2 ^ 15 := by
    apply Nat.lt_pow_two_of_testBit
    intro i hi
    have hxi : ∀ j, 15 ≤ j → x.testBit j = false := fun j hj => tb_hi hx15 hj
    by_cases c : i < 32
    · obtain ⟨a1, a2, a3⟩ := h1 i c
      have a3 := a3.resolve_left (by omega)
      rw [cbY_bit (okSY_p a1), a3.1]
      exact hxi i hi
    · have b1 := tb_hi hwl (show 15 ≤ i by omega)
      have b2 := tb_hi hwl (show 15 ≤ i - 1 by omega)
      rw [cbY_bit (fun z => by rw [b1] at z; cases z.1)]
      unfold srY
      rw [b1, b2, if_neg (by decide), if_neg (fun z => by cases z.2)]
      exact hxi i hi
  obtain ⟨m1, m2⟩ := hM v (by omega)
  unfold f101 f102
  rw [r44_12, a51 (by omega), m1, show (1 : Int32) = nI 1 from rfl, cb_I hx15 hwl (by omega), lf_ci_r, r44_13, a52 (by omega), m2, e2, cb_I hc hwg (by omega), lf_ci_r]
  rfl
/-- the nets that are seen -/
def SNy (σ : hp_S) (S : Nat → Prop) : Prop := ∀ y, y < 32768 → (bt (σ.1 48 (y / 32)) (y % 32) = true ↔ S y)
def QUy (σ : hp_S) (L : List Nat) : Prop := σ.2.2.1 44 10 = nI L.length ∧ ∀ i, i < L.length → σ.1 49 i = nI (L.getD i 0)
theorem word_i {y : Nat} (hy : y < 32768) : lf_shr (nI y) 5 = nI (y / 32) ∧ nI y &&& 31 = nI (y % 32) := by
  constructor
  · rw [show (5 : Int32) = nI 5 from rfl, shr_nI (by omega) (by omega), Nat.shiftRight_eq_div_pow]
  · rw [show (31 : Int32) = nI (2 ^ 5 - 1) from rfl, fa_mask]
theorem c_visit {y : Nat} (hy : y < 32768) (hS : SNy σ S) (hQ : QUy σ L) (hL : L.length < 720) : (S y → f99 N 44 (nI y) (hp σ, cs) = some (.inl none, (hp σ, cs))) ∧ (¬ S y → ∃ τ, fr [48, 49] [(44, 10)] σ τ ∧ SNy τ (fun z => S z ∨ z = y) ∧ QUy τ (L ++ [y]) ∧ f99 N 44 (nI y) (hp σ, cs) = some (.inl none, (hp τ, cs))) := by
  obtain ⟨w1, w2⟩ := word_i hy
  have hb : σ.1 48 (y / 32) &&& lf_shl 1 (nI (y % 32)) = 0 ↔ ¬ S y := by
    rw [← hS y hy, b_nothing]
    constructor
    · intro z w
      exact z (y % 32) (b_and_iff.mpr ⟨w, (b_one (by omega)).mpr rfl⟩)
    · intro z i w
      have := b_and_iff.mp w
      rw [b_one (by omega)] at this
      rw [this.2] at this
      exact z this.1
  constructor
  · intro c
    unfold f99
    rw [r44_8, w1, a48 (by omega), w2, if_pos (fun z => (hb.mp z) c)]
  · intro c
    refine ⟨hp_wf (hp_wi (hp_wi σ 48 (y / 32) (σ.1 48 (y / 32) ||| lf_shl 1 (nI (y % 32)))) 49 L.length (nI y)) 44 10 (nI (L.length + 1)), ((fr.wi (by decide)).tr (fr.wi (by decide))).tr (fr.wf (by decide)), fun z hz => ?_, ⟨?_, fun i hi => ?_⟩, ?_⟩
    · show bt ((hp_wi (hp_wi σ 48 (y / 32) (σ.1 48 (y / 32) ||| lf_shl 1 (nI (y % 32)))) 49 L.length (nI y)).1 48 (z / 32)) (z % 32) = true ↔ _
      rw [hp_wi_ne (by decide)]
      by_cases e : z / 32 = y / 32
      · rw [e, hp_wi_at, tk_on (by omega), ← e, hS z hz]
        constructor
        · rintro (g | g)
          · exact Or.inl g
          · exact Or.inr (by omega)
        · rintro (g | g)
          · exact Or.inl g
          · exact Or.inr (by rw [g])
      · rw [hp_wi_nj e, hS z hz]
        constructor
        · intro g; exact Or.inl g
        · rintro (g | g)
          · exact g
          · exact absurd (by rw [g]) e
    · rw [hp_wf_at, List.length_append, List.length_singleton]
    · rw [List.length_append, List.length_singleton] at hi
      show (hp_wi (hp_wi σ 48 (y / 32) (σ.1 48 (y / 32) ||| lf_shl 1 (nI (y % 32)))) 49 L.length (nI y)).1 49 i = _
      by_cases e : i = L.length
      · subst e
        rw [hp_wi_at, List.getD_eq_getElem?_getD, List.getElem?_append_right (Nat.le_refl _), Nat.sub_self]
        rfl
      · rw [hp_wi_nj e, hp_wi_ne (by decide), List.getD_eq_getElem?_getD, List.getElem?_append_left (by omega), ← List.getD_eq_getElem?_getD]
        exact hQ.2 i (by omega)
    · unfold f99
      rw [r44_8, w1, a48 (by omega), w2, if_neg (fun z => z (hb.mpr c)), i44_10, hQ.1, if_neg (show ¬ (720 : Int32) ≤ nI L.length from nI_ge (b := 720) hL (by omega)), r44_8, a48 (by omega), b48 (by omega), r44_9, i44_10]
      rw [show (hp_wi σ 48 (y / 32) (σ.1 48 (y / 32) ||| lf_shl 1 (nI (y % 32)))).2.2.1 44 10 = nI L.length from hQ.1, b49 (by omega), i44_10]
      rw [show (hp_wi (hp_wi σ 48 (y / 32) (σ.1 48 (y / 32) ||| lf_shl 1 (nI (y % 32)))) 49 L.length (nI y)).2.2.1 44 10 = nI L.length from hQ.1, w44_10, nI_1]
/-- where a kind's visit stands -/
def VKy (n x : Nat) (S0 : Nat → Prop) (L : List Nat) : Prop := L.Nodup ∧ x ∈ L ∧ ∀ y, y ∈ L → y < 2 ^ ppY n ∧ eqY n x y ∧ ¬ S0 y
theorem c_k23 {S0 : Nat → Prop} {at0 : Nat} {k12 : Nat → Int32 → Int32 → lf_W → lf_R} (hn1 : 1 ≤ n) (hn : n ≤ 6) (hS0 : ∀ a b, a < 2 ^ ppY n → b < 2 ^ ppY n → eqY n a b → S0 a → S0 b) : ∀ (m v u : Nat) (L : List Nat) (σ : hp_S), v + m = n - 1 → m < u → at0 < L.length → VKy n x S0 L → MKy σ n (n - 1) → SNy σ (fun y => S0 y ∨ y ∈ L) → QUy σ L → (∀ w, w < v → tvY n w (L.getD at0 0) ∈ L) → ∃ τ L', fr [48, 49] [(44, 10)] σ τ ∧ VKy n x S0 L' ∧ SNy τ (fun y => S0 y ∨ y ∈ L') ∧ QUy τ L' ∧ (∀ w, w + 1 < n → tvY n w (L.getD at0 0) ∈ L') ∧ (∃ E, L' = L ++ E) ∧ g98_23 N k12 u 44 (nI n) (nI at0) (nI v) (hp σ, cs) = k12 44 (nI n) (nI (at0 + 1)) (hp τ, cs) := by
  have h15 := pp_15 hn
  have hp15 : 2 ^ ppY n ≤ 2 ^ 15 := Nat.pow_le_pow_right (by omega) h15
  have e1 : nI n - 1 = nI (n - 1) := pk_sub (b := 1) hn1
  intro m
  induction m with
  | zero =>
    intro v u L σ hv hu hat hV hM hS hQ hd
    obtain ⟨u, rfl⟩ : ∃ q, u = q + 1 := ⟨u - 1, by omega⟩
    refine ⟨σ, L, fr.rf, hV, hS, hQ, fun w hw => hd w (by omega), ⟨[], (List.append_nil L).symm⟩, ?_⟩
    unfold g98_23
    rw [e1, if_pos (nI_le (by omega) (by omega)), nI_1]
  | succ m ih =>
    intro v u L σ hv hu hat hV hM hS hQ hd
    obtain ⟨u, rfl⟩ : ∃ q, u = q + 1 := ⟨u - 1, by omega⟩
    have hvn : v + 1 < n := by omega
    obtain ⟨g1, g2, g3⟩ := hV.2.2 _ (gx_in hat)
    have ht := tv_lt hn hvn g1
    have heq : eqY n x (tvY n v (L.getD at0 0)) := eqY_tr g2 (tv_eq hn hvn)
    have hL720 := kind_720 (x := x) hn hV.1 (fun y hy => ⟨(hV.2.2 y hy).1, (hV.2.2 y hy).2.1⟩)
    have hat2 : at0 < 720 := by omega
    have pre : g98_23 N k12 (u + 1) 44 (nI n) (nI at0) (nI v) (hp σ, cs) = (lf_cv (f99 N 44 (nI (tvY n v (L.getD at0 0))) (hp σ, cs)) fun w13 => g98_23 N k12 u 44 (nI n) (nI at0) (nI (v + 1)) w13) := by
      rw [g98_23]
      rw [e1, if_neg (nI_ge (by omega) (by omega)), r44_9, a49 hat2, hQ.2 at0 hat, o44, c_renum hn hvn g1 hM, lf_ci_r, o44, nI_1]
    by_cases c : tvY n v (L.getD at0 0) ∈ L
    · obtain ⟨τ, L', q1, q2, q3, q4, q5, q6, q7⟩ := ih (v + 1) u L σ (by omega) (by omega) hat hV hM hS hQ (fun w hw => by
        by_cases e : w = v
        · subst e; exact c
        · exact hd w (by omega))
      refine ⟨τ, L', q1, q2, q3, q4, q5, q6, ?_⟩
      rw [pre]
      by_cases hl : L.length < 720
      · rw [(c_visit (N := N) (cs := cs) (by omega) hS hQ hl).1 (Or.inr c), lf_cv_r]
        exact q7
      · have e720 : L.length = 720 := by omega
        obtain ⟨w1, w2⟩ := word_i (y := tvY n v (L.getD at0 0)) (by omega)
        have hb : ¬ σ.1 48 (tvY n v (L.getD at0 0) / 32) &&& lf_shl 1 (nI (tvY n v (L.getD at0 0) % 32)) = 0 := fun z => by
          have h9 := (hS _ (by omega)).mpr (Or.inr c)
          exact b_nothing.mp z _ (b_and_iff.mpr ⟨h9, (b_one (by omega)).mpr rfl⟩)
        have e99 : f99 N 44 (nI (tvY n v (L.getD at0 0))) (hp σ, cs) = some (.inl none, (hp σ, cs)) := by
          unfold f99
          rw [r44_8, w1, a48 (by omega), w2, if_pos hb]
        rw [e99, lf_cv_r]
        exact q7
    · have hnS : ¬ (S0 (tvY n v (L.getD at0 0)) ∨ tvY n v (L.getD at0 0) ∈ L) := by
        rintro (z | z)
        · exact g3 (hS0 _ _ ht g1 (eqY_sy (tv_eq hn hvn)) z)
        · exact c z
      have hV2 : VKy n x S0 (L ++ [tvY n v (L.getD at0 0)]) := by
        refine ⟨List.nodup_append.mpr ⟨hV.1, List.nodup_cons.mpr ⟨List.not_mem_nil, List.nodup_nil⟩, fun a ha b hb e => ?_⟩, List.mem_append_left _ hV.2.1, fun y hy => ?_⟩
        · have hb := List.mem_singleton.mp hb
          rw [e, hb] at ha
          exact c ha
        · rcases List.mem_append.mp hy with z | z
          · exact hV.2.2 y z
          · have z := List.mem_singleton.mp z
            subst z
            exact ⟨ht, heq, fun w => hnS (Or.inl w)⟩
      have hl : L.length < 720 := by
        have := kind_720 (x := x) hn hV2.1 (fun y hy => ⟨(hV2.2.2 y hy).1, (hV2.2.2 y hy).2.1⟩)
        rw [List.length_append, List.length_singleton] at this
        omega
      obtain ⟨τ1, b1, b2, b3, b4⟩ := (c_visit (N := N) (cs := cs) (by omega) hS hQ hl).2 hnS
      have egd : (L ++ [tvY n v (L.getD at0 0)]).getD at0 0 = L.getD at0 0 := by
        rw [List.getD_eq_getElem?_getD, List.getD_eq_getElem?_getD, List.getElem?_append_left hat]
      obtain ⟨τ, L', q1, q2, q3, q4, q5, q6, q7⟩ := ih (v + 1) u (L ++ [tvY n v (L.getD at0 0)]) τ1 (by omega) (by omega) (by rw [List.length_append]; omega) hV2 (fun w hw => by rw [b1.r (by decide), b1.r (by decide)]; exact hM w hw) (fun y hy => by
        rw [b2 y hy]
        show ((S0 y ∨ y ∈ L) ∨ y = tvY n v (L.getD at0 0)) ↔ (S0 y ∨ y ∈ L ++ [tvY n v (L.getD at0 0)])
        rw [List.mem_append, List.mem_singleton]
        constructor
        · rintro ((z | z) | z)
          · exact Or.inl z
          · exact Or.inr (Or.inl z)
          · exact Or.inr (Or.inr z)
        · rintro (z | z | z)
          · exact Or.inl (Or.inl z)
          · exact Or.inl (Or.inr z)
          · exact Or.inr z) b3 (fun w hw => by
        rw [egd]
        by_cases e : w = v
        · subst e; exact List.mem_append_right _ (List.mem_singleton.mpr rfl)
        · exact List.mem_append_left _ (hd w (by omega)))
      rw [egd] at q5
      obtain ⟨E, hE⟩ := q6
      refine ⟨τ, L', b1.tr q1, q2, q3, q4, q5, ⟨tvY n v (L.getD at0 0) :: E, by rw [hE, List.append_assoc]; rfl⟩, ?_⟩
      rw [pre, b4, lf_cv_r]
      exact q7
end SMS
