/-! small nets, the class: sorting by kinds -/
section SMG
variable {cs : Nat × Nat} {N n x d k : Nat} {σ τ : hp_S} {S : Nat → Prop} {L : List Nat}
theorem nd_len {P : Nat → Prop} {m : Nat} (hd : L.Nodup) (h : ∀ y, y ∈ L ↔ y < m ∧ P y) : L.length = ctY P m := by
  apply Nat.le_antisymm
  · have := sm_inj (P := fun _ => true) (Q := fun y => @decide (P y) (Classical.propDecidable _)) (g := fun i => L.getD i 0) (n := L.length) (m := m) (fun i hi _ => ⟨((h _).mp (gx_in hi)).1, @decide_eq_true _ (Classical.propDecidable _) ((h _).mp (gx_in hi)).2⟩) (fun i j hi hj _ _ e => gx_inj hd hi hj e)
    have e1 : sm (fun x => if (fun _ : Nat => true) x = true then 1 else 0) L.length = L.length := (sm_congr (G := fun _ => 1) (fun k _ => if_pos rfl)).trans (sm_one _)
    rw [e1] at this
    refine Nat.le_trans this (Nat.le_of_eq ?_)
    unfold ctY
    exact sm_congr (fun x _ => by
      (try dsimp only)
      by_cases c : P x
      · rw [if_pos c, if_pos (@decide_eq_true _ (Classical.propDecidable _) c)]
      · rw [if_neg c, if_neg (fun z => c (@of_decide_eq_true _ (Classical.propDecidable _) z))])
  · exact ctY_list (fun x hx hp' => (h x).mpr ⟨hx, hp'⟩)
theorem c_k12 {S0 : Nat → Prop} (hn1 : 1 ≤ n) (hn : n ≤ 6) (hN : iv_N N) (hS0 : ∀ a b, a < 2 ^ ppY n → b < 2 ^ ppY n → eqY n a b → S0 a → S0 b) : ∀ (m at0 u : Nat) (L : List Nat) (σ : hp_S), 720 < at0 + m → m < u → at0 ≤ L.length → VKy n x S0 L → MKy σ n (n - 1) → SNy σ (fun y => S0 y ∨ y ∈ L) → QUy σ L → (∀ j, j < at0 → ∀ w, w + 1 < n → tvY n w (L.getD j 0) ∈ L) → ∃ τ L', fr [48, 49] [(44, 10)] σ τ ∧ VKy n x S0 L' ∧ SNy τ (fun y => S0 y ∨ y ∈ L') ∧ (∀ y, y ∈ L' → ∀ w, w + 1 < n → tvY n w y ∈ L') ∧ g98_12 N u 44 (nI n) (nI at0) (hp σ, cs) = some (.inl (some (.int (nI L'.length))), (hp τ, cs)) := by
  intro m
  induction m with
  | zero =>
    intro at0 u L σ hm hu hat hV
    have := kind_720 (x := x) hn hV.1 (fun y hy => ⟨(hV.2.2 y hy).1, (hV.2.2 y hy).2.1⟩)
    omega
  | succ m ih =>
    intro at0 u L σ hm hu hat hV hM hS hQ hd
    obtain ⟨u, rfl⟩ : ∃ q, u = q + 1 := ⟨u - 1, by omega⟩
    have h720 := kind_720 (x := x) hn hV.1 (fun y hy => ⟨(hV.2.2 y hy).1, (hV.2.2 y hy).2.1⟩)
    by_cases c : at0 = L.length
    · refine ⟨σ, L, fr.rf, hV, hS, fun y hy w hw => ?_, ?_⟩
      · obtain ⟨j, j1, j2⟩ := gx_ex hy
        rw [← j2]
        exact hd j (by omega) w hw
      · unfold g98_12
        rw [i44_10, hQ.1, if_pos (nI_le (by omega) (by omega)), i44_10, hQ.1]
    · obtain ⟨τ1, L1, a1, a2, a3, a4, a5, ⟨E, hE⟩, a7⟩ := c_k23 (N := N) (cs := cs) (x := x) (at0 := at0) (k12 := g98_12 N u) hn1 hn hS0 (n - 1) 0 N L σ (by omega) (by unfold iv_N at hN; omega) (by omega) hV hM hS hQ (fun w hw => absurd hw (Nat.not_lt_zero _))
      have egd : ∀ j, j < L.length → L1.getD j 0 = L.getD j 0 := fun j hj => by
        rw [hE, List.getD_eq_getElem?_getD, List.getD_eq_getElem?_getD, List.getElem?_append_left hj]
      obtain ⟨τ, L', q1, q2, q3, q4, q5⟩ := ih (at0 + 1) u L1 τ1 (by omega) (by omega) (by rw [hE, List.length_append]; omega) a2 (fun w hw => by rw [a1.r (by decide), a1.r (by decide)]; exact hM w hw) a3 a4 (fun j hj w hw => by
        rw [egd j (by omega)]
        by_cases e : j = at0
        · subst e; exact a5 w hw
        · rw [hE]; exact List.mem_append_left _ (hd j (by omega) w hw))
      refine ⟨τ, L', a1.tr q1, q2, q3, q4, ?_⟩
      unfold g98_12
      rw [i44_10, hQ.1, if_neg (nI_ge (by omega) (by omega))]
      rw [show g98_23 N (g98_12 N u) N 44 (nI n) (nI at0) 0 (hp σ, cs) = _ from a7]
      exact q5
/-- a kind is visited -/
theorem c_vk {S0 : Nat → Prop} (hn1 : 1 ≤ n) (hn : n ≤ 6) (hN : iv_N N) (hx : x < 2 ^ ppY n) (hS0 : ∀ a b, a < 2 ^ ppY n → b < 2 ^ ppY n → eqY n a b → S0 a → S0 b) (hxS : ¬ S0 x) (hM : MKy σ n (n - 1)) (hS : SNy σ S0) : ∃ τ, fr [48, 49] [(44, 10)] σ τ ∧ SNy τ (fun y => S0 y ∨ (y < 2 ^ ppY n ∧ eqY n x y)) ∧ f98 N 44 (nI n) (nI x) (hp σ, cs) = some (.inl (some (.int (nI (ctY (eqY n x) (2 ^ ppY n))))), (hp τ, cs)) := by
  have h15 := pp_15 hn
  have hp15 : 2 ^ ppY n ≤ 2 ^ 15 := Nat.pow_le_pow_right (by omega) h15
  have w0 : fr [48, 49] [(44, 10)] σ (hp_wf σ 44 10 0) := fr.wf (by decide)
  obtain ⟨τ1, a1, a2, a3, a4⟩ := (c_visit (N := N) (cs := cs) (σ := hp_wf σ 44 10 0) (S := S0) (L := []) (y := x) (by omega) (fun y hy => hS y hy) ⟨hp_wf_at, fun i hi => absurd hi (Nat.not_lt_zero _)⟩ (by decide)).2 hxS
  obtain ⟨τ, L', q1, q2, q3, q4, q5⟩ := c_k12 (N := N) (cs := cs) (x := x) (S0 := S0) hn1 hn hN hS0 721 0 N [x] τ1 (by omega) (by unfold iv_N at hN; omega) (Nat.zero_le _) ⟨List.nodup_cons.mpr ⟨List.not_mem_nil, List.nodup_nil⟩, List.mem_singleton.mpr rfl, fun y hy => by
    have hy := List.mem_singleton.mp hy
    subst hy
    exact ⟨hx, eqY_rf, hxS⟩⟩ (fun w hw => by rw [(w0.tr a1).r (by decide), (w0.tr a1).r (by decide)]; exact hM w hw) (fun y hy => by
    rw [a2 y hy]
    show (S0 y ∨ y = x) ↔ (S0 y ∨ y ∈ [x])
    rw [List.mem_singleton]) a3 (fun j hj => absurd hj (Nat.not_lt_zero _))
  have hiff : ∀ y, y ∈ L' ↔ y < 2 ^ ppY n ∧ eqY n x y := fun y => ⟨fun hy => ⟨(q2.2.2 y hy).1, (q2.2.2 y hy).2.1⟩, fun hy => eq_close (S := fun z => z ∈ L') hn (fun z _ hz v hv => q4 z hz v hv) hx hy.1 hy.2 q2.2.1⟩
  refine ⟨τ, (w0.tr a1).tr q1, fun y hy => by
    rw [q3 y hy]
    show (S0 y ∨ y ∈ L') ↔ (S0 y ∨ (y < 2 ^ ppY n ∧ eqY n x y))
    rw [hiff y], ?_⟩
  unfold f98
  rw [w44_10, o44, a4, lf_cv_r]
  rw [show g98_12 N N 44 (nI n) 0 (hp τ1, cs) = _ from q5, nd_len q2.1 hiff]
noncomputable def mnB (n x : Nat) : Bool := @decide (mnY n x) (Classical.propDecidable _)
theorem mnB_i : mnB n x = true ↔ mnY n x := ⟨fun z => @of_decide_eq_true _ (Classical.propDecidable _) z, fun z => @decide_eq_true _ (Classical.propDecidable _) z⟩
/-- the least of each kind, below b -/
noncomputable def klY (n b : Nat) : List Nat := pkL (mnB n) b
theorem pkL_ext {P : Nat → Bool} {a b : Nat} (h : a ≤ b) : ∃ E, pkL P b = pkL P a ++ E := by
  obtain ⟨m, rfl⟩ : ∃ m, b = a + m := ⟨b - a, by omega⟩
  clear h
  induction m with
  | zero => exact ⟨[], (List.append_nil _).symm⟩
  | succ m ih =>
    obtain ⟨E, hE⟩ := ih
    rw [show a + (m + 1) = a + m + 1 by omega, pkL_s]
    by_cases c : P (a + m) = true
    · rw [if_pos c, hE]
      exact ⟨E ++ [a + m], by rw [List.append_assoc]⟩
    · rw [if_neg c]
      exact ⟨E, hE⟩
theorem kl_len {b : Nat} : (klY n b).length = ctY (mnY n) b := by
  unfold klY
  rw [pkL_sm]
  unfold ctY
  exact sm_congr (fun x _ => by
    by_cases c : mnY n x
    · rw [if_pos c, if_pos (mnB_i.mpr c)]
    · rw [if_neg c, if_neg (fun z => c (mnB_i.mp z))])
/-- the table of kinds, as far as it is filled -/
def KDy (ρ1 ρ2 : Nat → Int32) (n : Nat) (L : List Nat) : Prop := ∀ i, i < L.length → ρ1 (156 * n + i) = nI (L.getD i 0) ∧ ρ2 (156 * n + i) = nI (ctY (eqY n (L.getD i 0)) (2 ^ ppY n))
theorem ix_156 (i j : Nat) : nI i * (156 : Int32) + nI j = nI (156 * i + j) := by rw [show (156 : Int32) = nI 156 from rfl, pk_mul, nI_add, Nat.mul_comm]
theorem c_s58 (hn1 : 1 ≤ n) (hn : n ≤ 6) (hN : iv_N N) : ∀ (m b u : Nat) (σ : hp_S), b + m = 2 ^ ppY n → m < u → MKy σ n (n - 1) → SNy σ (fun y => y < 2 ^ ppY n ∧ ∃ m, m < b ∧ mnY n m ∧ eqY n m y) → KDy (σ.1 45) (σ.1 46) n (klY n b) → ∃ τ, fr [45, 46, 47, 48, 49] [(44, 10)] σ τ ∧ τ.1 47 n = nI (klY n (2 ^ ppY n)).length ∧ (∀ j, j ≠ n → τ.1 47 j = σ.1 47 j) ∧ KDy (τ.1 45) (τ.1 46) n (klY n (2 ^ ppY n)) ∧ (∀ j, j < 156 * n ∨ 156 * n + 156 ≤ j → τ.1 45 j = σ.1 45 j ∧ τ.1 46 j = σ.1 46 j) ∧ g97_58 N u 44 (nI n) (nI (ppY n)) (nI (klY n b).length) (nI b) (hp σ, cs) = some (.inl none, (hp τ, cs)) := by
  have h15 := pp_15 hn
  have hp15 : 2 ^ ppY n ≤ 2 ^ 15 := Nat.pow_le_pow_right (by omega) h15
  have epp : lf_shl 1 (nI (ppY n)) = nI (2 ^ ppY n) := shl_nI (by omega)
  have hk156 : ∀ b, b ≤ 2 ^ ppY n → (klY n b).length ≤ 156 := fun b hb => by
    obtain ⟨E, hE⟩ := pkL_ext (P := mnB n) hb
    have h1 := kl_len (n := n) (b := 2 ^ ppY n)
    have h2 := kinds_156 hn
    unfold klY at h1 ⊢
    rw [hE, List.length_append] at h1
    omega
  have fin : ∀ (b : Nat) (σ : hp_S), b ≤ 2 ^ ppY n → klY n b = klY n (2 ^ ppY n) → KDy (σ.1 45) (σ.1 46) n (klY n b) → ∃ τ, fr [45, 46, 47, 48, 49] [(44, 10)] σ τ ∧ τ.1 47 n = nI (klY n (2 ^ ppY n)).length ∧ (∀ j, j ≠ n → τ.1 47 j = σ.1 47 j) ∧ KDy (τ.1 45) (τ.1 46) n (klY n (2 ^ ppY n)) ∧ (∀ j, j < 156 * n ∨ 156 * n + 156 ≤ j → τ.1 45 j = σ.1 45 j ∧ τ.1 46 j = σ.1 46 j) ∧ g97_135 N 44 (nI n) (nI (klY n b).length) (hp σ, cs) = some (.inl none, (hp τ, cs)) := by
    intro b σ hb e hK
    refine ⟨hp_wi σ 47 n (nI (klY n b).length), fr.wi (by decide), by rw [hp_wi_at, e], fun j hj => hp_wi_nj hj, ?_, fun j _ => ⟨by rw [hp_wi_ne (by decide)], by rw [hp_wi_ne (by decide)]⟩, ?_⟩
    · rw [hp_wi_ne (by decide), hp_wi_ne (by decide), ← e]
      exact hK
    · unfold g97_135
      rw [r44_7, b47 (by omega)]
  intro m
  induction m with
  | zero =>
    intro b u σ hb hu hM hS hK
    obtain ⟨u, rfl⟩ : ∃ q, u = q + 1 := ⟨u - 1, by omega⟩
    have eb : b = 2 ^ ppY n := by omega
    obtain ⟨τ, f1, f2, f3, f4, f5, f6⟩ := fin b σ (by omega) (by rw [eb]) hK
    refine ⟨τ, f1, f2, f3, f4, f5, ?_⟩
    unfold g97_58
    rw [epp, if_pos (nI_le (by omega) (by omega))]
    exact f6
  | succ m ih =>
    intro b u σ hb hu hM hS hK
    obtain ⟨u, rfl⟩ : ∃ q, u = q + 1 := ⟨u - 1, by omega⟩
    have hbn : b < 2 ^ ppY n := by omega
    have hle := hk156 b (by omega)
    by_cases c156 : (klY n b).length = 156
    · have eK : klY n b = klY n (2 ^ ppY n) := by
        obtain ⟨E, hE⟩ := pkL_ext (P := mnB n) (show b ≤ 2 ^ ppY n by omega)
        have h1 := hk156 (2 ^ ppY n) (Nat.le_refl _)
        unfold klY at h1 c156 ⊢
        rw [hE, List.length_append] at h1
        have : E = [] := List.eq_nil_of_length_eq_zero (by omega)
        rw [hE, this, List.append_nil]
      obtain ⟨τ, f1, f2, f3, f4, f5, f6⟩ := fin b σ (by omega) eK hK
      refine ⟨τ, f1, f2, f3, f4, f5, ?_⟩
      unfold g97_58
      rw [epp, if_neg (nI_ge hbn (by omega)), if_pos (show (156 : Int32) ≤ nI (klY n b).length from nI_le (a := 156) (by omega) (by omega))]
      exact f6
    · have hlt : (klY n b).length < 156 := by omega
      obtain ⟨w1, w2⟩ := word_i (y := b) (by omega)
      have hseen : (b < 2 ^ ppY n ∧ ∃ m, m < b ∧ mnY n m ∧ eqY n m b) ↔ ¬ mnY n b := by
        constructor
        · rintro ⟨-, m, m1, m2, m3⟩ z
          have := z m (by omega) (eqY_sy m3)
          omega
        · intro z
          obtain ⟨m, m1, m2, m3, m4⟩ := mn_ex hbn
          refine ⟨hbn, m, ?_, m2, m3⟩
          rcases Nat.lt_or_ge m b with e | e
          · exact e
          · have : m = b := by omega
            subst this
            exact absurd m2 z
      have hbt := hS b (by omega)
      have pre : g97_58 N (u + 1) 44 (nI n) (nI (ppY n)) (nI (klY n b).length) (nI b) (hp σ, cs) = if ¬ ((if bt (σ.1 48 (b / 32)) (b % 32) = true then (1 : Int32) else 0) = 0) then g97_129 N (g97_58 N u) 44 (nI n) (nI (ppY n)) (nI (klY n b).length) (nI b) (hp σ, cs) else (lf_ci (f98 N 44 (nI n) (nI b) (hp (hp_wi σ 45 (156 * n + (klY n b).length) (nI b)), cs)) fun v20 w14 => (lf_wi w14 46 (nI (156 * n + (klY n b).length)) v20).bind fun w21 => g97_129 N (g97_58 N u) 44 (nI n) (nI (ppY n)) (nI (klY n b).length + 1) (nI b) w21) := by
        rw [g97_58]
        rw [epp, if_neg (nI_ge hbn (by omega)), if_neg (show ¬ (156 : Int32) ≤ nI (klY n b).length from nI_ge (b := 156) (by omega) (by omega)), r44_8, w1, a48 (by omega), w2, sh_bit (by omega), r44_5, ix_156, b45 (by omega), r44_6, o44]
      have hcl : ∀ (P : Nat → Prop) (b' : Nat), True := fun _ _ => trivial
      by_cases cm : mnY n b
      · have eK : klY n (b + 1) = klY n b ++ [b] := by
          unfold klY
          rw [pkL_s, if_pos (mnB_i.mpr cm)]
        have hnS : ¬ bt (σ.1 48 (b / 32)) (b % 32) = true := fun z => hseen.mp (hbt.mp z) cm
        obtain ⟨τ1, a1, a2, a3⟩ := c_vk (N := N) (cs := cs) (σ := hp_wi σ 45 (156 * n + (klY n b).length) (nI b)) (x := b) (S0 := fun y => y < 2 ^ ppY n ∧ ∃ m, m < b ∧ mnY n m ∧ eqY n m y) hn1 hn hN hbn (fun p q hp' hq e z => ⟨hq, by
          obtain ⟨m, m1, m2, m3⟩ := z.2
          exact ⟨m, m1, m2, eqY_tr m3 e⟩⟩) (fun z => hseen.mp z cm) (fun w hw => by rw [hp_wi_ne (by decide), hp_wi_ne (by decide)]; exact hM w hw) (fun y hy => by rw [hp_wi_ne (by decide)]; exact hS y hy)
        have w3 : fr [45, 46, 47, 48, 49] [(44, 10)] σ (hp_wi τ1 46 (156 * n + (klY n b).length) (nI (ctY (eqY n b) (2 ^ ppY n)))) := ((fr.wi (by decide)).tr (a1.wk (fun _ z => by simp at z; rcases z with z | z <;> simp [z]) (fun _ z => z))).tr (fr.wi (by decide))
        obtain ⟨τ, q1, q2, q3, q4, q5, q6⟩ := ih (b + 1) u (hp_wi τ1 46 (156 * n + (klY n b).length) (nI (ctY (eqY n b) (2 ^ ppY n)))) (by omega) (by omega) (fun w hw => by rw [w3.r (by decide), w3.r (by decide)]; exact hM w hw) (fun y hy => by
          rw [hp_wi_ne (by decide), a2 y hy]
          constructor
          · rintro (⟨z1, m, m1, m2, m3⟩ | ⟨z1, z2⟩)
            · exact ⟨z1, m, by omega, m2, m3⟩
            · exact ⟨z1, b, by omega, cm, z2⟩
          · rintro ⟨z1, m, m1, m2, m3⟩
            by_cases e : m = b
            · subst e; exact Or.inr ⟨z1, m3⟩
            · exact Or.inl ⟨z1, m, by omega, m2, m3⟩) (fun i hi => by
          rw [eK, List.length_append, List.length_singleton] at hi
          rw [eK]
          by_cases e : i = (klY n b).length
          · subst e
            rw [hp_wi_at, hp_wi_ne (by decide), a1.r (by decide), hp_wi_at, show (klY n b ++ [b]).getD (klY n b).length 0 = b by rw [List.getD_eq_getElem?_getD, List.getElem?_append_right (Nat.le_refl _), Nat.sub_self]; rfl]
            exact ⟨rfl, rfl⟩
          · rw [hp_wi_nj (by omega), hp_wi_ne (by decide), a1.r (by decide), hp_wi_nj (by omega), a1.r (by decide), hp_wi_ne (by decide), show (klY n b ++ [b]).getD i 0 = (klY n b).getD i 0 by rw [List.getD_eq_getElem?_getD, List.getD_eq_getElem?_getD, List.getElem?_append_left (by omega)]]
            exact hK i (by omega))
        refine ⟨τ, w3.tr q1, q2, fun j hj => by rw [q3 j hj, hp_wi_ne (by decide), a1.r (by decide), hp_wi_ne (by decide)], q4, fun j hj => ?_, ?_⟩
        · rw [(q5 j hj).1, (q5 j hj).2, hp_wi_ne (by decide), a1.r (by decide), hp_wi_nj (by omega), hp_wi_nj (by omega), a1.r (by decide), hp_wi_ne (by decide)]
          exact ⟨rfl, rfl⟩
        · rw [pre, if_neg hnS, if_neg (fun z => z rfl), a3, lf_ci_r, b46 (by omega)]
          unfold g97_129
          rw [eK, List.length_append, List.length_singleton] at q6
          rw [nI_1, nI_1]
          exact q6
      · have eK : klY n (b + 1) = klY n b := by
          unfold klY
          rw [pkL_s, if_neg (fun z => cm (mnB_i.mp z))]
        have hyS : bt (σ.1 48 (b / 32)) (b % 32) = true := hbt.mpr (hseen.mpr cm)
        obtain ⟨τ, q1, q2, q3, q4, q5, q6⟩ := ih (b + 1) u σ (by omega) (by omega) hM (fun y hy => by
          rw [hS y hy]
          constructor
          · rintro ⟨z1, m, m1, m2, m3⟩
            exact ⟨z1, m, by omega, m2, m3⟩
          · rintro ⟨z1, m, m1, m2, m3⟩
            refine ⟨z1, m, ?_, m2, m3⟩
            rcases Nat.lt_or_ge m b with e | e
            · exact e
            · have : m = b := by omega
              subst this
              exact absurd m2 cm) (by rw [eK]; exact hK)
        refine ⟨τ, q1, q2, q3, q4, q5, ?_⟩
        rw [pre, if_pos hyS, if_pos (by decide)]
        unfold g97_129
        rw [eK] at q6
        rw [nI_1]
        exact q6
end SMG
