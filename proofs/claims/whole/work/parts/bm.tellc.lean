/-! tell, the class: passOn and the rounds -/
section TC
variable {cs : Nat × Nat} {N n s now : Nat} {f : Nat → Int32} {σ τ υ : hp_S} {P Q : Nat → Prop}
/-- the lowest of a set, alone and as a set -/
theorem bl_lo2 {x : Int32} (h : ¬ x = 0) : ∃ l, l < 32 ∧ bt x l = true ∧ (∀ i, bt (x &&& (x - 1)) i = (bt x i && decide (i ≠ l))) ∧ bl x = l :: bl (x &&& (x - 1)) ∧ x &&& (-x) = lf_shl 1 (nI l) ∧ ∀ (N : Nat) (w : lf_W), f171 N x w = some (.inl (some (.int (nI l))), w) := by
  obtain ⟨l, l1, l2, l3, l4, l5⟩ := bl_low h
  refine ⟨l, l1, l2, l3, l4, ?_, fun N w => (l5 N w).1⟩
  obtain ⟨m, hm, e⟩ := wb_of32 x
  have h0 : 0 < m := by
    rcases Nat.eq_zero_or_pos m with z | z
    · subst z
      exact absurd e h
    · exact z
  obtain ⟨k, k1, k2, k3, k4⟩ := lo_and 32 m h0 hm
  have hk : bt x k = true := by rw [e, bt_nI hm]; exact k3
  have hlo : ∀ i, i < k → bt x i = false := fun i hi => by rw [e, bt_nI hm]; exact k4 i hi
  have hpw : (l :: bl (x &&& (x - 1))).Pairwise (· < ·) := by
    rw [← l4]
    exact List.Pairwise.sublist List.filter_sublist List.pairwise_lt_range
  have ekl : k = l := by
    rcases Nat.lt_trichotomy k l with q | q | q
    · have hm2 : k ∈ bl x := bl_mem.mpr hk
      rw [l4] at hm2
      rcases List.mem_cons.mp hm2 with z | z
      · exact z
      · have := (List.pairwise_cons.mp hpw).1 k z
        omega
    · exact q
    · rw [hlo l q] at l2
      cases l2
  rw [← ekl, shl_nI k1, e, nI_neg (by omega), nx_and, k2]
theorem tk_ix {x : Int32} (hn : n ≤ 10) (h : tkO n x) : ∃ k, k < 2 ^ n ∧ x = nI k := by
  obtain ⟨m, hm, e⟩ := wb_of32 x
  refine ⟨m, ?_, e⟩
  apply Nat.lt_pow_two_of_testBit
  intro i hi
  cases hb : m.testBit i with
  | false => rfl
  | true =>
    rw [← bt_nI hm, ← e] at hb
    have := h i hb
    omega
theorem tk_of {k : Nat} (hn : n ≤ 10) (h : k < 2 ^ n) : tkO n (nI k) := by
  intro v hv
  have h10 : 2 ^ n ≤ 2 ^ 10 := Nat.pow_le_pow_right (by omega) hn
  rw [bt_nI (Nat.lt_of_lt_of_le h (Nat.le_trans h10 (by decide)))] at hv
  apply Classical.byContradiction
  intro c
  rw [Nat.testBit_lt_two_pow (Nat.lt_of_lt_of_le h (Nat.pow_le_pow_right (by omega) (by omega)))] at hv
  cases hv
/-- these sets are reached now, where they were not before -/
def Wr (σ τ : hp_S) (P : Nat → Prop) (now : Nat) : Prop := fr [32] [] σ τ ∧ ∀ j, j < 1024 → (¬ σ.1 32 j = -1 → τ.1 32 j = σ.1 32 j) ∧ (σ.1 32 j = -1 → (P j → τ.1 32 j = nI now) ∧ (¬ P j → τ.1 32 j = -1))
theorem Wr.rf : Wr σ σ (fun _ => False) now := ⟨fr.rf, fun j _ => ⟨fun _ => rfl, fun e => ⟨fun z => z.elim, fun _ => e⟩⟩⟩
theorem Wr.tr (hnow : now < 2 ^ 31) (h : Wr σ τ P now) (k : Wr τ υ Q now) : Wr σ υ (fun j => P j ∨ Q j) now := by
  refine ⟨h.1.tr k.1, fun j hj => ?_⟩
  obtain ⟨h1, h2⟩ := h.2 j hj
  obtain ⟨k1, k2⟩ := k.2 j hj
  have hne : ¬ nI now = -1 := by rw [q_ne1 hnow]; exact id
  refine ⟨fun e => ?_, fun e => ⟨fun z => ?_, fun z => ?_⟩⟩
  · rw [k1 (by rw [h1 e]; exact e), h1 e]
  · by_cases c : P j
    · have e1 := (h2 e).1 c
      rw [k1 (by rw [e1]; exact hne), e1]
    · exact (k2 ((h2 e).2 c)).1 (z.resolve_left c)
  · exact (k2 ((h2 e).2 (fun c => z (Or.inl c)))).2 (fun c => z (Or.inr c))
theorem Wr.cg (h : Wr σ τ P now) (e : ∀ j, j < 1024 → (P j ↔ Q j)) : Wr σ τ Q now := ⟨h.1, fun j hj => ⟨(h.2 j hj).1, fun z => ⟨fun q => ((h.2 j hj).2 z).1 ((e j hj).mpr q), fun q => ((h.2 j hj).2 z).2 (fun c => q ((e j hj).mp c))⟩⟩⟩
/-- the loop over the fresh ones -/
theorem c_po70 {self : Nat → Nat → Int32 → Int32 → Int32 → lf_W → lf_R} {K T : Int32} {ts : List Nat} (hs : s < 8) (hn : n ≤ 10) (hnow : now < 2 ^ 31)
    (hself : ∀ (v : Nat) (σ : hp_S), v < n → (∀ j, j < 24 → σ.1 (3 + 2 * s) j = f j) → ∃ τ, Wr σ τ (fun j => PO f ts (K ||| lf_shl 1 (nI v)) (nI j)) now ∧ self 29 (3 + 2 * s) (K ||| lf_shl 1 (nI v)) T (nI now) (hp σ, cs) = some (.inl none, (hp τ, cs))) :
    ∀ (m u : Nat) (X : Int32) (σ : hp_S), (bl X).length = m → m < u → tkO n X → (∀ j, j < 24 → σ.1 (3 + 2 * s) j = f j) → ∃ τ, Wr σ τ (fun j => ∃ v, bt X v = true ∧ PO f ts (K ||| lf_shl 1 (nI v)) (nI j)) now ∧ g111_70 N self u 29 (3 + 2 * s) K (nI now) T X (hp σ, cs) = some (.inl none, (hp τ, cs)) := by
  intro m
  induction m with
  | zero =>
    intro u X σ hm hu hX hr
    obtain ⟨u, rfl⟩ : ∃ q, u = q + 1 := ⟨u - 1, by omega⟩
    have e0 : X = 0 := b_nothing.mpr (fun i hi => by
      have := bl_mem.mpr hi
      rw [List.eq_nil_of_length_eq_zero hm] at this
      cases this)
    refine ⟨σ, Wr.rf.cg (fun j _ => ⟨fun z => z.elim, fun ⟨v, z, _⟩ => ?_⟩), ?_⟩
    · rw [e0, b_0] at z
      cases z
    · unfold g111_70
      rw [if_pos e0]
  | succ m ih =>
    intro u X σ hm hu hX hr
    obtain ⟨u, rfl⟩ : ∃ q, u = q + 1 := ⟨u - 1, by omega⟩
    have h0 : ¬ X = 0 := fun e => by
      rw [e, bl_0] at hm
      cases hm
    obtain ⟨l, l1, l2, l3, l4, l5, l6⟩ := bl_lo2 h0
    rw [l4, List.length_cons] at hm
    obtain ⟨τ1, a1, a2⟩ := hself l σ (hX l l2) hr
    obtain ⟨τ2, b1, b2⟩ := ih u (X &&& (X - 1)) τ1 (by omega) (by omega) (fun v hv => hX v (by
      rw [l3 v, Bool.and_eq_true] at hv
      exact hv.1)) (fun j hj => by rw [a1.1.r (by simp; omega)]; exact hr j hj)
    refine ⟨τ2, (a1.tr hnow b1).cg (fun j _ => ⟨fun z => ?_, fun z => ?_⟩), ?_⟩
    · rcases z with z | ⟨v, z1, z2⟩
      · exact ⟨l, l2, z⟩
      · rw [l3 v, Bool.and_eq_true] at z1
        exact ⟨v, z1.1, z2⟩
    · obtain ⟨v, z1, z2⟩ := z
      by_cases c : v = l
      · subst c
        exact Or.inl z2
      · exact Or.inr ⟨v, by rw [l3 v, z1, decide_eq_true c]; rfl, z2⟩
    · unfold g111_70
      rw [if_neg h0, o29, l5, a2, lf_cv_r]
      exact b2
/-- passOn -/
theorem c_po (hs : s < 8) (hn : n ≤ 10) (hw : gw f n) (hnow : now < 2 ^ 31) (hN : iv_N N) : ∀ (dp : Nat) (T K : Int32) (σ : hp_S), (bl T).length < dp → tkO n T → tkO n K → (∀ j, j < 24 → σ.1 (3 + 2 * s) j = f j) → ∃ τ, Wr σ τ (fun j => PO f (bl T) K (nI j)) now ∧ f111r N dp 29 (3 + 2 * s) K T (nI now) (hp σ, cs) = some (.inl none, (hp τ, cs)) := by
  intro dp
  induction dp with
  | zero => intro T K σ h; omega
  | succ dp ih =>
    intro T K σ hd hT hK hr
    by_cases h0 : T = 0
    · subst h0
      obtain ⟨k, hk, ek⟩ := tk_ix hn hK
      have h10 : 2 ^ n ≤ 2 ^ 10 := Nat.pow_le_pow_right (by omega) hn
      have hk2 : k < 1024 := by omega
      refine ⟨hp_wi σ 32 k (if ¬ σ.1 32 k = -1 then σ.1 32 k else nI now), ⟨fr.wi (by decide), fun j hj => ?_⟩, ?_⟩
      · by_cases c : j = k
        · subst c
          rw [hp_wi_at]
          refine ⟨fun e => by rw [if_pos e], fun e => ⟨fun _ => by rw [if_neg (fun z => z e)], fun z => ?_⟩⟩
          apply absurd _ z
          rw [bl_0]
          exact ek.symm
        · rw [hp_wi_nj c]
          refine ⟨fun _ => rfl, fun e => ⟨fun z => ?_, fun _ => e⟩⟩
          rw [bl_0] at z
          have z : nI j = K := z
          rw [ek, q_eq (by omega) (by omega)] at z
          exact absurd z c
      · unfold f111r g111_30
        rw [if_neg (fun z => z rfl), r29_2, r29_2, ek, a32 hk2]
        by_cases c : σ.1 32 k = -1
        · rw [if_neg (fun z => z c), b32 hk2, if_neg (fun z => z c)]
        · rw [if_pos c, r29_2, a32 hk2, b32 hk2, if_pos c]
    · obtain ⟨l, l1, l2, l3, l4, l5, l6⟩ := bl_lo2 h0
      have hln := hT l l2
      have hd2 : (bl (T &&& (T - 1))).length < dp := by
        rw [l4, List.length_cons] at hd
        omega
      have hT2 : tkO n (T &&& (T - 1)) := fun v hv => hT v (by
        rw [l3 v, Bool.and_eq_true] at hv
        exact hv.1)
      have hF : tkO n (f l &&& (K ^^^ (-1))) := fun v hv => (hw l (by omega) v (b_andn.mp hv).1).2.1
      have hlen : (bl (f l &&& (K ^^^ (-1)))).length < N := by
        have := bl_le (f l &&& (K ^^^ (-1)))
        unfold iv_N at hN
        omega
      have hself : ∀ (v : Nat) (σ : hp_S), v < n → (∀ j, j < 24 → σ.1 (3 + 2 * s) j = f j) → ∃ τ, Wr σ τ (fun j => PO f (bl (T &&& (T - 1))) (K ||| lf_shl 1 (nI v)) (nI j)) now ∧ f111r N dp 29 (3 + 2 * s) (K ||| lf_shl 1 (nI v)) (T &&& (T - 1)) (nI now) (hp σ, cs) = some (.inl none, (hp τ, cs)) := by
        intro v σ hv hr
        exact ih (T &&& (T - 1)) (K ||| lf_shl 1 (nI v)) σ hd2 hT2 (fun w hw => by
          rcases (tk_on (by omega)).mp hw with z | z
          · exact hK w z
          · omega) hr
      by_cases c : f l &&& (K ^^^ (-1)) = 0
      · obtain ⟨τ, a1, a2⟩ := ih (T &&& (T - 1)) K σ hd2 hT2 hK hr
        refine ⟨τ, a1.cg (fun j _ => ?_), ?_⟩
        · rw [l4]
          constructor
          · intro z
            exact Or.inl ⟨c, z⟩
          · rintro (z | ⟨v, z, _⟩)
            · exact z.2
            · rw [c, b_0] at z
              cases z
        · obtain ⟨M, rfl⟩ : ∃ q, N = q + 1 := ⟨N - 1, by unfold iv_N at hN; omega⟩
          unfold f111r g111_66
          rw [if_pos h0, l6, lf_nest_r, lf_ci_r, sN_ri hs (by omega), hr l (by omega), if_neg (fun z => z c), o29, a2, lf_cv_r]
          unfold g111_70
          rw [if_pos c]
      · obtain ⟨τ, a1, a2⟩ := c_po70 (N := N) (cs := cs) (self := f111r N dp) (K := K) (T := T &&& (T - 1)) (ts := bl (T &&& (T - 1))) hs hn hnow hself _ N _ σ rfl hlen hF hr
        refine ⟨τ, a1.cg (fun j _ => ?_), ?_⟩
        · rw [l4]
          constructor
          · rintro ⟨v, z1, z2⟩
            exact Or.inr ⟨v, z1, z2⟩
          · rintro (z | z)
            · exact absurd z.1 c
            · exact z
        · unfold f111r g111_66
          rw [if_pos h0, l6, lf_nest_r, lf_ci_r, sN_ri hs (by omega), hr l (by omega), if_pos c]
          exact a2
/-- the row is cleared -/
theorem c_r8 {a : Nat} {x2 : Int32} {x1 : Nat} (ha : a < 1024) : ∀ (m v u : Nat) (σ : hp_S), v + m = a + 1 → m < u → (∀ j, j < v → σ.1 32 j = -1) → ∃ τ, fr [32] [] σ τ ∧ (∀ j, j ≤ a → τ.1 32 j = -1) ∧ g110_8 N u 29 x1 x2 (nI a) (nI v) (hp σ, cs) = g110_38 N 29 x1 x2 (nI a) (hp τ, cs) := by
  intro m
  induction m with
  | zero =>
    intro v u σ hv hu h
    obtain ⟨u, rfl⟩ : ∃ q, u = q + 1 := ⟨u - 1, by omega⟩
    refine ⟨σ, fr.rf, fun j hj => h j (by omega), ?_⟩
    unfold g110_8
    rw [if_pos (nI_lt (by omega) (by omega))]
  | succ m ih =>
    intro v u σ hv hu h
    obtain ⟨u, rfl⟩ : ∃ q, u = q + 1 := ⟨u - 1, by omega⟩
    obtain ⟨τ, q1, q2, q3⟩ := ih (v + 1) u (hp_wi σ 32 v (-1)) (by omega) (by omega) (fun j hj => by
      by_cases c : j = v
      · rw [c, hp_wi_at]
      · rw [hp_wi_nj c]; exact h j (by omega))
    refine ⟨τ, (fr.wi (by decide)).tr q1, q2, ?_⟩
    unfold g110_8
    rw [if_neg (nI_nlt (by omega) (by omega)), r29_2, hp_len_i (a := 32) (n := 1024) rfl, Option.bind_some, if_neg (show ¬ (Int32.ofNat 1024) ≤ nI v from nI_ge (b := 1024) (by omega) (by omega)), r29_2, b32 (by omega), nI_1]
    exact q3
/-- a round: all that is known now tells -/
theorem c_r70 {a : Nat} {k50 : Nat → Nat → Int32 → Int32 → lf_W → lf_R} (hs : s < 8) (hn : n ≤ 10) (ha : a + 1 = 2 ^ n) (hw : gw f n) (hnow : now < 1000) (hN : iv_N N) (σ0 : hp_S) : ∀ (m v u : Nat) (σ : hp_S), v + m = a + 1 → m < u → (∀ j, j < 24 → σ.1 (3 + 2 * s) j = f j) → Wr σ0 σ (fun j => ∃ k, 1 ≤ k ∧ k < v ∧ σ0.1 32 k = nI now ∧ NxC f (nI k) (nI j)) (now + 1) → 1 ≤ v → ∃ τ, Wr σ0 τ (fun j => ∃ k, 1 ≤ k ∧ k < a + 1 ∧ σ0.1 32 k = nI now ∧ NxC f (nI k) (nI j)) (now + 1) ∧ g110_70 N k50 u 29 (2 + 2 * s) (nI a) (nI now) (nI v) (hp σ, cs) = k50 29 (2 + 2 * s) (nI a) (nI (now + 1)) (hp τ, cs) := by
  have h10 : 2 ^ n ≤ 2 ^ 10 := Nat.pow_le_pow_right (by omega) hn
  intro m
  induction m with
  | zero =>
    intro v u σ hv hu hr hW h1
    obtain ⟨u, rfl⟩ : ∃ q, u = q + 1 := ⟨u - 1, by omega⟩
    have : v = a + 1 := by omega
    subst this
    refine ⟨σ, hW, ?_⟩
    unfold g110_70 g110_120
    rw [if_pos (nI_lt (by omega) (by omega)), nI_1]
  | succ m ih =>
    intro v u σ hv hu hr hW h1
    obtain ⟨u, rfl⟩ : ∃ q, u = q + 1 := ⟨u - 1, by omega⟩
    have hv2 : v < 1024 := by omega
    have hiff : σ.1 32 v = nI now ↔ σ0.1 32 v = nI now := by
      obtain ⟨w1, w2⟩ := hW.2 v hv2
      by_cases c : σ0.1 32 v = -1
      · have hn1 : ¬ (-1 : Int32) = nI now := by
          intro e
          have := q_ne1 (a := now) (by omega)
          rw [← e] at this
          exact (Eq.mp this rfl).elim
        constructor
        · intro e
          by_cases d : ∃ k, 1 ≤ k ∧ k < v ∧ σ0.1 32 k = nI now ∧ NxC f (nI k) (nI v)
          · rw [(w2 c).1 d, q_eq (by omega) (by omega)] at e
            omega
          · rw [(w2 c).2 d] at e
            exact absurd e hn1
        · intro e
          rw [c] at e
          exact absurd e hn1
      · rw [w1 c]
    by_cases c : σ0.1 32 v = nI now
    · obtain ⟨τ1, b1, b2⟩ := c_po (N := N) (cs := cs) (now := now + 1) hs hn hw (by omega) hN 40 (nI v) (nI v) σ (by have := bl_le (nI v); omega) (tk_of hn (by omega)) (tk_of hn (by omega)) hr
      obtain ⟨τ, q1, q2⟩ := ih (v + 1) u τ1 (by omega) (by omega) (fun j hj => by rw [b1.1.r (by simp; omega)]; exact hr j hj) ((hW.tr (by omega) b1).cg (fun j _ => ⟨fun z => by
        rcases z with ⟨k, k1, k2, k3, k4⟩ | z
        · exact ⟨k, k1, by omega, k3, k4⟩
        · exact ⟨v, h1, by omega, c, z⟩, fun z => by
        obtain ⟨k, k1, k2, k3, k4⟩ := z
        by_cases d : k = v
        · subst d
          exact Or.inr k4
        · exact Or.inl ⟨k, k1, by omega, k3, k4⟩⟩)) (by omega)
      refine ⟨τ, q1, ?_⟩
      unfold g110_70 g110_114 f111
      rw [if_neg (nI_nlt (by omega) (by omega)), r29_2, hp_len_i (a := 32) (n := 1024) rfl, Option.bind_some, if_neg (show ¬ (Int32.ofNat 1024) ≤ nI v from nI_ge (b := 1024) (by omega) (by omega)), r29_2, a32 hv2, if_neg (fun z => z (hiff.mpr c)), sN_r hs, o29, nI_1, b2, lf_cv_r, nI_1]
      exact q2
    · obtain ⟨τ, q1, q2⟩ := ih (v + 1) u σ (by omega) (by omega) hr (hW.cg (fun j _ => ⟨fun z => by
        obtain ⟨k, k1, k2, k3, k4⟩ := z
        exact ⟨k, k1, by omega, k3, k4⟩, fun z => by
        obtain ⟨k, k1, k2, k3, k4⟩ := z
        refine ⟨k, k1, ?_, k3, k4⟩
        rcases Nat.lt_or_ge k v with d | d
        · exact d
        · have : k = v := by omega
          subst this
          exact absurd k3 c⟩)) (by omega)
      refine ⟨τ, q1, ?_⟩
      unfold g110_70 g110_114
      rw [if_neg (nI_nlt (by omega) (by omega)), r29_2, hp_len_i (a := 32) (n := 1024) rfl, Option.bind_some, if_neg (show ¬ (Int32.ofNat 1024) ≤ nI v from nI_ge (b := 1024) (by omega) (by omega)), r29_2, a32 hv2, if_pos (fun z => c (hiff.mp z)), nI_1]
      exact q2
/-- what the row says after so many rounds -/
def CIr (f : Nat → Int32) (x0 : Int32) (a : Nat) (σ : hp_S) (now : Nat) : Prop := ∀ j, j ≤ a → (σ.1 32 j = -1 ∧ ∀ t, t ≤ now → ¬ RE (NxC f) x0 t (nI j)) ∨ ∃ t, t ≤ now ∧ σ.1 32 j = nI t ∧ RE (NxC f) x0 t (nI j) ∧ ∀ t', t' < t → ¬ RE (NxC f) x0 t' (nI j)
theorem CIr_step {a : Nat} {x0 : Int32} (hn : n ≤ 10) (ha : a + 1 = 2 ^ n) (hw : gw f n) (hx : tkO n x0) (hx0 : ¬ x0 = 0) (hnow : now < 1000) (h : CIr f x0 a σ now) (hW : Wr σ τ (fun j => ∃ k, 1 ≤ k ∧ k < a + 1 ∧ σ.1 32 k = nI now ∧ NxC f (nI k) (nI j)) (now + 1)) : CIr f x0 a τ (now + 1) := by
  have h10 : 2 ^ n ≤ 2 ^ 10 := Nat.pow_le_pow_right (by omega) hn
  intro j hj
  obtain ⟨w1, w2⟩ := hW.2 j (by omega)
  rcases h j hj with ⟨e, h1⟩ | ⟨t, t1, t2, t3, t4⟩
  · by_cases c : ∃ k, 1 ≤ k ∧ k < a + 1 ∧ σ.1 32 k = nI now ∧ NxC f (nI k) (nI j)
    · refine Or.inr ⟨now + 1, Nat.le_refl _, (w2 e).1 c, ?_, fun t' ht => h1 t' (by omega)⟩
      obtain ⟨k, k1, k2, k3, k4⟩ := c
      refine ⟨nI k, ?_, k4⟩
      rcases h k (by omega) with ⟨e2, -⟩ | ⟨t, t1, t2, t3, -⟩
      · rw [e2] at k3
        have := q_ne1 (a := now) (by omega)
        rw [← k3] at this
        exact (Eq.mp this rfl).elim
      · rw [t2, q_eq (by omega) (by omega)] at k3
        subst k3
        exact t3
    · refine Or.inl ⟨(w2 e).2 c, fun t ht => ?_⟩
      rcases Nat.lt_or_ge now t with d | d
      · have : t = now + 1 := by omega
        subst this
        rintro ⟨x, x1, x2⟩
        obtain ⟨o1, o2⟩ := RE_ok (NxC_1 (by omega) hw) hx hx0 now x x1
        obtain ⟨k, hk, ek⟩ := tk_ix hn o1
        subst ek
        have hk1 : 1 ≤ k := by
          rcases Nat.eq_zero_or_pos k with z | z
          · subst z
            exact absurd rfl o2
          · exact z
        rcases h k (by omega) with ⟨-, e2⟩ | ⟨t, t1, t2, t3, -⟩
        · exact e2 now (Nat.le_refl _) x1
        · rcases Nat.lt_or_ge t now with g | g
          · exact h1 (t + 1) (by omega) ⟨nI k, t3, x2⟩
          · have : t = now := by omega
            subst this
            exact c ⟨k, hk1, by omega, t2, x2⟩
      · exact h1 t d
  · refine Or.inr ⟨t, by omega, ?_, t3, t4⟩
    rw [w1 (by rw [t2, q_ne1 (by omega)]; exact id), t2]
theorem c_r50 {a R : Nat} {x0 : Int32} (hs : s < 8) (hn : n ≤ 10) (ha : a + 1 = 2 ^ n) (hw : gw f n) (hx : tkO n x0) (hx0 : ¬ x0 = 0) (hN : iv_N N) (hR : R ≤ 9) (hR1 : RE (NxC f) x0 R (nI a)) (hR2 : ∀ t, t < R → ¬ RE (NxC f) x0 t (nI a)) : ∀ (m now u : Nat) (σ : hp_S), now + m = R → m < u → (∀ j, j < 24 → σ.1 (3 + 2 * s) j = f j) → CIr f x0 a σ now → ∃ τ, fr [32] [] σ τ ∧ g110_50 N u 29 (2 + 2 * s) (nI a) (nI now) (hp σ, cs) = some (.inl (some (.int (nI R))), (hp τ, cs)) := by
  have h10 : 2 ^ n ≤ 2 ^ 10 := Nat.pow_le_pow_right (by omega) hn
  intro m
  induction m with
  | zero =>
    intro now u σ hm hu hr hC
    obtain ⟨u, rfl⟩ : ∃ q, u = q + 1 := ⟨u - 1, by omega⟩
    have : now = R := by omega
    subst this
    refine ⟨σ, fr.rf, ?_⟩
    have e : σ.1 32 a = nI now := by
      rcases hC a (Nat.le_refl _) with ⟨-, e⟩ | ⟨t, t1, t2, t3, -⟩
      · exact absurd hR1 (e now (Nat.le_refl _))
      · rcases Nat.lt_or_ge t now with g | g
        · exact absurd t3 (hR2 t g)
        · have : t = now := by omega
          subst this
          exact t2
    unfold g110_50 g110_126
    rw [if_neg (show ¬ (10 : Int32) ≤ nI now from nI_ge (b := 10) (by omega) (by omega)), r29_2, a32 (by omega), e, if_pos (by rw [q_ne1 (by omega)]; exact id), r29_2, a32 (by omega), e]
  | succ m ih =>
    intro now u σ hm hu hr hC
    obtain ⟨u, rfl⟩ : ∃ q, u = q + 1 := ⟨u - 1, by omega⟩
    have e : σ.1 32 a = -1 := by
      rcases hC a (Nat.le_refl _) with ⟨e, -⟩ | ⟨t, t1, t2, t3, -⟩
      · exact e
      · exact absurd t3 (hR2 t (by omega))
    obtain ⟨τ1, b1, b2⟩ := c_r70 (N := N) (cs := cs) (k50 := g110_50 N u) hs hn ha hw (show now < 1000 by omega) hN σ a 1 N σ (by omega) (by unfold iv_N at hN; omega) hr (Wr.rf.cg (fun j _ => ⟨fun z => z.elim, fun ⟨k, k1, k2, _⟩ => by omega⟩)) (by omega)
    obtain ⟨τ, q1, q2⟩ := ih (now + 1) u τ1 (by omega) (by omega) (fun j hj => by rw [b1.1.r (by simp; omega)]; exact hr j hj) (CIr_step hn ha hw hx hx0 (by omega) hC b1)
    refine ⟨τ, b1.1.tr q1, ?_⟩
    unfold g110_50
    rw [if_neg (show ¬ (10 : Int32) ≤ nI now from nI_ge (b := 10) (by omega) (by omega)), r29_2, a32 (by omega), e, if_neg (fun z => z rfl)]
    rw [show g110_70 N (g110_50 N u) N 29 (2 + 2 * s) (nI a) (nI now) 1 (hp σ, cs) = _ from b2]
    exact q2
/-- roundsFrom -/
theorem c_tell {R kn : Nat} (hs : s < 8) (hn1 : 1 ≤ n) (hn : n ≤ 10) (hw : gw f n) (hkn : kn < n) (hN : iv_N N) (hR : R ≤ 9) (hR1 : RE (NxC f) (lf_shl 1 (nI kn)) R (al n)) (hR2 : ∀ t, t < R → ¬ RE (NxC f) (lf_shl 1 (nI kn)) t (al n)) (e : σ.2.2.1 (2 + 2 * s) 1 = nI n) (hr : ∀ j, j < 24 → σ.1 (3 + 2 * s) j = f j) : ∃ τ, fr [32] [] σ τ ∧ f110 N 29 (2 + 2 * s) (nI kn) (hp σ, cs) = some (.inl (some (.int (nI R))), (hp τ, cs)) := by
  have h10 : 2 ^ n ≤ 2 ^ 10 := Nat.pow_le_pow_right (by omega) hn
  have h1 : 1 ≤ 2 ^ n := Nat.one_le_two_pow
  have ea := al_nI (n := n) (by omega)
  have hkp : 2 ^ kn < 2 ^ n := Nat.pow_lt_pow_right (by omega) hkn
  have ek : lf_shl 1 (nI kn) = nI (2 ^ kn) := shl_nI (by omega)
  have hx : tkO n (lf_shl 1 (nI kn)) := fun v hv => by rw [(b_one (by omega)).mp hv]; exact hkn
  have hx0 : ¬ lf_shl 1 (nI kn) = 0 := fun z => b_nothing.mp z kn ((b_one (by omega)).mpr rfl)
  obtain ⟨σ1, a1, a2, a3⟩ := c_r8 (N := N) (cs := cs) (x1 := 2 + 2 * s) (x2 := nI kn) (a := 2 ^ n - 1) (by omega) (2 ^ n) 0 N σ (by omega) (by unfold iv_N at hN; omega) (fun j hj => absurd hj (Nat.not_lt_zero _))
  obtain ⟨τ, q1, q2⟩ := c_r50 (N := N) (cs := cs) (s := s) (a := 2 ^ n - 1) (x0 := lf_shl 1 (nI kn)) hs hn (by omega) hw hx hx0 hN hR (by rw [← ea]; exact hR1) (by rw [← ea]; exact hR2) R 0 N (hp_wi σ1 32 (2 ^ kn) 0) (by omega) (by unfold iv_N at hN; omega) (fun j hj => by rw [hp_wi_ne (by omega), a1.r (by simp; omega)]; exact hr j hj) (fun j hj => by
    by_cases c : j = 2 ^ kn
    · refine Or.inr ⟨0, Nat.le_refl _, by rw [c, hp_wi_at]; rfl, ?_, fun t' ht => absurd ht (Nat.not_lt_zero _)⟩
      show nI j = lf_shl 1 (nI kn)
      rw [c, ek]
    · refine Or.inl ⟨by rw [hp_wi_nj c]; exact a2 j hj, fun t ht z => ?_⟩
      have : t = 0 := by omega
      subst this
      have z : nI j = lf_shl 1 (nI kn) := z
      rw [ek, q_eq (by omega) (by omega)] at z
      exact c z)
  refine ⟨τ, (a1.tr (fr.wi (by decide))).tr q1, ?_⟩
  unfold f110
  rw [sN_o hs, c_all hs e, lf_ci_r, ea]
  rw [show g110_8 N N 29 (2 + 2 * s) (nI kn) (nI (2 ^ n - 1)) 0 (hp σ, cs) = _ from a3]
  unfold g110_38
  rw [r29_2, ek, b32 (by omega)]
  exact q2
end TC
