/-! tell, the model: its loops -/
section TM3
variable {cs : Nat × Nat} {N n : Nat} {f : Nat → Int32} {σ τ υ : hp_S} {P Q : Nat → Prop}
theorem sub_next : ∀ (b r s t : Nat), r < 2 ^ b → s &&& r = s → t &&& r = t → t < s → t ≤ (s - 1) &&& r
  | 0, r, s, t, hr, hs, ht, h => by
    rw [Nat.pow_zero] at hr
    have : r = 0 := by omega
    subst this
    rw [Nat.and_zero] at hs
    omega
  | b + 1, r, s, t, hr, hs, ht, h => by
    rw [Nat.pow_succ] at hr
    have s1 : (s / 2 ^ 1) &&& (r / 2 ^ 1) = s / 2 ^ 1 := by rw [← Nat.and_div_two_pow, hs]
    have t1 : (t / 2 ^ 1) &&& (r / 2 ^ 1) = t / 2 ^ 1 := by rw [← Nat.and_div_two_pow, ht]
    have s2 : (s % 2 ^ 1) &&& (r % 2 ^ 1) = s % 2 ^ 1 := by rw [← Nat.and_mod_two_pow, hs]
    have t2 : (t % 2 ^ 1) &&& (r % 2 ^ 1) = t % 2 ^ 1 := by rw [← Nat.and_mod_two_pow, ht]
    have w1 : ((s - 1) &&& r) / 2 ^ 1 = ((s - 1) / 2 ^ 1) &&& (r / 2 ^ 1) := Nat.and_div_two_pow
    have w2 : ((s - 1) &&& r) % 2 ^ 1 = ((s - 1) % 2 ^ 1) &&& (r % 2 ^ 1) := Nat.and_mod_two_pow
    have t3 : t % 2 ^ 1 ≤ r % 2 ^ 1 := by rw [← t2]; exact Nat.and_le_right
    rcases Nat.mod_two_eq_zero_or_one s with e | e
    · have e1 : (s - 1) / 2 ^ 1 = s / 2 ^ 1 - 1 := by omega
      have e2 : (s - 1) % 2 ^ 1 = 1 := by omega
      have ih := sub_next b (r / 2 ^ 1) (s / 2 ^ 1) (t / 2 ^ 1) (by omega) s1 t1 (by omega)
      rw [e1] at w1
      rw [e2] at w2
      have e3 : 1 &&& (r % 2 ^ 1) = r % 2 ^ 1 := by
        rcases Nat.mod_two_eq_zero_or_one r with g | g
        · rw [show r % 2 ^ 1 = 0 from g]; rfl
        · rw [show r % 2 ^ 1 = 1 from g]; rfl
      rw [e3] at w2
      omega
    · have e1 : (s - 1) / 2 ^ 1 = s / 2 ^ 1 := by omega
      rw [e1, s1] at w1
      omega
/-- these sets are fresh too -/
def Wf (σ τ : hp_S) (P : Nat → Prop) : Prop := fr [110, 111, 112, 113, 115, 116] [] σ τ ∧ (∀ j, j < 1024 → (P j → τ.1 116 j = 1) ∧ (¬ P j → τ.1 116 j = σ.1 116 j)) ∧ ∀ j, 1024 ≤ j → τ.1 116 j = σ.1 116 j
theorem Wf.of (h : fr [110, 111, 112, 113, 115] [] σ τ) : Wf σ τ (fun _ => False) := ⟨h.wk (fun _ z => by simp at z; rcases z with z | z | z | z | z <;> simp [z]) (fun _ z => z), fun j _ => ⟨fun z => z.elim, fun _ => by rw [h.r (by decide)]⟩, fun j _ => by rw [h.r (by decide)]⟩
theorem Wf.tr (h : Wf σ τ P) (k : Wf τ υ Q) : Wf σ υ (fun j => P j ∨ Q j) := by
  refine ⟨h.1.tr k.1, fun j hj => ⟨fun z => ?_, fun z => ?_⟩, fun j hj => (k.2.2 j hj).trans (h.2.2 j hj)⟩
  · by_cases c : Q j
    · exact (k.2.1 j hj).1 c
    · rw [(k.2.1 j hj).2 c]
      exact (h.2.1 j hj).1 (z.resolve_right c)
  · rw [(k.2.1 j hj).2 (fun c => z (Or.inr c)), (h.2.1 j hj).2 (fun c => z (Or.inl c))]
theorem Wf.cg (h : Wf σ τ P) (e : ∀ j, j < 1024 → (P j ↔ Q j)) : Wf σ τ Q := ⟨h.1, fun j hj => ⟨fun q => (h.2.1 j hj).1 ((e j hj).mpr q), fun q => (h.2.1 j hj).2 (fun c => q ((e j hj).mp c))⟩, h.2.2⟩
/-- all submasks of a rest -/
theorem m_s144 {x3 : Int32} {v k r0 : Nat} {k74 : Nat → Int32 → lf_W → lf_R} {k95 : Nat → Int32 → Int32 → lf_W → lf_R} (hn : n ≤ 10) (hN : iv_N N) (hk : k < 1000) (hv : v < 2 ^ n) (hr0 : r0 < 2 ^ n) (hdis : ∀ i, bt (nI r0) i = true → ¬ bt (nI v) i = true) : ∀ (m c u : Nat) (σ : hp_S), c ≤ m → m < u → c &&& r0 = c → σ.2.2.1 72 4 = nI n → (∀ j, j < 24 → σ.1 76 j = f j) → ∃ τ, Wf σ τ (fun j => ∃ t, t ≤ c ∧ t &&& r0 = t ∧ NxS f n (nI v) (nI t) k ∧ nI j = nI v ||| nI t) ∧ τ.1 115 = σ.1 115 ∧ g285_144 N k74 k95 u 72 x3 (nI v) (nI k) (nI r0) (nI c) (hp σ, cs) = g285_193 N k74 k95 72 x3 (nI v) (hp τ, cs) := by
  have h10 : 2 ^ n ≤ 2 ^ 10 := Nat.pow_le_pow_right (by omega) hn
  intro m
  induction m with
  | zero =>
    intro c u σ hc hu hcr e ef
    obtain ⟨u, rfl⟩ : ∃ q, u = q + 1 := ⟨u - 1, by omega⟩
    have : c = 0 := by omega
    subst this
    refine ⟨σ, (Wf.of fr.rf).cg (fun j _ => ⟨fun z => z.elim, fun ⟨t, t1, _, t3, _⟩ => ?_⟩), rfl, ?_⟩
    · have : t = 0 := by omega
      subst this
      exact absurd rfl t3.1
    · unfold g285_144
      rw [if_pos (show nI 0 ≤ 0 from nI_le (b := 0) (by omega) (by omega))]
  | succ m ih =>
    intro c u σ hc hu hcr e ef
    obtain ⟨u, rfl⟩ : ∃ q, u = q + 1 := ⟨u - 1, by omega⟩
    by_cases c0 : c = 0
    · subst c0
      refine ⟨σ, (Wf.of fr.rf).cg (fun j _ => ⟨fun z => z.elim, fun ⟨t, t1, _, t3, _⟩ => ?_⟩), rfl, ?_⟩
      · have : t = 0 := by omega
        subst this
        exact absurd rfl t3.1
      · unfold g285_144
        rw [if_pos (show nI 0 ≤ 0 from nI_le (b := 0) (by omega) (by omega))]
    · have hcl : c ≤ r0 := by rw [← hcr]; exact Nat.and_le_right
      have hnx : (c - 1) &&& r0 ≤ c - 1 := Nat.and_le_left
      have hsub : ((c - 1) &&& r0) &&& r0 = (c - 1) &&& r0 := by rw [Nat.and_assoc, Nat.and_self]
      have hpos : ¬ nI c ≤ 0 := nI_nle (by omega) (by omega)
      have est : (nI c - 1) &&& nI r0 = nI ((c - 1) &&& r0) := by
        rw [show nI c - 1 = nI (c - 1) from pk_sub (b := 1) (by omega), fa_and]
      have hin : ∀ i, bt (nI c) i = true → bt (nI r0) i = true := by
        intro i hi
        rw [← hcr, ← fa_and, b_and_iff] at hi
        exact hi.2
      have hsp : ∀ t, t ≤ c → t &&& r0 = t → t = c ∨ t ≤ (c - 1) &&& r0 := by
        intro t t1 t2
        rcases Nat.lt_or_ge t c with g | g
        · exact Or.inr (sub_next n r0 c t hr0 hcr t2 g)
        · exact Or.inl (by omega)
      have hne : ∀ (hno : ¬ NxS f n (nI v) (nI c) k) (j : Nat), (∃ t, t ≤ (c - 1) &&& r0 ∧ t &&& r0 = t ∧ NxS f n (nI v) (nI t) k ∧ nI j = nI v ||| nI t) ↔ ∃ t, t ≤ c ∧ t &&& r0 = t ∧ NxS f n (nI v) (nI t) k ∧ nI j = nI v ||| nI t := by
        intro hno j
        constructor
        · rintro ⟨t, t1, t2, t3, t4⟩
          exact ⟨t, by omega, t2, t3, t4⟩
        · rintro ⟨t, t1, t2, t3, t4⟩
          rcases hsp t t1 t2 with g | g
          · subst g
            exact absurd t3 hno
          · exact ⟨t, g, t2, t3, t4⟩
      have hip : i_pc (nI c) ≤ 32 := by
        have := bl_le (nI c)
        rw [bl_len] at this
        exact this
      by_cases cp : i_pc (nI c) = k
      · obtain ⟨τ1, k', a1, a2, a3, a4⟩ := m_areT (N := N) (cs := cs) (n := n) (f := f) (K := nI v) (S := nI c) (σ := σ) (by omega) hN e ef
        have a1' : fr [110, 111, 112, 113, 115] [] σ τ1 := a1.wk (fun _ z => by simp at z; rcases z with z | z | z | z <;> simp [z]) (fun _ z => z)
        have hlen : (pkL (fun j => bt (nI c) j) n).length ≤ 24 := Nat.le_trans pkL_le (by omega)
        have hk' : k' ≤ (pkL (fun j => bt (nI c) j) n).length := by
          refine mt_vc a2 ⟨fun i => decide (i < (pkL (fun j => bt (nI c) j) n).length), fun _ => false, ?_, fun i y _ _ z => Or.inl (decide_eq_true (tE_i.mp z).1)⟩
          have z1 : sm (fun y => if (fun _ : Nat => false) y = true then 1 else 0) 24 = 0 := rfl
          rw [z1]
          have := sm_inj (P := fun i => decide (i < (pkL (fun j => bt (nI c) j) n).length)) (Q := fun _ => true) (g := fun i => i) (n := 24) (m := (pkL (fun j => bt (nI c) j) n).length) (fun i _ hi => ⟨of_decide_eq_true hi, rfl⟩) (fun i j _ _ _ _ z => z)
          have z2 : sm (fun y => if (fun _ : Nat => true) y = true then 1 else 0) (pkL (fun j => bt (nI c) j) n).length = (pkL (fun j => bt (nI c) j) n).length := (sm_congr (G := fun _ => 1) (fun _ _ => if_pos rfl)).trans (sm_one _)
          rw [z2] at this
          omega
        by_cases ck : k' = (pkL (fun j => bt (nI c) j) n).length
        · have hyes : NxS f n (nI v) (nI c) k := ⟨fun z => by
            have z : nI c = nI 0 := z
            rw [q_eq (by omega) (by omega)] at z
            exact c0 z, fun i hi => ⟨tk_of hn (by omega) i hi, hdis i (hin i hi)⟩, cp, by rw [← ck]; exact a2⟩
          have eo : nI v ||| nI c = nI (v ||| c) := fa_or v c
          have hvc : v ||| c < 2 ^ n := Nat.or_lt_two_pow hv (by omega)
          have w1 : Wf σ (hp_wi τ1 116 (v ||| c) 1) (fun j => nI j = nI v ||| nI c) := by
            refine ⟨(a1'.wk (fun _ z => by simp at z; rcases z with z | z | z | z | z <;> simp [z]) (fun _ z => z)).tr (fr.wi (by decide)), fun j hj => ⟨fun z => ?_, fun z => ?_⟩, fun j hj => ?_⟩
            · rw [eo, q_eq (by omega) (by omega)] at z
              rw [z, hp_wi_at]
            · have z : ¬ j = v ||| c := fun g => z (by rw [eo, g])
              rw [hp_wi_nj z, a1.r (by decide)]
            · rw [hp_wi_nj (by omega), a1.r (by decide)]
          obtain ⟨τ, q1, q2, q3⟩ := ih ((c - 1) &&& r0) u (hp_wi τ1 116 (v ||| c) 1) (by omega) (by omega) hsub (by rw [show (hp_wi τ1 116 (v ||| c) 1).2.2.1 72 4 = τ1.2.2.1 72 4 from rfl, a1.f List.not_mem_nil]; exact e) (fun j hj => by rw [hp_wi_ne (by decide), a1.r (by decide)]; exact ef j hj)
          refine ⟨τ, (w1.tr q1).cg (fun j _ => ⟨fun z => ?_, fun z => ?_⟩), by rw [q2, hp_wi_ne (by decide), a1.r (by decide)], ?_⟩
          · rcases z with z | ⟨t, t1, t2, t3, t4⟩
            · exact ⟨c, Nat.le_refl _, hcr, hyes, z⟩
            · exact ⟨t, by omega, t2, t3, t4⟩
          · obtain ⟨t, t1, t2, t3, t4⟩ := z
            rcases hsp t t1 t2 with g | g
            · subst g
              exact Or.inl t4
            · exact Or.inr ⟨t, g, t2, t3, t4⟩
          · unfold g285_144 g285_181
            rw [if_neg hpos, m_pc hN, lf_ci_r, if_neg (fun z => z (by rw [cp])), o72, a4, lf_ci_r, if_pos ck, if_neg (by decide), r72_74, eo, b116 (by omega), est]
            exact q3
        · have hno : ¬ NxS f n (nI v) (nI c) k := fun z => by
            have := mt_vc z.2.2.2 a3
            omega
          obtain ⟨τ, q1, q2, q3⟩ := ih ((c - 1) &&& r0) u τ1 (by omega) (by omega) hsub (by rw [a1.f List.not_mem_nil]; exact e) (fun j hj => by rw [a1.r (by decide)]; exact ef j hj)
          refine ⟨τ, ((Wf.of a1').tr q1).cg (fun j _ => ?_), by rw [q2, a1.r (by decide)], ?_⟩
          · rw [← hne hno j]
            exact ⟨fun z => z.resolve_left id, Or.inr⟩
          · unfold g285_144 g285_181
            rw [if_neg hpos, m_pc hN, lf_ci_r, if_neg (fun z => z (by rw [cp])), o72, a4, lf_ci_r, if_neg ck, if_pos rfl, est]
            exact q3
      · have hno : ¬ NxS f n (nI v) (nI c) k := fun z => cp z.2.2.1
        obtain ⟨τ, q1, q2, q3⟩ := ih ((c - 1) &&& r0) u σ (by omega) (by omega) hsub e ef
        refine ⟨τ, q1.cg (fun j _ => hne hno j), q2, ?_⟩
        unfold g285_144 g285_181
        rw [if_neg hpos, m_pc hN, lf_ci_r, if_pos (by rw [q_eq (by omega) (by omega)]; exact cp), est]
        exact q3
/-- all that is known tells -/
theorem m_s95 {x3 : Int32} {a : Nat} {k74 : Nat → Int32 → lf_W → lf_R} (hn1 : 1 ≤ n) (hn : n ≤ 10) (ha : a + 1 = 2 ^ n) (hN : iv_N N) (σ0 : hp_S) (h01 : ∀ j, j ≤ a → σ0.1 115 j = 0 ∨ σ0.1 115 j = 1) (hal : σ0.1 115 a = 0) : ∀ (v u : Nat) (σ : hp_S), v ≤ a → v < u → (∀ j, j ≤ v → σ.1 115 j = σ0.1 115 j) → σ.2.2.1 72 4 = nI n → (∀ j, j < 24 → σ.1 76 j = f j) → ∃ τ, Wf σ τ (fun j => ∃ k, 1 ≤ k ∧ k ≤ v ∧ σ0.1 115 k = 1 ∧ NxM f n (nI k) (nI j)) ∧ g285_95 N k74 u 72 x3 (nI v) (hp σ, cs) = g285_202 N k74 N 72 x3 0 (hp τ, cs) := by
  have h10 : 2 ^ n ≤ 2 ^ 10 := Nat.pow_le_pow_right (by omega) hn
  have ea : al n = nI a := by
    rw [al_nI (by omega), show a = 2 ^ n - 1 by omega]
  intro v
  induction v with
  | zero =>
    intro u σ hv hu hk e ef
    obtain ⟨u, rfl⟩ : ∃ q, u = q + 1 := ⟨u - 1, by omega⟩
    refine ⟨σ, (Wf.of fr.rf).cg (fun j _ => ⟨fun z => z.elim, fun ⟨k, k1, k2, _⟩ => by omega⟩), ?_⟩
    unfold g285_95
    rw [if_pos (show nI 0 ≤ 0 from nI_le (b := 0) (by omega) (by omega))]
  | succ v ih =>
    intro u σ hv hu hk e ef
    obtain ⟨u, rfl⟩ : ∃ q, u = q + 1 := ⟨u - 1, by omega⟩
    have hpos : ¬ nI (v + 1) ≤ 0 := nI_nle (by omega) (by omega)
    have hm1 : nI (v + 1) + (-1) = nI v := by
      rw [show nI (v + 1) + (-1) = nI (v + 1) - 1 from (Int32.sub_eq_add_neg _ _).symm]
      exact pk_sub (b := 1) (by omega)
    have hkv := hk (v + 1) (Nat.le_refl _)
    rcases h01 (v + 1) hv with c | c
    · obtain ⟨τ, q1, q2⟩ := ih u σ (by omega) (by omega) (fun j hj => hk j (by omega)) e ef
      refine ⟨τ, q1.cg (fun j _ => ⟨fun ⟨k, k1, k2, k3, k4⟩ => ⟨k, k1, by omega, k3, k4⟩, fun ⟨k, k1, k2, k3, k4⟩ => ⟨k, k1, ?_, k3, k4⟩⟩), ?_⟩
      · rcases Nat.lt_or_ge v k with g | g
        · have : k = v + 1 := by omega
          subst this
          rw [c] at k3
          exact absurd k3 (by decide)
        · exact g
      · unfold g285_95 g285_193
        rw [if_neg hpos, r72_73, a115 (by omega), hkv, c, if_neg (fun z => z rfl), hm1]
        exact q2
    · have hva : v + 1 ≠ a := fun g => by
        rw [g, hal] at c
        exact absurd c (by decide)
      obtain ⟨τ1, k, a1, a2, a3, a4⟩ := m_told (N := N) (cs := cs) (n := n) (f := f) (K := nI (v + 1)) (σ := hp_wi σ 115 (v + 1) 0) (by omega) hN e (fun j hj => by rw [hp_wi_ne (by decide)]; exact ef j hj)
      have w1 : fr [110, 111, 112, 113, 115] [] σ τ1 := (fr.wi (by decide)).tr (a1.wk (fun _ z => by simp at z; rcases z with z | z | z | z <;> simp [z]) (fun _ z => z))
      have e1 : τ1.2.2.1 72 4 = nI n := by rw [w1.f List.not_mem_nil]; exact e
      have hk24 : k ≤ 24 := by
        refine mt_vc a2 ⟨fun _ => true, fun _ => false, ?_, fun _ _ _ _ _ => Or.inl rfl⟩
        have z1 : sm (fun x => if (fun _ : Nat => true) x = true then 1 else 0) 24 = 24 := rfl
        have z2 : sm (fun y => if (fun _ : Nat => false) y = true then 1 else 0) 24 = 0 := rfl
        rw [z1, z2]
        omega
      have hro : tkO n (al n &&& (nI (v + 1) ^^^ (-1))) := fun i hi => (al_in (by omega)).mp (b_andn.mp hi).1
      obtain ⟨r0, r1, r2⟩ := tk_ix hn hro
      have hdis : ∀ i, bt (nI r0) i = true → ¬ bt (nI (v + 1)) i = true := fun i hi => by
        rw [← r2] at hi
        exact (b_andn.mp hi).2
      obtain ⟨τ2, b1, b2, b3⟩ := m_s144 (N := N) (cs := cs) (n := n) (f := f) (x3 := x3) (v := v + 1) (k := k) (r0 := r0) (k74 := k74) (k95 := g285_95 N k74 u) hn hN (by omega) (by omega) r1 hdis r0 r0 N τ1 (Nat.le_refl _) (by unfold iv_N at hN; omega) (Nat.and_self _) e1 (fun j hj => by rw [w1.r (by decide)]; exact ef j hj)
      have w2 : fr [110, 111, 112, 113, 115, 116] [] σ τ2 := (w1.wk (fun _ z => by simp at z; rcases z with z | z | z | z | z <;> simp [z]) (fun _ z => z)).tr b1.1
      obtain ⟨τ, q1, q2⟩ := ih u τ2 (by omega) (by omega) (fun j hj => by rw [b2, a1.r (by decide), hp_wi_nj (by omega)]; exact hk j (by omega)) (by rw [w2.f List.not_mem_nil]; exact e) (fun j hj => by rw [w2.r (by decide)]; exact ef j hj)
      refine ⟨τ, (((Wf.of w1).tr b1).tr q1).cg (fun j _ => ⟨fun z => ?_, fun z => ?_⟩), ?_⟩
      · rcases z with (z | ⟨t, t1, t2, t3, t4⟩) | ⟨k, k1, k2, k3, k4⟩
        · exact z.elim
        · refine ⟨v + 1, by omega, Nat.le_refl _, c, Or.inr ⟨fun g => ?_, nI t, k, a2, a3, t3, t4⟩⟩
          rw [ea, q_eq (by omega) (by omega)] at g
          exact hva g
        · exact ⟨k, k1, by omega, k3, k4⟩
      · obtain ⟨k2, k21, k22, k23, k24⟩ := z
        rcases Nat.lt_or_ge v k2 with g | g
        · have : k2 = v + 1 := by omega
          subst this
          rcases k24 with ⟨g1, -⟩ | ⟨-, s, kk, m1, m2, m3, m4⟩
          · rw [ea, q_eq (by omega) (by omega)] at g1
            exact absurd g1 hva
          · have ekk : kk = k := Nat.le_antisymm (mt_vc m1 a3) (mt_vc a2 m2)
            subst ekk
            have hso : tkO n s := fun i hi => (m3.2.1 i hi).1
            obtain ⟨t, t1, t2⟩ := tk_ix hn hso
            subst t2
            have htr : t &&& r0 = t := by
              have : nI (t &&& r0) = nI t := by
                rw [← fa_and, ← r2]
                exact b_eq (fun i => ⟨fun z => (b_and_iff.mp z).1, fun z => b_and_iff.mpr ⟨z, b_andn.mpr ⟨(al_in (by omega)).mpr (m3.2.1 i z).1, (m3.2.1 i z).2⟩⟩⟩)
              rw [q_eq (by have : t &&& r0 ≤ t := Nat.and_le_left; omega) (by omega)] at this
              exact this
            exact Or.inl (Or.inr ⟨t, by rw [← htr]; exact Nat.and_le_right, htr, m3, m4⟩)
        · exact Or.inr ⟨k2, k21, g, k23, k24⟩
      · unfold g285_95
        rw [if_neg hpos, r72_73, a115 (by omega), hkv, c, if_pos (by decide), r72_73, b115 (by omega), o72]
        rw [show f284 N 72 (nI (v + 1)) (hp (hp_wi σ 115 (v + 1) (vp_nar .boolean 0)), cs) = _ from a4, lf_ci_r, o72, m_all e1, lf_ci_r]
        rw [show lf_shl 1 (nI n) - 1 &&& (nI (v + 1) ^^^ (-1)) = nI r0 from r2, b3]
        unfold g285_193
        rw [hm1]
        exact q2
theorem m_k202z {x3 : Int32} {k74 : Nat → Int32 → lf_W → lf_R} : ∀ (m v u : Nat) (σ : hp_S), v + m = 1024 → m < u → (∀ j, j < 1024 → σ.1 116 j = 0 ∨ σ.1 116 j = 1) → ∃ τ, fr [115, 116] [] σ τ ∧ (∀ j, j < 1024 → τ.1 115 j = if v ≤ j then σ.1 116 j else σ.1 115 j) ∧ (∀ j, j < 1024 → τ.1 116 j = if v ≤ j then 0 else σ.1 116 j) ∧ (∀ j, 1024 ≤ j → τ.1 116 j = σ.1 116 j) ∧ g285_202 N k74 u 72 x3 (nI v) (hp σ, cs) = k74 72 x3 (hp τ, cs) := by
  intro m
  induction m with
  | zero =>
    intro v u σ hv hu h01
    obtain ⟨u, rfl⟩ : ∃ q, u = q + 1 := ⟨u - 1, by omega⟩
    refine ⟨σ, fr.rf, fun j hj => by rw [if_neg (by omega)], fun j hj => by rw [if_neg (by omega)], fun _ _ => rfl, ?_⟩
    unfold g285_202
    rw [if_pos (show (1024 : Int32) ≤ nI v from nI_le (a := 1024) (by omega) (by omega))]
  | succ m ih =>
    intro v u σ hv hu h01
    obtain ⟨u, rfl⟩ : ∃ q, u = q + 1 := ⟨u - 1, by omega⟩
    obtain ⟨τ, q1, q2, q3, q5, q4⟩ := ih (v + 1) u (hp_wi (hp_wi σ 115 v (σ.1 116 v)) 116 v 0) (by omega) (by omega) (fun j hj => by
      by_cases c : j = v
      · rw [c, hp_wi_at]; exact Or.inl rfl
      · rw [hp_wi_nj c, hp_wi_ne (by decide)]; exact h01 j hj)
    refine ⟨τ, ((fr.wi (by decide)).tr (fr.wi (by decide))).tr q1, fun j hj => ?_, fun j hj => ?_, fun j hj => ?_, ?_⟩
    · rw [q2 j hj, hp_wi_ne (a := 116) (b := 115) (by decide)]
      by_cases c : j = v
      · rw [c, if_neg (by omega), if_pos (by omega), hp_wi_at]
      · rw [hp_wi_nj (a := 116) c, hp_wi_ne (by decide), hp_wi_nj c]
        by_cases d : v ≤ j
        · rw [if_pos d, if_pos (by omega)]
        · rw [if_neg d, if_neg (by omega)]
    · rw [q3 j hj]
      by_cases c : j = v
      · rw [c, if_neg (by omega), if_pos (by omega), hp_wi_at]
      · rw [hp_wi_nj c, hp_wi_ne (by decide)]
        by_cases d : v ≤ j
        · rw [if_pos d, if_pos (by omega)]
        · rw [if_neg d, if_neg (by omega)]
    · rw [q5 j hj, hp_wi_nj (by omega), hp_wi_ne (by decide)]
    · have en : vp_nar .boolean (σ.1 116 v) = σ.1 116 v := by
        rcases h01 v (by omega) with h | h
        · rw [h]; rfl
        · rw [h]; rfl
      unfold g285_202
      rw [if_neg (show ¬ (1024 : Int32) ≤ nI v from nI_ge (b := 1024) (by omega) (by omega)), r72_73, r72_74, a116 (by omega), b115 (by omega), r72_74, b116 (by omega), nI_1, en]
      exact q4
/-- the rounds -/
theorem m_s74 {a R : Nat} {x0 : Int32} (hn1 : 1 ≤ n) (hn : n ≤ 10) (ha : a + 1 = 2 ^ n) (hx : tkO n x0) (hx0 : ¬ x0 = 0) (hN : iv_N N) (hR : R ≤ 9) (hR1 : RE (NxM f n) x0 R (nI a)) (hR2 : ∀ t, t < R → ¬ RE (NxM f n) x0 t (nI a)) : ∀ (m r u : Nat) (σ : hp_S), r + m = R → m < u → σ.2.2.1 72 4 = nI n → (∀ j, j < 24 → σ.1 76 j = f j) → (∀ j, σ.1 116 j = 0) → (∀ j, j < 1024 → (RE (NxM f n) x0 r (nI j) → σ.1 115 j = 1) ∧ (¬ RE (NxM f n) x0 r (nI j) → σ.1 115 j = 0)) → ∃ τ, fr [110, 111, 112, 113, 115, 116] [] σ τ ∧ (∀ j, τ.1 116 j = 0) ∧ g285_74 N u 72 (nI r) (hp σ, cs) = some (.inl (some (.int (nI R))), (hp τ, cs)) := by
  have h10 : 2 ^ n ≤ 2 ^ 10 := Nat.pow_le_pow_right (by omega) hn
  have ea : lf_shl 1 (nI n) - 1 = nI a := by
    rw [show lf_shl 1 (nI n) - 1 = al n from rfl, al_nI (by omega), show a = 2 ^ n - 1 by omega]
  intro m
  induction m with
  | zero =>
    intro r u σ hm hu e ef h6 h5
    obtain ⟨u, rfl⟩ : ∃ q, u = q + 1 := ⟨u - 1, by omega⟩
    have : r = R := by omega
    subst this
    refine ⟨σ, fr.rf, h6, ?_⟩
    unfold g285_74
    rw [r72_73, o72, m_all e, lf_ci_r, ea, a115 (by omega), (h5 a (by omega)).1 hR1, if_pos (by decide)]
  | succ m ih =>
    intro r u σ hm hu e ef h6 h5
    obtain ⟨u, rfl⟩ : ∃ q, u = q + 1 := ⟨u - 1, by omega⟩
    have ha0 : σ.1 115 a = 0 := (h5 a (by omega)).2 (hR2 r (by omega))
    have h01 : ∀ j, j < 1024 → σ.1 115 j = 0 ∨ σ.1 115 j = 1 := fun j hj => by
      by_cases c : RE (NxM f n) x0 r (nI j)
      · exact Or.inr ((h5 j hj).1 c)
      · exact Or.inl ((h5 j hj).2 c)
    obtain ⟨τ1, b1, b2⟩ := m_s95 (N := N) (cs := cs) (n := n) (f := f) (x3 := nI (r + 1)) (a := a) (k74 := g285_74 N u) hn1 hn ha hN σ (fun j hj => h01 j (by omega)) ha0 a N σ (Nat.le_refl _) (by unfold iv_N at hN; omega) (fun _ _ => rfl) e ef
    have h01' : ∀ j, j < 1024 → τ1.1 116 j = 0 ∨ τ1.1 116 j = 1 := fun j hj => by
      by_cases c : ∃ k, 1 ≤ k ∧ k ≤ a ∧ σ.1 115 k = 1 ∧ NxM f n (nI k) (nI j)
      · exact Or.inr ((b1.2.1 j hj).1 c)
      · exact Or.inl (((b1.2.1 j hj).2 c).trans (h6 j))
    obtain ⟨τ2, c1, c2, c3, c4, c5⟩ := m_k202z (N := N) (cs := cs) (x3 := nI (r + 1)) (k74 := g285_74 N u) 1024 0 N τ1 (by omega) (by unfold iv_N at hN; omega) h01'
    have w2 : fr [110, 111, 112, 113, 115, 116] [] σ τ2 := b1.1.tr (c1.wk (fun _ z => by simp at z; rcases z with z | z <;> simp [z]) (fun _ z => z))
    have hiff : ∀ j, j < 1024 → ((∃ k, 1 ≤ k ∧ k ≤ a ∧ σ.1 115 k = 1 ∧ NxM f n (nI k) (nI j)) ↔ RE (NxM f n) x0 (r + 1) (nI j)) := by
      intro j hj
      constructor
      · rintro ⟨k, k1, k2, k3, k4⟩
        refine ⟨nI k, ?_, k4⟩
        apply Classical.byContradiction
        intro z
        rw [(h5 k (by omega)).2 z] at k3
        exact absurd k3 (by decide)
      · rintro ⟨x, x1, x2⟩
        obtain ⟨o1, o2⟩ := RE_ok (NxM_1 (f := f)) hx hx0 r x x1
        obtain ⟨k, hk, ek⟩ := tk_ix hn o1
        subst ek
        have hk1 : 1 ≤ k := by
          rcases Nat.eq_zero_or_pos k with z | z
          · subst z
            exact absurd rfl o2
          · exact z
        exact ⟨k, hk1, by omega, (h5 k (by omega)).1 x1, x2⟩
    obtain ⟨τ, q1, q2, q3⟩ := ih (r + 1) u τ2 (by omega) (by omega) (by rw [w2.f List.not_mem_nil]; exact e) (fun j hj => by rw [w2.r (by decide)]; exact ef j hj) (fun j => by
      rcases Nat.lt_or_ge j 1024 with g | g
      · rw [c3 j g, if_pos (Nat.zero_le _)]
      · rw [c4 j g, b1.2.2 j g]
        exact h6 j) (fun j hj => by
      rw [c2 j hj, if_pos (Nat.zero_le _)]
      exact ⟨fun z => (b1.2.1 j hj).1 ((hiff j hj).mpr z), fun z => ((b1.2.1 j hj).2 (fun y => z ((hiff j hj).mp y))).trans (h6 j)⟩)
    refine ⟨τ, w2.tr q1, q2, ?_⟩
    unfold g285_74
    rw [r72_73, o72, m_all e, lf_ci_r, ea, a115 (by omega), ha0, if_neg (fun z => z rfl), o72, m_all e, lf_ci_r, ea, nI_1, b2]
    rw [show g285_202 N (g285_74 N u) N 72 (nI (r + 1)) 0 (hp τ1, cs) = _ from c5]
    exact q3
/-- rounds till all know -/
theorem m_tell {R kn : Nat} (hn1 : 1 ≤ n) (hn : n ≤ 10) (hkn : kn < n) (hN : iv_N N) (hR : R ≤ 9) (hR1 : RE (NxM f n) (lf_shl 1 (nI kn)) R (al n)) (hR2 : ∀ t, t < R → ¬ RE (NxM f n) (lf_shl 1 (nI kn)) t (al n)) (e : σ.2.2.1 72 4 = nI n) (ef : ∀ j, j < 24 → σ.1 76 j = f j) (h6 : ∀ j, σ.1 116 j = 0) : ∃ τ, fr [110, 111, 112, 113, 115, 116] [] σ τ ∧ (∀ j, τ.1 116 j = 0) ∧ g285_43 N N 72 (nI kn) 0 (hp σ, cs) = some (.inl (some (.int (nI R))), (hp τ, cs)) := by
  have h10 : 2 ^ n ≤ 2 ^ 10 := Nat.pow_le_pow_right (by omega) hn
  have h1 : 1 ≤ 2 ^ n := Nat.one_le_two_pow
  have ea := al_nI (n := n) (by omega)
  have hkp : 2 ^ kn < 2 ^ n := Nat.pow_lt_pow_right (by omega) hkn
  have ek : lf_shl 1 (nI kn) = nI (2 ^ kn) := shl_nI (by omega)
  have hx : tkO n (lf_shl 1 (nI kn)) := fun v hv => by rw [(b_one (by omega)).mp hv]; exact hkn
  have hx0 : ¬ lf_shl 1 (nI kn) = 0 := fun z => b_nothing.mp z kn ((b_one (by omega)).mpr rfl)
  obtain ⟨σ1, a1, a2, a3⟩ := m_k43 (N := N) (cs := cs) (x2 := nI kn) 1024 0 N σ (by omega) (by unfold iv_N at hN; omega)
  have w1 : fr [110, 111, 112, 113, 115, 116] [] σ (hp_wi σ1 115 (2 ^ kn) 1) := (a1.wk (fun _ z => by simp at z; simp [z]) (fun _ z => z)).tr (fr.wi (by decide))
  obtain ⟨τ, q1, q2, q3⟩ := m_s74 (N := N) (cs := cs) (f := f) (a := 2 ^ n - 1) (x0 := lf_shl 1 (nI kn)) hn1 hn (by omega) hx hx0 hN hR (by rw [← ea]; exact hR1) (by rw [← ea]; exact hR2) R 0 N (hp_wi σ1 115 (2 ^ kn) 1) (by omega) (by unfold iv_N at hN; omega) (by rw [w1.f List.not_mem_nil]; exact e) (fun j hj => by rw [w1.r (by decide)]; exact ef j hj) (fun j => by rw [hp_wi_ne (by decide), a1.r (by decide)]; exact h6 j) (fun j hj => by
    constructor
    · intro z
      have z : nI j = lf_shl 1 (nI kn) := z
      rw [ek, q_eq (by omega) (by omega)] at z
      rw [z, hp_wi_at]
    · intro z
      have z : ¬ j = 2 ^ kn := fun g => z (by show nI j = lf_shl 1 (nI kn); rw [ek, g])
      rw [hp_wi_nj z, a2 j hj, if_pos (Nat.zero_le _)])
  refine ⟨τ, w1.tr q1, q2, ?_⟩
  rw [show g285_43 N N 72 (nI kn) 0 (hp σ, cs) = _ from a3, r72_73, ek, b115 (by omega)]
  exact q3
end TM3
