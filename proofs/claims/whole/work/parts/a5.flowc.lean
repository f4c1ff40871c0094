/-! the class's search -/
section FC
variable {cs : Nat × Nat} {N n a b P : Nat} {V : Nat → Prop} {ρ : Nat → Nat → Nat} {f : Nat → Int32}
theorem filter_more {p p' : Nat → Bool} {P : Nat} : ∀ (m : Nat), (∀ i, i < P → p i = p' i) → (∀ i, P ≤ i → i < P + m → p i = false) → (List.range (P + m)).filter p = (List.range P).filter p'
  | 0, h1, _ => by
    rw [Nat.add_zero]
    exact List.filter_congr (fun i hi => h1 i (List.mem_range.mp hi))
  | m + 1, h1, h2 => by
    rw [← Nat.add_assoc, List.range_succ, List.filter_append, filter_more m h1 (fun i a1 a2 => h2 i a1 (by omega))]
    have : p (P + m) = false := h2 _ (by omega) (by omega)
    simp [this]
def OP (σ : hp_S) (V : Nat → Prop) (ρ : Nat → Nat → Nat) : Prop := ∀ u, V u → ∀ v, bq (σ.2.1 34 u) v = true ↔ ρ u v ≠ 0
def CV (P : Nat) (V : Nat → Prop) (ρ : Nat → Nat → Nat) : Prop := (∀ u, V u → u < P) ∧ ∀ u v, ρ u v ≠ 0 → V u ∧ V v
def FR (σ : hp_S) (a : Nat) (s : qS) : Prop := (∀ j, j < s.k → σ.1 36 j = nI (s.q j)) ∧ ∀ v, v < 48 → v ≠ a → s.fm v ≠ 99 → σ.1 35 v = nI (s.fm v)
theorem app_k {u : Nat} : ∀ (l : List Nat) (s : qS), (app u l s).k = s.k + l.length
  | [], s => rfl
  | v :: l, s => by
    show (app u l (s.put u v)).k = _
    rw [app_k l]
    show s.k + 1 + l.length = s.k + (l.length + 1)
    omega
theorem c_ex {k17 : Nat → Int32 → Int64 → Int32 → Int32 → lf_W → lf_R} {x3 : Int64} {i w : Nat} : ∀ (l : List Nat) (u : Nat) (x : Int64) (s : qS) (σ : hp_S), bl6 x = l → l.length < u → (∀ v, v ∈ l → v < 48 ∧ v ≠ a) → s.k + l.length ≤ 48 → FR σ a s → ∃ τ, fr [35, 36] [] σ τ ∧ FR τ a (app w l s) ∧ g32_63 N k17 u 33 (nI b) x3 (nI s.k) (nI i) (nI w) x (hp σ, cs) = k17 33 (nI b) x3 (nI (app w l s).k) (nI (i + 1)) (hp τ, cs) := by
  intro l
  induction l with
  | nil =>
    intro u x s σ hl hu hv hk hF
    obtain ⟨u, rfl⟩ : ∃ q, u = q + 1 := ⟨u - 1, by omega⟩
    have hx0 : x = 0 := by
      apply Classical.byContradiction
      intro q
      obtain ⟨l, -, -, -, e, -⟩ := bl6_low q
      rw [e] at hl
      cases hl
    refine ⟨σ, fr.rf, hF, ?_⟩
    unfold g32_63 g32_123
    rw [if_pos (lg_cmp_0.mpr hx0), nI_1]
    rfl
  | cons v l ih =>
    intro u x s σ hl hu hv hk hF
    obtain ⟨u, rfl⟩ : ∃ q, u = q + 1 := ⟨u - 1, by rw [List.length_cons] at hu; omega⟩
    rw [List.length_cons] at hu hk
    have hx0 : ¬ x = 0 := by
      intro q
      rw [q, bl6_0] at hl
      cases hl
    obtain ⟨l', l1, l2, l3, e, el⟩ := bl6_low hx0
    rw [e] at hl
    obtain ⟨e1, e2⟩ := List.cons.inj hl
    subst e1
    obtain ⟨v1, v2⟩ := hv l' List.mem_cons_self
    obtain ⟨τ, q1, q2, q3⟩ := ih u (x &&& (x - 1)) (s.put w l') (hp_wi (hp_wi σ 35 l' (nI w)) 36 s.k (nI l')) e2 (by omega) (fun v hv' => hv v (List.mem_cons_of_mem _ hv')) (by show s.k + 1 + l.length ≤ 48; omega) ⟨fun j hj => by
        have hj' : j < s.k + 1 := hj
        show _ = nI (qup s.q s.k l' j)
        by_cases c : j = s.k
        · rw [c, hp_wi_at, qup_at]
        · rw [hp_wi_nj c, qup_ne c, hp_wi_ne (by decide)]; exact hF.1 j (by omega), fun y hy hya hyf => by
        rw [hp_wi_ne (by decide)]
        have hyf' : (if y = l' then w else s.fm y) ≠ 99 := hyf
        show _ = nI (if y = l' then w else s.fm y)
        by_cases c : y = l'
        · rw [c, hp_wi_at, if_pos rfl]
        · rw [if_neg c] at hyf'
          rw [hp_wi_nj c, if_neg c]; exact hF.2 y hy hya hyf'⟩
    refine ⟨τ, (fr.wi (by decide)).tr ((fr.wi (by decide)).tr q1), q2, ?_⟩
    unfold g32_63
    rw [if_neg (fun q => hx0 (lg_cmp_0.mp q)), if_neg (show ¬ (48 : Int32) ≤ nI s.k from nI_ge (b := 48) (by omega) (by omega)), el, lf_ci_r, r33_1, b35 v1, r33_2, b36 (by omega), nI_1]
    exact q3
theorem c_bf (hP : P ≤ 48) (hN : iv_N N) (hb : b < P) (hC : CV P V ρ) : ∀ (m i u : Nat) (s : qS) (x3 : Int64) (σ : hp_S), i + m = 48 → m < u → i ≤ s.k → BI (eR ρ) P a s → (∀ j, j < s.k → V (s.q j)) → OP σ V ρ → FR σ a s → (∀ v, bq x3 v = true ↔ v < P ∧ s.fm v ≠ 99) → ∃ τ, fr [35, 36] [] σ τ ∧ FR τ a (bfs (eR ρ) P b m i s) ∧ (∀ j, j < (bfs (eR ρ) P b m i s).k → V ((bfs (eR ρ) P b m i s).q j)) ∧ g32_17 N u 33 (nI b) x3 (nI s.k) (nI i) (hp σ, cs) = some (.inl (some (.int (if (bfs (eR ρ) P b m i s).fm b = 99 then 0 else 1))), (hp τ, cs)) := by
  have fin : ∀ (s : qS) (x3 : Int64) (σ : hp_S), (∀ v, bq x3 v = true ↔ v < P ∧ s.fm v ≠ 99) → g32_129 N (nI b) x3 (hp σ, cs) = some (.inl (some (.int (if s.fm b = 99 then 0 else 1))), (hp σ, cs)) := by
    intro s x3 σ h
    unfold g32_129
    by_cases c : s.fm b = 99
    · rw [if_pos c, if_pos (by
        rw [u_tst (by omega)]
        cases d : bq x3 b with
        | false => rfl
        | true => exact absurd c ((h b).mp d).2)]
    · rw [if_neg c, if_neg (by rw [u_tst (by omega), (h b).mpr ⟨hb, c⟩]; decide)]
  intro m
  induction m with
  | zero =>
    intro i u s x3 σ hi hu hik hI hV hO hF hx
    obtain ⟨u, rfl⟩ : ∃ q, u = q + 1 := ⟨u - 1, by omega⟩
    have := hI.le
    refine ⟨σ, fr.rf, hF, hV, ?_⟩
    unfold g32_17
    rw [if_pos (nI_le (by omega) (by omega))]
    exact fin s x3 σ hx
  | succ m ih =>
    intro i u s x3 σ hi hu hik hI hV hO hF hx
    obtain ⟨u, rfl⟩ : ∃ q, u = q + 1 := ⟨u - 1, by omega⟩
    have hle := hI.le
    have e0 : bfs (eR ρ) P b (m + 1) i s = if i < s.k ∧ s.fm b = 99 then bfs (eR ρ) P b m (i + 1) (app (s.q i) (nw (eR ρ) P s (s.q i)) s) else s := rfl
    by_cases c1 : i < s.k
    · by_cases c2 : s.fm b = 99
      · have hq := hI.lt i c1
        have hVq := hV i c1
        rw [e0, if_pos ⟨c1, c2⟩]
        have hfresh : ∀ v, bq (σ.2.1 34 (s.q i) &&& (x3 ^^^ (-1))) v = (eR ρ (s.q i) v && decide (s.fm v = 99)) := by
          intro v
          rw [Bool.eq_iff_iff, u_andn, hO _ hVq, hx, Bool.and_eq_true, decide_eq_true_iff]
          show _ ↔ decide (ρ (s.q i) v ≠ 0) = true ∧ _
          rw [decide_eq_true_iff]
          constructor
          · rintro ⟨h1, h2⟩
            refine ⟨h1, ?_⟩
            apply Classical.byContradiction
            intro h3
            exact h2 ⟨hC.1 v (hC.2 _ _ h1).2, h3⟩
          · rintro ⟨h1, h2⟩
            exact ⟨h1, fun h3 => h3.2 h2⟩
        have hl : bl6 (σ.2.1 34 (s.q i) &&& (x3 ^^^ (-1))) = nw (eR ρ) P s (s.q i) := by
          unfold bl6 nw
          have := filter_more (p := fun v => bq (σ.2.1 34 (s.q i) &&& (x3 ^^^ (-1))) v) (p' := fun v => eR ρ (s.q i) v && decide (s.fm v = 99)) (P := P) (64 - P) (fun v _ => hfresh v) (fun v h1 _ => by
            rw [hfresh v]
            have : eR ρ (s.q i) v = false := by
              unfold eR
              apply decide_eq_false
              intro h2
              have := hC.1 v (hC.2 _ _ h2).2
              omega
            rw [this, Bool.false_and])
          rw [show P + (64 - P) = 64 by omega] at this
          exact this
        obtain ⟨r1, r2, r3, r4⟩ := app_bi hP (i := i) (nw (eR ρ) P s (s.q i)) s hI c1 nw_nodup (fun v hv => by
          obtain ⟨a1, a2, a3⟩ := nw_mem.mp hv
          exact ⟨a1, a3, a2⟩)
        have hk2 := app_k (u := s.q i) (nw (eR ρ) P s (s.q i)) s
        have hle2 := r1.le
        have hva : ∀ v, v ∈ nw (eR ρ) P s (s.q i) → v < 48 ∧ v ≠ a := fun v hv => by
          obtain ⟨a1, a2, a3⟩ := nw_mem.mp hv
          refine ⟨by omega, fun q => ?_⟩
          rw [q, hI.fa] at a3
          have := hI.lt 0 hI.k1
          rw [hI.q0] at this
          omega
        obtain ⟨τ, q1, q2, q3⟩ := c_ex (N := N) (cs := cs) (a := a) (b := b) (k17 := g32_17 N u) (x3 := x3 ||| (σ.2.1 34 (s.q i) &&& (x3 ^^^ (-1)))) (i := i) (w := s.q i) _ N _ s σ hl (by unfold iv_N at hN; omega) hva (by omega) hF
        have hV2 : ∀ j, j < (app (s.q i) (nw (eR ρ) P s (s.q i)) s).k → V ((app (s.q i) (nw (eR ρ) P s (s.q i)) s).q j) := by
          intro j hj
          by_cases c : j < s.k
          · rw [r3 j c]; exact hV j c
          · obtain ⟨i', -, -, e⟩ := r1.par j (by have := hI.k1; omega) hj
            exact (hC.2 _ _ (of_decide_eq_true e)).2
        obtain ⟨υ, p1, p2, p3, p4⟩ := ih (i + 1) u _ (x3 ||| (σ.2.1 34 (s.q i) &&& (x3 ^^^ (-1)))) τ (by omega) (by omega) (by omega) r1 hV2 (fun v hv w => by rw [q1.l (by decide)]; exact hO v hv w) q2 (fun v => by
          rw [u_or_iff, hx, hfresh v, Bool.and_eq_true, decide_eq_true_iff, r4 v]
          by_cases c : v ∈ nw (eR ρ) P s (s.q i)
          · rw [if_pos c]
            have h3 := nw_mem.mp c
            exact ⟨fun _ => ⟨h3.1, by omega⟩, fun _ => Or.inr h3.2⟩
          · rw [if_neg c]
            constructor
            · rintro (h | h)
              · exact h
              · exact absurd (nw_mem.mpr ⟨hC.1 v (hC.2 _ _ (of_decide_eq_true h.1)).2, h⟩) c
            · exact Or.inl)
        refine ⟨υ, q1.tr p1, p2, p3, ?_⟩
        unfold g32_17
        rw [if_neg (nI_ge (by omega) (by omega)), if_neg (by
          rw [u_tst (by omega)]
          intro q
          apply q
          cases d : bq x3 b with
          | false => rfl
          | true => exact absurd c2 ((hx b).mp d).2), r33_2, a36 (by omega), hF.1 i c1, r33_0, a34 (by omega), q3]
        exact p4
      · rw [e0, if_neg (fun q => c2 q.2)]
        refine ⟨σ, fr.rf, hF, hV, ?_⟩
        unfold g32_17
        rw [if_neg (nI_ge (by omega) (by omega)), if_pos (by rw [u_tst (by omega), (hx b).mpr ⟨hb, c2⟩]; decide)]
        exact fin s x3 σ hx
    · rw [e0, if_neg (fun q => c1 q.1)]
      refine ⟨σ, fr.rf, hF, hV, ?_⟩
      unfold g32_17
      rw [if_pos (nI_le (by omega) (by omega))]
      exact fin s x3 σ hx
/-- findWay -/
theorem c_fway {σ : hp_S} (hP : P ≤ 48) (hN : iv_N N) (ha : V a) (hb : b < P) (hC : CV P V ρ) (hO : OP σ V ρ) : ∃ τ, fr [35, 36] [] σ τ ∧ FR τ a (bfr (eR ρ) P a b) ∧ (∀ j, j < (bfr (eR ρ) P a b).k → V ((bfr (eR ρ) P a b).q j)) ∧ f32 N 33 (nI a) (nI b) (hp σ, cs) = some (.inl (some (.int (if (bfr (eR ρ) P a b).fm b = 99 then 0 else 1))), (hp τ, cs)) := by
  have haP := hC.1 a ha
  obtain ⟨τ, q1, q2, q3, q4⟩ := c_bf (N := N) (cs := cs) (a := a) (b := b) (V := V) (ρ := ρ) hP hN hb hC 48 0 N (bf0 a) (lf_lshl 1 (nI a)) (hp_wi σ 36 0 (nI a)) rfl (by unfold iv_N at hN; omega) (by omega) (bi_0 hP haP) (fun j hj => ha) hO ⟨fun j hj => by
      have hj' : j < 1 := hj
      rw [show j = 0 by omega, hp_wi_at]
      rfl, fun v hv h1 h2 => by
      have : (if v = a then a else 99) ≠ 99 := h2
      rw [if_neg h1] at this
      exact absurd rfl this⟩ (fun v => by
      rw [u_one (by omega)]
      show _ ↔ v < P ∧ (if v = a then a else 99) ≠ 99
      constructor
      · intro h
        rw [if_pos h]
        exact ⟨by omega, by omega⟩
      · rintro ⟨-, h⟩
        apply Classical.byContradiction
        intro q
        rw [if_neg q] at h
        exact h rfl)
  refine ⟨τ, (fr.wi (by decide)).tr q1, q2, q3, ?_⟩
  unfold f32
  rw [r33_2, show (0 : Int32) = nI 0 from rfl, b36 (by omega)]
  exact q4
/-- the rooms of lines -/
def KL (f : Nat → Int32) (n : Nat) (ρ : Nat → Nat → Nat) : Prop := CV n (fun u => u < n) ρ ∧ ∀ u v, u < n → v < n → ρ u v + ρ v u = if bt (f u) v = true then 2 else 0
theorem CV.up {u x : Nat} (h : CV P V ρ) (hr : ρ u x ≠ 0) : CV P V (up ρ u x) := by
  refine ⟨h.1, fun y z hyz => ?_⟩
  by_cases c1 : y = u ∧ z = x
  · rw [c1.1, c1.2]; exact h.2 u x hr
  · by_cases c2 : y = x ∧ z = u
    · rw [c2.1, c2.2]; exact ⟨(h.2 u x hr).2, (h.2 u x hr).1⟩
    · rw [up_ne c1 c2] at hyz
      exact h.2 y z hyz
theorem KL.up (hw : gw f n) (hn : n ≤ 24) {u x : Nat} (h : KL f n ρ) (hu : u < n) (hx : x < n) (hne : u ≠ x) (hr : ρ u x ≠ 0) : KL f n (up ρ u x) := by
  refine ⟨h.1.up hr, fun y z hy hz => ?_⟩
  rw [← h.2 y z hy hz]
  by_cases c1 : y = u ∧ z = x
  · rw [c1.1, c1.2, up_at hne, up_bk hne]; omega
  · by_cases c2 : y = x ∧ z = u
    · rw [c2.1, c2.2, up_at hne, up_bk hne]; omega
    · rw [up_ne c1 c2, up_ne (fun q => c2 ⟨q.2, q.1⟩) (fun q => c1 ⟨q.2, q.1⟩)]
theorem OPset {σ : hp_S} {x u : Nat} {y : Int64} (hO : OP σ V ρ) (ρ' : Nat → Nat → Nat) (h1 : ∀ v, bq y v = true ↔ ρ' x v ≠ 0) (h2 : ∀ w, V w → w ≠ x → ∀ v, ρ' w v ≠ 0 ↔ ρ w v ≠ 0) : OP (hp_wl σ 34 x y) V ρ' := by
  intro w hw v
  by_cases c : w = x
  · rw [c]
    show bq ((hp_wl σ 34 x y).2.1 34 x) v = true ↔ _
    rw [hp_wl_at]
    exact h1 v
  · rw [hp_wl_nj c, h2 w hw c v]
    exact hO w hw v
/-- sendByLines -/
theorem c_sL {s : qS} (hn : n ≤ 24) (hw : gw f n) (hB : BI (eR ρ) n a s) : ∀ (j u m t : Nat) (ρ' : Nat → Nat → Nat) (σ : hp_S), j < m → j < u → j < s.k → t + j < 48 → KL f n ρ' → OP σ (fun u => u < n) ρ' → FR σ a s → (∀ i' j', i' < j' → j' ≤ j → ρ' (s.q i') (s.q j') = ρ (s.q i') (s.q j')) → ∃ τ, fr [34] [] σ τ ∧ OP τ (fun u => u < n) (snd s.fm a m (s.q j) ρ') ∧ g33_5 N u 33 (nI a) (nI (s.q j)) (nI t) (hp σ, cs) = some (.inl none, (hp τ, cs)) := by
  have ha : a < n := by have := hB.lt 0 hB.k1; rw [hB.q0] at this; exact this
  intro j
  induction j using Nat.strongRecOn with
  | ind j ih =>
    intro u m t ρ' σ hm hu hj ht hK hO hF hρ
    obtain ⟨m, rfl⟩ : ∃ q, m = q + 1 := ⟨m - 1, by omega⟩
    obtain ⟨u, rfl⟩ : ∃ q, u = q + 1 := ⟨u - 1, by omega⟩
    have es : snd s.fm a (m + 1) (s.q j) ρ' = if s.q j = a then ρ' else snd s.fm a m (s.fm (s.q j)) (up ρ' (s.fm (s.q j)) (s.q j)) := rfl
    have hjn := hB.lt j hj
    rw [es]
    unfold g33_5 g33_74
    by_cases c : s.q j = a
    · refine ⟨σ, fr.rf, by rw [if_pos c]; exact hO, ?_⟩
      rw [if_pos (by rw [c])]
    · rw [if_neg c, if_neg (by rw [q_eq (by omega) (by omega)]; exact c)]
      have hj0 : 0 < j := by
        apply Nat.pos_of_ne_zero
        intro q
        rw [q, hB.q0] at c
        exact c rfl
      obtain ⟨i, i1, i2, i3⟩ := hB.par j hj0 hj
      have hin := hB.lt i (by omega)
      have hne : s.q i ≠ s.q j := hB.inj i j i1 hj
      have hnz : ρ' (s.q i) (s.q j) ≠ 0 := by
        rw [hρ i j i1 (Nat.le_refl _)]
        exact of_decide_eq_true i3
      have hfm : s.fm (s.q j) ≠ 99 := by rw [i2]; omega
      have hf := hF.2 (s.q j) (by omega) c hfm
      rw [i2] at hf ⊢
      have hK2 := hK.up hw hn hin hjn hne hnz
      have hsum := hK.2 (s.q i) (s.q j) hin hjn
      have hρ2 : ∀ i' j', i' < j' → j' ≤ i → up ρ' (s.q i) (s.q j) (s.q i') (s.q j') = ρ (s.q i') (s.q j') := fun i' j' h1 h2 => by
        rw [up_ne (fun q => hB.inj j' j (by omega) hj q.2) (fun q => hB.inj i' j (by omega) hj q.1)]
        exact hρ i' j' h1 (by omega)
      have hj2 : ρ' (s.q i) (s.q j) + ρ' (s.q j) (s.q i) = 2 := by
        rw [hsum]
        by_cases d : bt (f (s.q i)) (s.q j) = true
        · rw [if_pos d]
        · rw [if_neg d] at hsum; omega
      by_cases d : bq (σ.2.1 34 (s.q j)) (s.q i) = true
      · have d' := (hO _ hjn (s.q i)).mp d
        have hO2 : OP (hp_wl σ 34 (s.q i) (σ.2.1 34 (s.q i) &&& (lf_lshl 1 (nI (s.q j)) ^^^ (-1)))) (fun u => u < n) (up ρ' (s.q i) (s.q j)) := by
          refine OPset (u := 0) hO _ (fun v => ?_) (fun w hw' hwx v => ?_)
          · rw [u_andn, hO _ hin, u_one (by omega)]
            by_cases g : v = s.q j
            · rw [g, up_at hne]
              exact ⟨fun q => absurd rfl q.2, fun q => by omega⟩
            · rw [up_ne (fun q => g q.2) (fun q => hne q.1)]
              exact ⟨fun q => q.1, fun q => ⟨q, g⟩⟩
          · by_cases g : w = s.q j ∧ v = s.q i
            · rw [g.1, g.2, up_bk hne]
              exact ⟨fun _ => d', fun _ => by omega⟩
            · rw [up_ne (fun q => hwx q.1) g]
        obtain ⟨τ, q1, q2, q3⟩ := ih i i1 u m (t + 1) _ _ (by omega) (by omega) (by omega) (by omega) hK2 hO2 ⟨fun j' h => hF.1 j' h, fun v h1 h2 h3 => hF.2 v h1 h2 h3⟩ hρ2
        refine ⟨τ, (fr.wl (by decide)).tr q1, q2, ?_⟩
        rw [if_neg (show ¬ (48 : Int32) ≤ nI t from nI_ge (b := 48) (by omega) (by omega)), r33_1, a35 (by omega), hf, r33_0, a34 (by omega), if_neg (by rw [u_tst (by omega), d]; decide), r33_0, a34 (by omega), b34 (by omega), nI_1]
        exact q3
      · have d' : ρ' (s.q j) (s.q i) = 0 := by
          apply Classical.byContradiction
          intro q
          exact d ((hO _ hjn (s.q i)).mpr q)
        have hO2 : OP (hp_wl σ 34 (s.q j) (σ.2.1 34 (s.q j) ||| lf_lshl 1 (nI (s.q i)))) (fun u => u < n) (up ρ' (s.q i) (s.q j)) := by
          refine OPset (u := 0) hO _ (fun v => ?_) (fun w hw' hwx v => ?_)
          · rw [u_or_iff, hO _ hjn, u_one (by omega)]
            by_cases g : v = s.q i
            · rw [g, up_bk hne]
              exact ⟨fun _ => by omega, fun _ => Or.inr rfl⟩
            · rw [up_ne (fun q => hne q.1.symm) (fun q => g q.2)]
              exact ⟨fun q => q.resolve_right g, fun q => Or.inl q⟩
          · by_cases g : w = s.q i ∧ v = s.q j
            · rw [g.1, g.2, up_at hne]
              exact ⟨fun _ => hnz, fun _ => by omega⟩
            · rw [up_ne g (fun q => hwx q.1)]
        obtain ⟨τ, q1, q2, q3⟩ := ih i i1 u m (t + 1) _ _ (by omega) (by omega) (by omega) (by omega) hK2 hO2 ⟨fun j' h => hF.1 j' h, fun v h1 h2 h3 => hF.2 v h1 h2 h3⟩ hρ2
        refine ⟨τ, (fr.wl (by decide)).tr q1, q2, ?_⟩
        rw [if_neg (show ¬ (48 : Int32) ≤ nI t from nI_ge (b := 48) (by omega) (by omega)), r33_1, a35 (by omega), hf, r33_0, a34 (by omega), if_pos (by rw [u_tst (by omega)]; cases g : bq (σ.2.1 34 (s.q j)) (s.q i) with | false => rfl | true => exact absurd g d), r33_0, a34 (by omega), b34 (by omega), nI_1]
        exact q3
/-- ways by lines, from where rooms are laid -/
theorem c_wL {L : Nat} (hn : n ≤ 24) (hw : gw f n) (hN : iv_N N) (ha : a < n) (hb : b < n) (hab : a ≠ b) (hL : L ≤ 100) : ∀ (m u w : Nat) (ρ : Nat → Nat → Nat) (σ : hp_S), Ph n (S1 a) ρ ≤ m → m + 1 < u → w ≤ L → w + m ≤ 100 → KL f n ρ → OP σ (fun u => u < n) ρ → ∃ τ, fr [34, 35, 36] [] σ τ ∧ g30_34 N u 33 (nI a) (nI b) (nI L) (nI w) (hp σ, cs) = some (.inl (some (.int (nI (min L (w + fl n a b (m + 1) ρ))))), (hp τ, cs)) := by
  have main : ∀ (m u w : Nat) (ρ : Nat → Nat → Nat) (σ : hp_S), w ≤ L → KL f n ρ → OP σ (fun u => u < n) ρ → (∃ τ, fr [34, 35, 36] [] σ τ ∧ g30_34 N (u + 1) 33 (nI a) (nI b) (nI L) (nI w) (hp σ, cs) = some (.inl (some (.int (nI (min L (w + fl n a b (m + 1) ρ))))), (hp τ, cs))) ∨ (¬ (bfr (eR ρ) n a b).fm b = 99 ∧ w < L ∧ KL f n (snd (bfr (eR ρ) n a b).fm a 49 b ρ) ∧ Ph n (S1 a) (snd (bfr (eR ρ) n a b).fm a 49 b ρ) + 1 = Ph n (S1 a) ρ ∧ ∃ τ, fr [34, 35, 36] [] σ τ ∧ OP τ (fun u => u < n) (snd (bfr (eR ρ) n a b).fm a 49 b ρ) ∧ g30_34 N (u + 1) 33 (nI a) (nI b) (nI L) (nI w) (hp σ, cs) = g30_34 N u 33 (nI a) (nI b) (nI L) (nI (w + 1)) (hp τ, cs)) := by
    intro m u w ρ σ hwL hK hO
    have efl : fl n a b (m + 1) ρ = if (bfr (eR ρ) n a b).fm b = 99 then 0 else 1 + fl n a b m (snd (bfr (eR ρ) n a b).fm a 49 b ρ) := rfl
    by_cases cL : w = L
    · refine Or.inl ⟨σ, fr.rf, ?_⟩
      unfold g30_34
      rw [if_pos (nI_le (by omega) (by omega)), show min L (w + fl n a b (m + 1) ρ) = w by omega]
    · obtain ⟨τ, q1, q2, q3, q4⟩ := c_fway (N := N) (cs := cs) (σ := σ) (a := a) (b := b) (V := fun u => u < n) (ρ := ρ) (by omega) hN ha hb hK.1 hO
      by_cases c : (bfr (eR ρ) n a b).fm b = 99
      · refine Or.inl ⟨τ, q1.wk (fun _ z => by simp at z; rcases z with z | z <;> simp [z]) (fun _ z => z), ?_⟩
        rw [efl, if_pos c, show min L (w + 0) = w by omega]
        rw [if_pos c] at q4
        unfold g30_34
        rw [if_neg (nI_ge (by omega) (by omega)), o33, q4, lf_ci_r, if_pos rfl]
      · obtain ⟨k1, k2⟩ := snd_b (S := S1 a) (K := KL f n) (by omega) ha hb c (fun ρ' u x h1 h2 h3 h4 h5 => h1.up hw hn h2 h3 h4 h5) (decide_eq_true rfl) hK (fun q => hab (of_decide_eq_true q).symm)
        obtain ⟨h1, -⟩ := bfr_bi (E := eR ρ) (b := b) (show n ≤ 48 by omega) ha
        obtain ⟨j, hj, e⟩ := (h1.mem b hb).mp c
        have hle := h1.le
        obtain ⟨υ, p1, p2, p3⟩ := c_sL (N := N) (cs := cs) (ρ := ρ) hn hw h1 j N 49 0 ρ τ (by omega) (by unfold iv_N at hN; omega) hj (by omega) hK (fun x hx v => by rw [q1.l (by decide)]; exact hO x hx v) q2 (fun _ _ _ _ => rfl)
        rw [e] at p2 p3
        refine Or.inr ⟨c, by omega, k1, k2, υ, (q1.wk (fun _ z => by simp at z; rcases z with z | z <;> simp [z]) (fun _ z => z)).tr (p1.wk (fun _ z => by simp at z; simp [z]) (fun _ z => z)), p2, ?_⟩
        rw [if_neg c] at q4
        conv => lhs; unfold g30_34
        rw [if_neg (nI_ge (by omega) (by omega)), o33, q4, lf_ci_r, if_neg (by decide), o33]
        unfold f33
        rw [show (0 : Int32) = nI 0 from rfl, p3, lf_cv_r, nI_1]
  intro m
  induction m with
  | zero =>
    intro u w ρ σ hm hu hwL hwm hK hO
    obtain ⟨u, rfl⟩ : ∃ q, u = q + 1 := ⟨u - 1, by omega⟩
    rcases main 0 u w ρ σ hwL hK hO with h | ⟨-, -, -, h, -⟩
    · exact h
    · omega
  | succ m ih =>
    intro u w ρ σ hm hu hwL hwm hK hO
    obtain ⟨u, rfl⟩ : ∃ q, u = q + 1 := ⟨u - 1, by omega⟩
    rcases main (m + 1) u w ρ σ hwL hK hO with h | ⟨c, h1, h2, h3, τ, h4, h5, h6⟩
    · exact h
    · obtain ⟨υ, p1, p2⟩ := ih u (w + 1) _ τ (by omega) (by omega) (by omega) (by omega) h2 h5
      refine ⟨υ, h4.tr p1, ?_⟩
      have efl : fl n a b (m + 1 + 1) ρ = 1 + fl n a b (m + 1) (snd (bfr (eR ρ) n a b).fm a 49 b ρ) := by
        show (if (bfr (eR ρ) n a b).fm b = 99 then 0 else _) = _
        rw [if_neg c]
      rw [h6, p2, efl, Nat.add_assoc]
def rL (f : Nat → Int32) (n : Nat) : Nat → Nat → Nat := fun u v => if u < n ∧ v < n ∧ bt (f u) v = true then 1 else 0
theorem rL_KL (hn : n ≤ 24) (hw : gw f n) : KL f n (rL f n) := by
  refine ⟨⟨fun _ h => h, fun u v h => ?_⟩, fun u v hu hv => ?_⟩
  · unfold rL at h
    by_cases c : u < n ∧ v < n ∧ bt (f u) v = true
    · exact ⟨c.1, c.2.1⟩
    · rw [if_neg c] at h; exact absurd rfl h
  · unfold rL
    by_cases c : bt (f u) v = true
    · rw [if_pos ⟨hu, hv, c⟩, if_pos ⟨hv, hu, (hw u (by omega) v c).2.2.2⟩, if_pos c]
    · rw [if_neg (fun q => c q.2.2), if_neg (fun q => c (hw v (by omega) u q.2.2).2.2.2), if_neg c]
theorem rL_Ph {d : Nat} (hn : n ≤ 24) (ha : a < n) (hd : i_pc (f a) ≤ d) : Ph n (S1 a) (rL f n) ≤ d := by
  have e : Ph n (S1 a) (rL f n) ≤ sm (fun x => if a = x then i_pc (f a) else 0) n := by
    refine sm_le (fun x hx => ?_)
    by_cases c : a = x
    · rw [if_pos c, ← c, i_pc_sm]
      refine Nat.le_trans (sm_le (G := fun y => if bt (f a) y = true then 1 else 0) (fun y hy => ?_)) (sm_le_n (by omega))
      unfold rL
      by_cases g : bt (f a) y = true
      · rw [if_pos (c := bt (f a) y = true) g, if_pos (c := a < n ∧ y < n ∧ bt (f a) y = true) ⟨ha, hy, g⟩]
        split <;> omega
      · rw [if_neg (c := bt (f a) y = true) g, if_neg (c := a < n ∧ y < n ∧ bt (f a) y = true) (fun q => g q.2.2)]
        split <;> omega
    · rw [if_neg c]
      refine Nat.le_of_eq ((sm_congr (G := fun _ => 0) (fun y _ => ?_)).trans sm_0)
      rw [if_neg (fun q => c (of_decide_eq_true q.1).symm)]
  have e2 : sm (fun x => if a = x then i_pc (f a) else 0) n = i_pc (f a) := by
    have := sm_upd (F := fun _ => 0) (G := fun k => if a = k then i_pc (f a) else 0) (c := i_pc (f a)) (k0 := a) ha (fun k _ hk => by (try dsimp only); rw [if_neg (fun q => hk q.symm)]) (by (try dsimp only); rw [if_pos rfl, Nat.zero_add])
    rw [sm_0] at this
    omega
  omega
theorem c_inL {s L : Nat} (hs : s < 8) : ∀ (m v u : Nat) (σ : hp_S), v + m = 24 → m < u → (∀ k, k < 24 → σ.1 (3 + 2 * s) k = f k) → ∃ τ, fr [34] [] σ τ ∧ (∀ x, x < 48 → τ.2.1 34 x = if v ≤ x ∧ x < 24 then (f x).toInt64 else σ.2.1 34 x) ∧ g30_3 N u 33 (2 + 2 * s) (nI a) (nI b) (nI L) (nI v) (hp σ, cs) = g30_34 N N 33 (nI a) (nI b) (nI L) 0 (hp τ, cs) := by
  intro m
  induction m with
  | zero =>
    intro v u σ hv hu ef
    obtain ⟨u, rfl⟩ : ∃ q, u = q + 1 := ⟨u - 1, by omega⟩
    refine ⟨σ, fr.rf, fun x hx => by rw [if_neg (by omega)], ?_⟩
    unfold g30_3
    rw [if_pos (show (24 : Int32) ≤ nI v from nI_le (a := 24) (by omega) (by omega))]
  | succ m ih =>
    intro v u σ hv hu ef
    obtain ⟨u, rfl⟩ : ∃ q, u = q + 1 := ⟨u - 1, by omega⟩
    obtain ⟨τ, q1, q2, q3⟩ := ih (v + 1) u (hp_wl σ 34 v (f v).toInt64) (by omega) (by omega) ef
    refine ⟨τ, (fr.wl (by decide)).tr q1, fun x hx => ?_, ?_⟩
    · rw [q2 x hx]
      by_cases c : x = v
      · rw [c, if_neg (by omega), if_pos (by omega), hp_wl_at]
      · rw [hp_wl_nj c]
        by_cases g : v ≤ x ∧ x < 24
        · rw [if_pos g, if_pos (by omega)]
        · rw [if_neg g, if_neg (by omega)]
    · unfold g30_3
      rw [if_neg (show ¬ (24 : Int32) ≤ nI v from nI_ge (b := 24) (by omega) (by omega)), r33_0, sN_r hs, sN_ri hs (by omega), ef v (by omega), b34 (by omega), nI_1]
      exact q3
/-- waysByLines -/
theorem c_ways {σ : hp_S} {s L d : Nat} (hs : s < 8) (hg : GW n d f) (hN : iv_N N) (hv : NV σ s n d f) (ha : a < n) (hb : b < n) (hab : a ≠ b) (hL : L ≤ 100) : ∃ τ, fr [34, 35, 36] [] σ τ ∧ f30 N 33 (2 + 2 * s) (nI a) (nI b) (nI L) (hp σ, cs) = some (.inl (some (.int (nI (min L (fl n a b 9 (rL f n)))))), (hp τ, cs)) := by
  have hn := hg.2.1
  have hw := hg.2.2.2.2.1
  obtain ⟨τ, q1, q2, q3⟩ := c_inL (N := N) (cs := cs) (a := a) (b := b) (L := L) (f := f) hs 24 0 N σ (by omega) (by unfold iv_N at hN; omega) hv.2.2
  have hPh := rL_Ph (f := f) (a := a) (d := 8) hn ha (by have := hg.2.2.2.2.2 a (by omega); have := hg.2.2.2.1; omega)
  obtain ⟨υ, p1, p2⟩ := c_wL (N := N) (cs := cs) (a := a) (b := b) (L := L) hn hw hN ha hb hab hL 8 N 0 (rL f n) τ hPh (by unfold iv_N at hN; omega) (by omega) (by omega) (rL_KL hn hw) (fun u hu v => by
    rw [q2 u (by omega), if_pos (by omega), u_ofI (fun j hj => by have := (hw u (by omega) j hj).2.1; omega)]
    unfold rL
    by_cases c : bt (f u) v = true
    · rw [if_pos ⟨hu, (hw u (by omega) v c).2.1, c⟩]
      exact ⟨fun _ => by decide, fun _ => c⟩
    · rw [if_neg (fun q => c q.2.2)]
      exact ⟨fun q => absurd q c, fun q => absurd rfl q⟩)
  refine ⟨υ, (q1.wk (fun _ z => by simp at z; simp [z]) (fun _ z => z)).tr p1, ?_⟩
  unfold f30
  rw [show (0 : Int32) = nI 0 from rfl, q3]
  rw [Nat.zero_add] at p2
  exact p2
end FC
