/-! rooms of knots: each knot has two sides -/
section FK
variable {cs : Nat × Nat} {N n a b : Nat} {ρ : Nat → Nat → Nat} {f : Nat → Int32}
def vKn (n : Nat) : Nat → Prop := fun u => u < n ∨ (24 ≤ u ∧ u < 24 + n)
def KK (n : Nat) (ρ : Nat → Nat → Nat) : Prop := (n ≤ 24 ∧ CV 48 (vKn n) ρ) ∧ ∀ u v, ρ u v + ρ v u ≤ 1
theorem KK.up {u x : Nat} (h : KK n ρ) (hne : u ≠ x) (hr : ρ u x ≠ 0) : KK n (up ρ u x) := by
  refine ⟨⟨h.1.1, h.1.2.up hr⟩, fun y z => ?_⟩
  have h1 := h.2 y z
  have h2 := h.2 u x
  by_cases c1 : y = u ∧ z = x
  · rw [c1.1, c1.2, up_at hne, up_bk hne]; omega
  · by_cases c2 : y = x ∧ z = u
    · rw [c2.1, c2.2, up_at hne, up_bk hne]; omega
    · rw [up_ne c1 c2, up_ne (fun q => c2 ⟨q.2, q.1⟩) (fun q => c1 ⟨q.2, q.1⟩)]
      exact h1
/-- sendByKnots -/
theorem c_sK {s : qS} (hn : n ≤ 24) (hB : BI (eR ρ) 48 a s) : ∀ (j u m t : Nat) (ρ' : Nat → Nat → Nat) (σ : hp_S), j < m → j < u → j < s.k → t + j < 48 → KK n ρ' → OP σ (vKn n) ρ' → FR σ a s → (∀ i' j', i' < j' → j' ≤ j → ρ' (s.q i') (s.q j') = ρ (s.q i') (s.q j')) → ∃ τ, fr [34] [] σ τ ∧ OP τ (vKn n) (snd s.fm a m (s.q j) ρ') ∧ g34_5 N u 33 (nI a) (nI (s.q j)) (nI t) (hp σ, cs) = some (.inl none, (hp τ, cs)) := by
  have ha : a < 48 := by have := hB.lt 0 hB.k1; rw [hB.q0] at this; exact this
  intro j
  induction j using Nat.strongRecOn with
  | ind j ih =>
    intro u m t ρ' σ hm hu hj ht hK hO hF hρ
    obtain ⟨m, rfl⟩ : ∃ q, m = q + 1 := ⟨m - 1, by omega⟩
    obtain ⟨u, rfl⟩ : ∃ q, u = q + 1 := ⟨u - 1, by omega⟩
    have es : snd s.fm a (m + 1) (s.q j) ρ' = if s.q j = a then ρ' else snd s.fm a m (s.fm (s.q j)) (up ρ' (s.fm (s.q j)) (s.q j)) := rfl
    have hjn := hB.lt j hj
    rw [es]
    unfold g34_5
    by_cases c : s.q j = a
    · refine ⟨σ, fr.rf, by rw [if_pos c]; exact hO, ?_⟩
      rw [if_pos (by rw [c])]
    · rw [if_neg c, if_neg (by rw [q_eq (by omega) (by omega)]; exact c)]
      have hj0 : 0 < j := by
        apply Nat.pos_of_ne_zero
        intro q
        rw [q, hB.q0] at c
        exact c rfl
      obtain ⟨i, i1, i2, i3⟩ := hB.par j hj0 hj
      have hin := hB.lt i (by omega)
      have hne : s.q i ≠ s.q j := hB.inj i j i1 hj
      have hnz : ρ' (s.q i) (s.q j) ≠ 0 := by
        rw [hρ i j i1 (Nat.le_refl _)]
        exact of_decide_eq_true i3
      have hfm : s.fm (s.q j) ≠ 99 := by rw [i2]; omega
      have hf := hF.2 (s.q j) (by omega) c hfm
      rw [i2] at hf ⊢
      have hK2 := hK.up hne hnz
      have hsum := hK.2 (s.q i) (s.q j)
      obtain ⟨hVi, hVj⟩ := hK.1.2.2 _ _ hnz
      have hρ2 : ∀ i' j', i' < j' → j' ≤ i → up ρ' (s.q i) (s.q j) (s.q i') (s.q j') = ρ (s.q i') (s.q j') := fun i' j' h1 h2 => by
        rw [up_ne (fun q => hB.inj j' j (by omega) hj q.2) (fun q => hB.inj i' j (by omega) hj q.1)]
        exact hρ i' j' h1 (by omega)
      have hO1 : OP (hp_wl σ 34 (s.q i) (σ.2.1 34 (s.q i) &&& (lf_lshl 1 (nI (s.q j)) ^^^ (-1)))) (vKn n) (fun x y => if x = s.q i ∧ y = s.q j then 0 else ρ' x y) := by
        refine OPset (u := 0) hO _ (fun v => ?_) (fun w hw' hwx v => ?_)
        · rw [u_andn, hO _ hVi, u_one (by omega)]
          try dsimp only
          by_cases g : v = s.q j
          · rw [if_pos ⟨rfl, g⟩]
            exact ⟨fun q => absurd g q.2, fun q => absurd rfl q⟩
          · rw [if_neg (fun q => g q.2)]
            exact ⟨fun q => q.1, fun q => ⟨q, g⟩⟩
        · (try dsimp only)
          rw [if_neg (fun q => hwx q.1)]
      have hO2 : OP (hp_wl (hp_wl σ 34 (s.q i) (σ.2.1 34 (s.q i) &&& (lf_lshl 1 (nI (s.q j)) ^^^ (-1)))) 34 (s.q j) ((hp_wl σ 34 (s.q i) (σ.2.1 34 (s.q i) &&& (lf_lshl 1 (nI (s.q j)) ^^^ (-1)))).2.1 34 (s.q j) ||| lf_lshl 1 (nI (s.q i)))) (vKn n) (up ρ' (s.q i) (s.q j)) := by
        refine OPset (u := 0) hO1 _ (fun v => ?_) (fun w hw' hwx v => ?_)
        · rw [u_or_iff, hO1 _ hVj, u_one (by omega)]
          try dsimp only
          rw [if_neg (fun q => hne q.1.symm)]
          by_cases g : v = s.q i
          · rw [g, up_bk hne]
            exact ⟨fun _ => by omega, fun _ => Or.inr rfl⟩
          · rw [up_ne (fun q => hne q.1.symm) (fun q => g q.2)]
            exact ⟨fun q => q.resolve_right g, fun q => Or.inl q⟩
        · (try dsimp only)
          by_cases g : w = s.q i ∧ v = s.q j
          · rw [if_pos g, g.1, g.2, up_at hne]
            exact ⟨fun q => by omega, fun q => absurd rfl q⟩
          · rw [if_neg g, up_ne g (fun q => hwx q.1)]
      obtain ⟨τ, q1, q2, q3⟩ := ih i i1 u m (t + 1) _ _ (by omega) (by omega) (by omega) (by omega) hK2 hO2 ⟨fun j' h => hF.1 j' h, fun v h1 h2 h3 => hF.2 v h1 h2 h3⟩ hρ2
      refine ⟨τ, (fr.wl (by decide)).tr ((fr.wl (by decide)).tr q1), q2, ?_⟩
      rw [if_neg (show ¬ (48 : Int32) ≤ nI t from nI_ge (b := 48) (by omega) (by omega)), r33_1, a35 (by omega), hf, r33_0, a34 (by omega), b34 (by omega), r33_0, a34 (by omega), b34 (by omega), nI_1]
      exact q3
/-- ways by knots, from where rooms are laid -/
theorem c_wK {L : Nat} (hn : n ≤ 24) (hN : iv_N N) (ha : a < n) (hb : b < n) (hL : L ≤ 100) : ∀ (m u w : Nat) (ρ : Nat → Nat → Nat) (σ : hp_S), Ph 48 (S1 (24 + a)) ρ ≤ m → m + 1 < u → w ≤ L → w + m ≤ 100 → KK n ρ → OP σ (vKn n) ρ → ∃ τ, fr [34, 35, 36] [] σ τ ∧ g31_51 N u 33 (nI a) (nI b) (nI L) (nI w) (hp σ, cs) = some (.inl (some (.int (nI (min L (w + fl 48 (24 + a) b (m + 1) ρ))))), (hp τ, cs)) := by
  have e24 : (24 : Int32) + nI a = nI (24 + a) := by rw [show (24 : Int32) = nI 24 from rfl, nI_add]
  have main : ∀ (m u w : Nat) (ρ : Nat → Nat → Nat) (σ : hp_S), w ≤ L → KK n ρ → OP σ (vKn n) ρ → (∃ τ, fr [34, 35, 36] [] σ τ ∧ g31_51 N (u + 1) 33 (nI a) (nI b) (nI L) (nI w) (hp σ, cs) = some (.inl (some (.int (nI (min L (w + fl 48 (24 + a) b (m + 1) ρ))))), (hp τ, cs))) ∨ (¬ (bfr (eR ρ) 48 (24 + a) b).fm b = 99 ∧ w < L ∧ KK n (snd (bfr (eR ρ) 48 (24 + a) b).fm (24 + a) 49 b ρ) ∧ Ph 48 (S1 (24 + a)) (snd (bfr (eR ρ) 48 (24 + a) b).fm (24 + a) 49 b ρ) + 1 = Ph 48 (S1 (24 + a)) ρ ∧ ∃ τ, fr [34, 35, 36] [] σ τ ∧ OP τ (vKn n) (snd (bfr (eR ρ) 48 (24 + a) b).fm (24 + a) 49 b ρ) ∧ g31_51 N (u + 1) 33 (nI a) (nI b) (nI L) (nI w) (hp σ, cs) = g31_51 N u 33 (nI a) (nI b) (nI L) (nI (w + 1)) (hp τ, cs)) := by
    intro m u w ρ σ hwL hK hO
    have efl : fl 48 (24 + a) b (m + 1) ρ = if (bfr (eR ρ) 48 (24 + a) b).fm b = 99 then 0 else 1 + fl 48 (24 + a) b m (snd (bfr (eR ρ) 48 (24 + a) b).fm (24 + a) 49 b ρ) := rfl
    by_cases cL : w = L
    · refine Or.inl ⟨σ, fr.rf, ?_⟩
      unfold g31_51
      rw [if_pos (nI_le (by omega) (by omega)), show min L (w + fl 48 (24 + a) b (m + 1) ρ) = w by omega]
    · obtain ⟨τ, q1, q2, q3, q4⟩ := c_fway (N := N) (cs := cs) (σ := σ) (a := 24 + a) (b := b) (V := vKn n) (ρ := ρ) (by omega) hN (Or.inr ⟨by omega, by omega⟩) (show b < 48 by omega) hK.1.2 hO
      by_cases c : (bfr (eR ρ) 48 (24 + a) b).fm b = 99
      · refine Or.inl ⟨τ, q1.wk (fun _ z => by simp at z; rcases z with z | z <;> simp [z]) (fun _ z => z), ?_⟩
        rw [efl, if_pos c, show min L (w + 0) = w by omega]
        rw [if_pos c] at q4
        unfold g31_51
        rw [if_neg (nI_ge (by omega) (by omega)), o33, e24, q4, lf_ci_r, if_pos rfl]
      · obtain ⟨k1, k2⟩ := snd_b (S := S1 (24 + a)) (K := KK n) (by omega) (show 24 + a < 48 by omega) (show b < 48 by omega) c (fun ρ' u x h1 h2 h3 h4 h5 => h1.up h4 h5) (decide_eq_true rfl) hK (fun q => by have := of_decide_eq_true q; omega)
        obtain ⟨h1, -⟩ := bfr_bi (E := eR ρ) (b := b) (show 48 ≤ 48 by omega) (show 24 + a < 48 by omega)
        obtain ⟨j, hj, e⟩ := (h1.mem b (by omega)).mp c
        have hle := h1.le
        obtain ⟨υ, p1, p2, p3⟩ := c_sK (N := N) (cs := cs) (ρ := ρ) hn h1 j N 49 0 ρ τ (by omega) (by unfold iv_N at hN; omega) hj (by omega) hK (fun x hx v => by rw [q1.l (by decide)]; exact hO x hx v) q2 (fun _ _ _ _ => rfl)
        rw [e] at p2 p3
        refine Or.inr ⟨c, by omega, k1, k2, υ, (q1.wk (fun _ z => by simp at z; rcases z with z | z <;> simp [z]) (fun _ z => z)).tr (p1.wk (fun _ z => by simp at z; simp [z]) (fun _ z => z)), p2, ?_⟩
        rw [if_neg c] at q4
        conv => lhs; unfold g31_51
        rw [if_neg (nI_ge (by omega) (by omega)), o33, e24, q4, lf_ci_r, if_neg (by decide), o33]
        unfold f34
        rw [show (0 : Int32) = nI 0 from rfl, p3, lf_cv_r, nI_1]
  intro m
  induction m with
  | zero =>
    intro u w ρ σ hm hu hwL hwm hK hO
    obtain ⟨u, rfl⟩ : ∃ q, u = q + 1 := ⟨u - 1, by omega⟩
    rcases main 0 u w ρ σ hwL hK hO with h | ⟨-, -, -, h, -⟩
    · exact h
    · omega
  | succ m ih =>
    intro u w ρ σ hm hu hwL hwm hK hO
    obtain ⟨u, rfl⟩ : ∃ q, u = q + 1 := ⟨u - 1, by omega⟩
    rcases main (m + 1) u w ρ σ hwL hK hO with h | ⟨c, h1, h2, h3, τ, h4, h5, h6⟩
    · exact h
    · obtain ⟨υ, p1, p2⟩ := ih u (w + 1) _ τ (by omega) (by omega) (by omega) (by omega) h2 h5
      refine ⟨υ, h4.tr p1, ?_⟩
      have efl : fl 48 (24 + a) b (m + 1 + 1) ρ = 1 + fl 48 (24 + a) b (m + 1) (snd (bfr (eR ρ) 48 (24 + a) b).fm (24 + a) 49 b ρ) := by
        show (if (bfr (eR ρ) 48 (24 + a) b).fm b = 99 then 0 else _) = _
        rw [if_neg c]
      rw [h6, p2, efl, Nat.add_assoc]
theorem m_wK (hn : n ≤ 24) (hN : iv_N N) (ha : a < n) (hb : b < n) : ∀ (m u w : Nat) (ρ : Nat → Nat → Nat) (σ : hp_S), Ph 48 (S1 (24 + a)) ρ ≤ m → m + 1 < u → w + m ≤ 100 → KK n ρ → RO σ 48 ρ → ∃ τ, fr [82, 83, 84] [] σ τ ∧ g228_99 N u 72 (nI a) (nI b) (nI w) (hp σ, cs) = some (.inl (some (.int (nI (w + fl 48 (24 + a) b (m + 1) ρ)))), (hp τ, cs)) := by
  have hRB : ∀ ρ, KK n ρ → RB ρ := by
    intro ρ hK u v
    have := hK.2 u v
    omega
  have e24 : nI a + (24 : Int32) = nI (24 + a) := by rw [show (24 : Int32) = nI 24 from rfl, nI_add, Nat.add_comm]
  intro m
  induction m with
  | zero =>
    intro u w ρ σ hm hu hwm hK hR
    obtain ⟨u, rfl⟩ : ∃ q, u = q + 1 := ⟨u - 1, by omega⟩
    obtain ⟨τ, q1, q2, q3⟩ := m_finds (N := N) (cs := cs) (σ := σ) (a := 24 + a) (b := b) (P := 48) (ρ := ρ) (by omega) hN (by omega) (by omega) (hRB ρ hK) hR
    have efl : fl 48 (24 + a) b 1 ρ = if (bfr (eR ρ) 48 (24 + a) b).fm b = 99 then 0 else 1 + fl 48 (24 + a) b 0 (snd (bfr (eR ρ) 48 (24 + a) b).fm (24 + a) 49 b ρ) := rfl
    by_cases c : (bfr (eR ρ) 48 (24 + a) b).fm b = 99
    · refine ⟨τ, q1, ?_⟩
      unfold g228_99
      rw [o72, e24, show f226 N 72 (nI (24 + a)) (nI b) 48 (hp σ, cs) = _ from q2 c, lf_ci_r, if_pos rfl, efl, if_pos c]
      rfl
    · have := (snd_b (S := S1 (24 + a)) (K := fun _ => True) (by omega) (show 24 + a < 48 by omega) (show b < 48 by omega) c (fun _ _ _ _ _ _ _ _ => trivial) (decide_eq_true rfl) trivial (fun q => by have := of_decide_eq_true q; omega)).2
      omega
  | succ m ih =>
    intro u w ρ σ hm hu hwm hK hR
    obtain ⟨u, rfl⟩ : ∃ q, u = q + 1 := ⟨u - 1, by omega⟩
    obtain ⟨τ, q1, q2, q3⟩ := m_finds (N := N) (cs := cs) (σ := σ) (a := 24 + a) (b := b) (P := 48) (ρ := ρ) (by omega) hN (by omega) (by omega) (hRB ρ hK) hR
    have efl : fl 48 (24 + a) b (m + 1 + 1) ρ = if (bfr (eR ρ) 48 (24 + a) b).fm b = 99 then 0 else 1 + fl 48 (24 + a) b (m + 1) (snd (bfr (eR ρ) 48 (24 + a) b).fm (24 + a) 49 b ρ) := rfl
    by_cases c : (bfr (eR ρ) 48 (24 + a) b).fm b = 99
    · refine ⟨τ, q1, ?_⟩
      unfold g228_99
      rw [o72, e24, show f226 N 72 (nI (24 + a)) (nI b) 48 (hp σ, cs) = _ from q2 c, lf_ci_r, if_pos rfl, efl, if_pos c]
      rfl
    · obtain ⟨k1, k2⟩ := snd_b (S := S1 (24 + a)) (K := KK n) (by omega) (show 24 + a < 48 by omega) (show b < 48 by omega) c (fun ρ' u x h1 h2 h3 h4 h5 => h1.up h4 h5) (decide_eq_true rfl) hK (fun q => by have := of_decide_eq_true q; omega)
      obtain ⟨r1, r2⟩ := q3 c
      obtain ⟨υ, p1, p2⟩ := ih u (w + 1) _ τ (by omega) (by omega) (by omega) k1 r1
      refine ⟨υ, q1.tr p1, ?_⟩
      unfold g228_99
      rw [o72, e24, show f226 N 72 (nI (24 + a)) (nI b) 48 (hp σ, cs) = _ from r2, lf_ci_r, if_neg (by decide), nI_1, p2, efl, if_neg c, Nat.add_assoc]
def rK (f : Nat → Int32) (n : Nat) : Nat → Nat → Nat := fun u v => if u < n ∧ v = u + 24 then 1 else if 24 ≤ u ∧ u - 24 < n ∧ v < n ∧ bt (f (u - 24)) v = true then 1 else 0
theorem rK_ne {u v : Nat} (h : rK f n u v ≠ 0) : (u < n ∧ v = u + 24) ∨ (24 ≤ u ∧ u - 24 < n ∧ v < n ∧ bt (f (u - 24)) v = true) := by
  unfold rK at h
  by_cases c : u < n ∧ v = u + 24
  · exact Or.inl c
  · rw [if_neg c] at h
    by_cases d : 24 ≤ u ∧ u - 24 < n ∧ v < n ∧ bt (f (u - 24)) v = true
    · exact Or.inr d
    · rw [if_neg d] at h; exact absurd rfl h
theorem rK_le (u v : Nat) : rK f n u v ≤ 1 := by
  unfold rK
  split
  · omega
  · split <;> omega
theorem rK_KK (hn : n ≤ 24) (hw : gw f n) : KK n (rK f n) := by
  refine ⟨⟨hn, fun u h => by rcases h with h | h <;> omega, fun u v h => ?_⟩, fun u v => ?_⟩
  · rcases rK_ne h with h | h
    · exact ⟨Or.inl h.1, Or.inr ⟨by omega, by omega⟩⟩
    · exact ⟨Or.inr ⟨by omega, by omega⟩, Or.inl h.2.2.1⟩
  · have h1 := rK_le (f := f) (n := n) u v
    have h2 := rK_le (f := f) (n := n) v u
    by_cases c : rK f n u v ≠ 0 ∧ rK f n v u ≠ 0
    · exfalso
      rcases rK_ne c.1 with p | p <;> rcases rK_ne c.2 with q | q
      · omega
      · have e : v - 24 = u := by omega
        rw [e] at q
        exact (hw u (by omega) u q.2.2.2).2.2.1 rfl
      · have e : u - 24 = v := by omega
        rw [e] at p
        exact (hw v (by omega) v p.2.2.2).2.2.1 rfl
      · omega
    · omega
theorem rK_Ph {d : Nat} (hn : n ≤ 24) (ha : a < n) (hd : i_pc (f a) ≤ d) : Ph 48 (S1 (24 + a)) (rK f n) ≤ d := by
  have e : Ph 48 (S1 (24 + a)) (rK f n) ≤ sm (fun x => if 24 + a = x then i_pc (f a) else 0) 48 := by
    refine sm_le (fun x hx => ?_)
    by_cases c : 24 + a = x
    · rw [if_pos c, ← c, i_pc_sm]
      have hb : sm (fun y => if S1 (24 + a) (24 + a) = true ∧ ¬ S1 (24 + a) y = true then rK f n (24 + a) y else 0) 48 ≤ sm (fun y => if y < 32 ∧ bt (f a) y = true then 1 else 0) 48 := by
        refine sm_le (fun y hy => ?_)
        by_cases g : rK f n (24 + a) y = 0
        · rw [g]; split <;> exact Nat.zero_le _
        · rcases rK_ne g with p | p
          · omega
          · rw [show 24 + a - 24 = a by omega] at p
            rw [if_pos (c := y < 32 ∧ bt (f a) y = true) ⟨by omega, p.2.2.2⟩]
            have := rK_le (f := f) (n := n) (24 + a) y
            split <;> omega
      refine Nat.le_trans hb ?_
      rw [sm_more (n := 32) (m := 48) (by omega) (fun k q1 _ => by rw [if_neg (fun q => by omega)])]
      refine sm_le (fun y hy => ?_)
      by_cases g : bt (f a) y = true
      · rw [if_pos ⟨hy, g⟩, if_pos g]; exact Nat.le_refl _
      · rw [if_neg (fun q => g q.2), if_neg g]; exact Nat.le_refl _
    · rw [if_neg c]
      refine Nat.le_of_eq ((sm_congr (G := fun _ => 0) (fun y _ => ?_)).trans sm_0)
      rw [if_neg (fun q => c (of_decide_eq_true q.1).symm)]
  have e2 : sm (fun x => if 24 + a = x then i_pc (f a) else 0) 48 = i_pc (f a) := by
    have := sm_upd (F := fun _ => 0) (G := fun k => if 24 + a = k then i_pc (f a) else 0) (c := i_pc (f a)) (k0 := 24 + a) (n := 48) (by omega) (fun k _ hk => by (try dsimp only); rw [if_neg (fun q => hk q.symm)]) (by (try dsimp only); rw [if_pos rfl, Nat.zero_add])
    rw [sm_0] at this
    omega
  omega
theorem c_inK {s L : Nat} (hs : s < 8) : ∀ (m v u : Nat) (σ : hp_S), v + m = 24 → m < u → (∀ k, k < 24 → σ.1 (3 + 2 * s) k = f k) → ∃ τ, fr [34] [] σ τ ∧ (∀ x, v ≤ x → x < 24 → τ.2.1 34 x = lf_lshl 1 (nI (24 + x)) ∧ τ.2.1 34 (24 + x) = (f x).toInt64) ∧ (∀ x, x < v → τ.2.1 34 x = σ.2.1 34 x ∧ τ.2.1 34 (24 + x) = σ.2.1 34 (24 + x)) ∧ g31_3 N u 33 (2 + 2 * s) (nI a) (nI b) (nI L) (nI v) (hp σ, cs) = g31_51 N N 33 (nI a) (nI b) (nI L) 0 (hp τ, cs) := by
  intro m
  induction m with
  | zero =>
    intro v u σ hv hu ef
    obtain ⟨u, rfl⟩ : ∃ q, u = q + 1 := ⟨u - 1, by omega⟩
    refine ⟨σ, fr.rf, fun x h1 h2 => by omega, fun _ _ => ⟨rfl, rfl⟩, ?_⟩
    unfold g31_3
    rw [if_pos (show (24 : Int32) ≤ nI v from nI_le (a := 24) (by omega) (by omega))]
  | succ m ih =>
    intro v u σ hv hu ef
    obtain ⟨u, rfl⟩ : ∃ q, u = q + 1 := ⟨u - 1, by omega⟩
    obtain ⟨τ, q1, q2, q3, q4⟩ := ih (v + 1) u (hp_wl (hp_wl σ 34 v (lf_lshl 1 (nI (24 + v)))) 34 (24 + v) (f v).toInt64) (by omega) (by omega) ef
    refine ⟨τ, (fr.wl (by decide)).tr ((fr.wl (by decide)).tr q1), fun x h1 h2 => ?_, fun x hx => ?_, ?_⟩
    · by_cases c : x = v
      · obtain ⟨p1, p2⟩ := q3 x (by omega)
        rw [p1, p2, c]
        exact ⟨by rw [hp_wl_nj (by omega), hp_wl_at], hp_wl_at⟩
      · exact q2 x (by omega) h2
    · obtain ⟨p1, p2⟩ := q3 x (by omega)
      rw [p1, p2]
      exact ⟨by rw [hp_wl_nj (by omega), hp_wl_nj (by omega)], by rw [hp_wl_nj (by omega), hp_wl_nj (by omega)]⟩
    · unfold g31_3
      rw [if_neg (show ¬ (24 : Int32) ≤ nI v from nI_ge (b := 24) (by omega) (by omega)), show (24 : Int32) + nI v = nI (24 + v) from by rw [show (24 : Int32) = nI 24 from rfl, nI_add], r33_0, b34 (by omega), r33_0, sN_r hs, sN_ri hs (by omega), show (hp_wl σ 34 v (lf_lshl 1 (nI (24 + v)))).1 (3 + 2 * s) v = f v from ef v (by omega), b34 (by omega), nI_1]
      exact q4
/-- waysByKnots -/
theorem c_waysK {σ : hp_S} {s L d : Nat} (hs : s < 8) (hg : GW n d f) (hN : iv_N N) (hv : NV σ s n d f) (ha : a < n) (hb : b < n) (hL : L ≤ 100) : ∃ τ, fr [34, 35, 36] [] σ τ ∧ f31 N 33 (2 + 2 * s) (nI a) (nI b) (nI L) (hp σ, cs) = some (.inl (some (.int (nI (min L (fl 48 (24 + a) b 9 (rK f n)))))), (hp τ, cs)) := by
  have hn := hg.2.1
  have hw := hg.2.2.2.2.1
  obtain ⟨τ, q1, q2, -, q3⟩ := c_inK (N := N) (cs := cs) (a := a) (b := b) (L := L) (f := f) hs 24 0 N σ (by omega) (by unfold iv_N at hN; omega) hv.2.2
  have hPh := rK_Ph (f := f) (a := a) (d := 8) hn ha (by have := hg.2.2.2.2.2 a (by omega); have := hg.2.2.2.1; omega)
  obtain ⟨υ, p1, p2⟩ := c_wK (N := N) (cs := cs) (a := a) (b := b) (L := L) hn hN ha hb hL 8 N 0 (rK f n) τ hPh (by unfold iv_N at hN; omega) (by omega) (by omega) (rK_KK hn hw) (fun u hu v => by
    rcases hu with hu | hu
    · rw [(q2 u (by omega) (by omega)).1, u_one (by omega)]
      constructor
      · intro q
        unfold rK
        rw [if_pos ⟨hu, by omega⟩]
        decide
      · intro q
        rcases rK_ne q with q | q <;> omega
    · have := (q2 (u - 24) (by omega) (by omega)).2
      rw [show 24 + (u - 24) = u by omega] at this
      rw [this, u_ofI (fun j hj => by have := (hw (u - 24) (by omega) j hj).2.1; omega)]
      constructor
      · intro q
        unfold rK
        rw [if_neg (fun z => by omega), if_pos ⟨by omega, by omega, (hw (u - 24) (by omega) v q).2.1, q⟩]
        decide
      · intro q
        rcases rK_ne q with q | q
        · omega
        · exact q.2.2.2)
  refine ⟨υ, (q1.wk (fun _ z => by simp at z; simp [z]) (fun _ z => z)).tr p1, ?_⟩
  unfold f31
  rw [show (0 : Int32) = nI 0 from rfl, q3]
  rw [Nat.zero_add] at p2
  exact p2
theorem m_kz : ∀ (m j u : Nat) (σ : hp_S), j + m = 2304 → m < u → ∃ τ, fr [82] [] σ τ ∧ (∀ i, i < 2304 → τ.1 82 i = if j ≤ i then 0 else σ.1 82 i) ∧ g228_2 N u 72 (nI a) (nI b) (nI j) (hp σ, cs) = g228_24 N N 72 (nI a) (nI b) 0 (hp τ, cs) := by
  intro m
  induction m with
  | zero =>
    intro j u σ hj hu
    obtain ⟨u, rfl⟩ : ∃ q, u = q + 1 := ⟨u - 1, by omega⟩
    refine ⟨σ, fr.rf, fun i hi => by rw [if_neg (by omega)], ?_⟩
    unfold g228_2
    rw [if_pos (show (2304 : Int32) ≤ nI j from nI_le (a := 2304) (by omega) (by omega))]
  | succ m ih =>
    intro j u σ hj hu
    obtain ⟨u, rfl⟩ : ∃ q, u = q + 1 := ⟨u - 1, by omega⟩
    obtain ⟨τ, q1, q2, q3⟩ := ih (j + 1) u (hp_wi σ 82 j 0) (by omega) (by omega)
    refine ⟨τ, (fr.wi (by decide)).tr q1, fun i hi => ?_, ?_⟩
    · rw [q2 i hi]
      by_cases c : i = j
      · rw [c, hp_wi_at, if_neg (by omega), if_pos (by omega)]
      · rw [hp_wi_nj c]
        by_cases d : j + 1 ≤ i
        · rw [if_pos d, if_pos (by omega)]
        · rw [if_neg d, if_neg (by omega)]
    · unfold g228_2
      rw [if_neg (show ¬ (2304 : Int32) ≤ nI j from nI_ge (b := 2304) (by omega) (by omega)), r72_26, b82 (by omega), nI_1]
      exact q3
/-- with knots below x laid, and of x the lines to knots below y -/
def rKp (f : Nat → Int32) (n x y i : Nat) : Int32 := if i / 48 < x ∧ i % 48 = i / 48 + 24 then 1 else if 24 ≤ i / 48 ∧ (i / 48 - 24 + 1 < x ∨ (i / 48 - 24 + 1 = x ∧ i % 48 < y)) ∧ i % 48 < n ∧ bt (f (i / 48 - 24)) (i % 48) = true then 1 else 0
theorem m_k1 {x : Nat} (hn : n ≤ 24) (hx : x < n) {k24 : Nat → Int32 → Int32 → Int32 → lf_W → lf_R} : ∀ (m y u : Nat) (σ : hp_S), y + m = n → m < u → σ.2.2.1 72 4 = nI n → (∀ j, j < 24 → σ.1 76 j = f j) → (∀ i, i < 2304 → σ.1 82 i = rKp f n (x + 1) y i) → ∃ τ, fr [82] [] σ τ ∧ (∀ i, i < 2304 → τ.1 82 i = rKp f n (x + 1) n i) ∧ g228_50 N k24 u 72 (nI a) (nI b) (nI x) (nI y) (hp σ, cs) = k24 72 (nI a) (nI b) (nI (x + 1)) (hp τ, cs) := by
  intro m
  induction m with
  | zero =>
    intro y u σ hy hu e ef hz
    obtain ⟨u, rfl⟩ : ∃ q, u = q + 1 := ⟨u - 1, by omega⟩
    have : y = n := by omega
    subst this
    refine ⟨σ, fr.rf, hz, ?_⟩
    unfold g228_50
    rw [i72_4, e, if_pos (nI_le (by omega) (by omega)), nI_1]
  | succ m ih =>
    intro y u σ hy hu e ef hz
    obtain ⟨u, rfl⟩ : ∃ q, u = q + 1 := ⟨u - 1, by omega⟩
    have hix : ∀ i, i < 2304 → i ≠ 48 * (x + 24) + y → rKp f n (x + 1) (y + 1) i = rKp f n (x + 1) y i := by
      intro i hi hne
      unfold rKp
      by_cases c1 : i / 48 < x + 1 ∧ i % 48 = i / 48 + 24
      · rw [if_pos c1, if_pos c1]
      · rw [if_neg c1, if_neg c1]
        by_cases c2 : 24 ≤ i / 48 ∧ (i / 48 - 24 + 1 < x + 1 ∨ (i / 48 - 24 + 1 = x + 1 ∧ i % 48 < y)) ∧ i % 48 < n ∧ bt (f (i / 48 - 24)) (i % 48) = true
        · rw [if_pos c2, if_pos ⟨c2.1, by omega, c2.2.2⟩]
        · rw [if_neg c2, if_neg (fun q => c2 ⟨q.1, by omega, q.2.2⟩)]
    have d1 : (48 * (x + 24) + y) / 48 = x + 24 := by omega
    have d2 : (48 * (x + 24) + y) % 48 = y := by omega
    have hat : rKp f n (x + 1) (y + 1) (48 * (x + 24) + y) = if bt (f x) y = true then 1 else 0 := by
      unfold rKp
      rw [d1, d2, show x + 24 - 24 = x by omega, if_neg (fun q => by omega)]
      by_cases c : bt (f x) y = true
      · rw [if_pos c, if_pos ⟨by omega, by omega, by omega, c⟩]
      · rw [if_neg c, if_neg (fun q => c q.2.2.2)]
    have hold : rKp f n (x + 1) y (48 * (x + 24) + y) = 0 := by
      unfold rKp
      rw [d1, d2, show x + 24 - 24 = x by omega, if_neg (fun q => by omega), if_neg (fun q => by omega)]
    have e24 : nI x + (24 : Int32) = nI (x + 24) := by rw [show (24 : Int32) = nI 24 from rfl, nI_add]
    unfold g228_50 g228_85
    rw [i72_4, e, if_neg (nI_ge (by omega) (by omega)), o72, m_joined (by omega) (by omega), lf_ci_r, ef x (by omega)]
    by_cases c : bt (f x) y = true
    · obtain ⟨τ, q1, q2, q3⟩ := ih (y + 1) u (hp_wi σ 82 (48 * (x + 24) + y) 1) (by omega) (by omega) e (fun j hj => by rw [hp_wi_ne (by decide)]; exact ef j hj) (fun i hi => by
        by_cases g : i = 48 * (x + 24) + y
        · rw [g, hp_wi_at, hat, if_pos c]
        · rw [hp_wi_nj g, hix i hi g]; exact hz i hi)
      refine ⟨τ, (fr.wi (by decide)).tr q1, q2, ?_⟩
      rw [if_pos c, if_neg (by decide), r72_26, e24, ix_c, b82 (by omega), nI_1]
      exact q3
    · obtain ⟨τ, q1, q2, q3⟩ := ih (y + 1) u σ (by omega) (by omega) e ef (fun i hi => by
        by_cases g : i = 48 * (x + 24) + y
        · rw [hz i hi, g, hat, hold, if_neg c]
        · rw [hix i hi g]; exact hz i hi)
      refine ⟨τ, q1, q2, ?_⟩
      rw [if_neg c, if_pos rfl, nI_1]
      exact q3
theorem m_k2 (hn : n ≤ 24) (hN : iv_N N) : ∀ (m x u : Nat) (σ : hp_S), x + m = n → m < u → σ.2.2.1 72 4 = nI n → (∀ j, j < 24 → σ.1 76 j = f j) → (∀ i, i < 2304 → σ.1 82 i = rKp f n x n i) → ∃ τ, fr [82] [] σ τ ∧ (∀ i, i < 2304 → τ.1 82 i = rKp f n n n i) ∧ g228_24 N u 72 (nI a) (nI b) (nI x) (hp σ, cs) = g228_99 N N 72 (nI a) (nI b) 0 (hp τ, cs) := by
  intro m
  induction m with
  | zero =>
    intro x u σ hx hu e ef hz
    obtain ⟨u, rfl⟩ : ∃ q, u = q + 1 := ⟨u - 1, by omega⟩
    have : x = n := by omega
    subst this
    refine ⟨σ, fr.rf, hz, ?_⟩
    unfold g228_24
    rw [i72_4, e, if_pos (nI_le (by omega) (by omega))]
  | succ m ih =>
    intro x u σ hx hu e ef hz
    obtain ⟨u, rfl⟩ : ∃ q, u = q + 1 := ⟨u - 1, by omega⟩
    have e48 : (48 : Int32) * nI x + nI x + 24 = nI (48 * x + x + 24) := by rw [ix_c, show (24 : Int32) = nI 24 from rfl, nI_add]
    obtain ⟨τ, q1, q2, q3⟩ := m_k1 (N := N) (cs := cs) (a := a) (b := b) (f := f) (x := x) (k24 := g228_24 N u) hn (by omega) n 0 N (hp_wi σ 82 (48 * x + x + 24) 1) (by omega) (by unfold iv_N at hN; omega) e (fun j hj => by rw [hp_wi_ne (by decide)]; exact ef j hj) (fun i hi => by
      by_cases g : i = 48 * x + x + 24
      · rw [g, hp_wi_at]
        unfold rKp
        rw [if_pos (by omega)]
      · rw [hp_wi_nj g, hz i hi]
        unfold rKp
        by_cases c1 : i / 48 < x ∧ i % 48 = i / 48 + 24
        · rw [if_pos c1, if_pos ⟨by omega, c1.2⟩]
        · rw [if_neg c1, if_neg (c := i / 48 < x + 1 ∧ i % 48 = i / 48 + 24) (fun q => by omega)]
          by_cases c2 : 24 ≤ i / 48 ∧ (i / 48 - 24 + 1 < x ∨ (i / 48 - 24 + 1 = x ∧ i % 48 < n)) ∧ i % 48 < n ∧ bt (f (i / 48 - 24)) (i % 48) = true
          · rw [if_pos c2, if_pos ⟨c2.1, by omega, c2.2.2⟩]
          · rw [if_neg c2, if_neg (fun q => c2 ⟨q.1, by omega, q.2.2⟩)])
    obtain ⟨υ, p1, p2, p3⟩ := ih (x + 1) u τ (by omega) (by omega) (by rw [q1.f List.not_mem_nil]; exact e) (fun j hj => by rw [q1.r (by decide), hp_wi_ne (by decide)]; exact ef j hj) q2
    refine ⟨υ, (fr.wi (by decide)).tr (q1.tr p1), p2, ?_⟩
    unfold g228_24
    rw [i72_4, e, if_neg (nI_ge (by omega) (by omega)), r72_26, e48, b82 (by omega), show (0 : Int32) = nI 0 from rfl, q3]
    exact p3
/-- waysByKnots -/
theorem m_waysK {σ : hp_S} {d : Nat} (hg : GW n d f) (hN : iv_N N) (e : σ.2.2.1 72 4 = nI n) (ef : ∀ j, j < 24 → σ.1 76 j = f j) (ha : a < n) (hb : b < n) : ∃ τ, fr [82, 83, 84] [] σ τ ∧ f228 N 72 (nI a) (nI b) (hp σ, cs) = some (.inl (some (.int (nI (fl 48 (24 + a) b 9 (rK f n))))), (hp τ, cs)) := by
  have hn := hg.2.1
  have hw := hg.2.2.2.2.1
  obtain ⟨τ, q1, q2, q3⟩ := m_kz (N := N) (cs := cs) (a := a) (b := b) 2304 0 N σ (by omega) (by unfold iv_N at hN; omega)
  obtain ⟨υ, p1, p2, p3⟩ := m_k2 (N := N) (cs := cs) (a := a) (b := b) (f := f) hn hN n 0 N τ (by omega) (by unfold iv_N at hN; omega) (by rw [q1.f List.not_mem_nil]; exact e) (fun j hj => by rw [q1.r (by decide)]; exact ef j hj) (fun i hi => by
    rw [q2 i hi, if_pos (by omega)]
    unfold rKp
    rw [if_neg (fun q => by omega), if_neg (fun q => by omega)])
  have hPh := rK_Ph (f := f) (a := a) (d := 8) hn ha (by have := hg.2.2.2.2.2 a (by omega); have := hg.2.2.2.1; omega)
  obtain ⟨ω, r1, r2⟩ := m_wK (N := N) (cs := cs) (a := a) (b := b) hn hN ha hb 8 N 0 (rK f n) υ hPh (by unfold iv_N at hN; omega) (by omega) (rK_KK hn hw) (fun x y hx hy => by
    rw [p2 _ (by omega)]
    unfold rKp rK
    rw [show (48 * x + y) / 48 = x by omega, show (48 * x + y) % 48 = y by omega]
    by_cases c1 : x < n ∧ y = x + 24
    · rw [if_pos c1, if_pos c1]; rfl
    · rw [if_neg c1, if_neg c1]
      by_cases c2 : 24 ≤ x ∧ x - 24 < n ∧ y < n ∧ bt (f (x - 24)) y = true
      · rw [if_pos c2, if_pos ⟨c2.1, by omega, c2.2.2.1, c2.2.2.2⟩]; rfl
      · rw [if_neg c2, if_neg (fun q => c2 ⟨q.1, by omega, q.2.2.1, q.2.2.2⟩)]; rfl)
  refine ⟨ω, ((q1.tr p1).wk (fun _ z => by simp at z; simp [z]) (fun _ z => z)).tr r1, ?_⟩
  unfold f228
  rw [show (0 : Int32) = nI 0 from rfl, q3, show (0 : Int32) = nI 0 from rfl, p3]
  rw [Nat.zero_add] at r2
  exact r2
end FK
