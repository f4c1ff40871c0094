/-! lay, the class: gaps, reach, the trying of places -/
section LYC
variable {cs : Nat × Nat} {N n s w : Nat} {f : Nat → Int32} {P : Nat → Nat} {σ τ : hp_S}
theorem abs_nI {a b : Nat} (ha : a < 2 ^ 30) (hb : b < 2 ^ 30) : pm_abs (nI a - nI b) = nI (ady a b) := by
  unfold pm_abs ady
  have h0 : (0 : Int32).toInt = 0 := rfl
  by_cases c : b ≤ a
  · rw [if_pos (by rw [fa_le, pk_sub_toInt ha hb, h0]; omega), sub_nI c, show a - b + (b - a) = a - b by omega]
  · rw [if_neg (by rw [fa_le, pk_sub_toInt ha hb, h0]; omega), Int32.zero_sub, Int32.neg_sub, sub_nI (by omega), show a - b + (b - a) = b - a by omega]
def GPy (σ : hp_S) (n w : Nat) : Prop := ∀ p q, p < n → q < n → σ.1 59 (24 * p + q) = nI (gap w p q)
theorem gap_I {p q : Nat} (hw1 : 1 ≤ w) (hw : w ≤ 24) (hp' : p < 24) (hq : q < 24) : pm_abs (lf_rem (nI p) (nI w) - lf_rem (nI q) (nI w)) + pm_abs (nI p / nI w - nI q / nI w) = nI (gap w p q) := by
  have h1 := Nat.mod_le p w
  have h2 := Nat.mod_le q w
  have h3 := Nat.div_le_self p w
  have h4 := Nat.div_le_self q w
  rw [rem_nI (by omega) (by omega) (by omega), rem_nI (by omega) (by omega) (by omega), pk_div (by omega) (by omega) (by omega), pk_div (by omega) (by omega) (by omega), abs_nI (by omega) (by omega), abs_nI (by omega) (by omega), nI_add]
  rfl
theorem c_g10 {p : Nat} {k2 : Nat → Int32 → Int32 → Int32 → lf_W → lf_R} (hn : n ≤ 24) (hw1 : 1 ≤ w) (hw : w ≤ 24) (hp' : p < n) : ∀ (m q u : Nat) (σ : hp_S), q + m = n → m < u → (∀ q', q' < q → σ.1 59 (24 * p + q') = nI (gap w p q')) → ∃ τ, fr [59] [] σ τ ∧ (∀ q', q' < n → τ.1 59 (24 * p + q') = nI (gap w p q')) ∧ (∀ j, j < 24 * p → τ.1 59 j = σ.1 59 j) ∧ g23_10 N k2 u 57 (nI n) (nI w) (nI p) (nI q) (hp σ, cs) = k2 57 (nI n) (nI w) (nI (p + 1)) (hp τ, cs) := by
  have nw : ¬ nI w = 0 := nI_ne0 (by omega) (by omega)
  intro m
  induction m with
  | zero =>
    intro q u σ hq hu hd
    obtain ⟨u, rfl⟩ : ∃ q, u = q + 1 := ⟨u - 1, by omega⟩
    refine ⟨σ, fr.rf, fun q' h => hd q' (by omega), fun _ _ => rfl, ?_⟩
    unfold g23_10
    rw [if_pos (nI_le (by omega) (by omega)), nI_1]
  | succ m ih =>
    intro q u σ hq hu hd
    obtain ⟨u, rfl⟩ : ∃ q, u = q + 1 := ⟨u - 1, by omega⟩
    obtain ⟨τ, q1, q2, q3, q4⟩ := ih (q + 1) u (hp_wi σ 59 (24 * p + q) (nI (gap w p q))) (by omega) (by omega) (fun q' h => by
      by_cases c : q' = q
      · rw [c, hp_wi_at]
      · rw [hp_wi_nj (by omega)]; exact hd q' (by omega))
    refine ⟨τ, (fr.wi (by decide)).tr q1, q2, fun j hj => by rw [q3 j hj, hp_wi_nj (by omega)], ?_⟩
    unfold g23_10
    rw [if_neg (nI_ge (by omega) (by omega)), r57_2, if_neg nw, if_neg nw, if_neg nw, if_neg nw, gap_I hw1 hw (by omega) (by omega), ix_b, b59 (by omega), nI_1]
    exact q4
theorem c_gaps (hn : n ≤ 24) (hw1 : 1 ≤ w) (hw : w ≤ 24) (hN : iv_N N) : ∀ (m p u : Nat) (σ : hp_S), p + m = n → m < u → (∀ p' q, p' < p → q < n → σ.1 59 (24 * p' + q) = nI (gap w p' q)) → ∃ τ, fr [59] [] σ τ ∧ GPy τ n w ∧ g23_2 N u 57 (nI n) (nI w) (nI p) (hp σ, cs) = some (.inl none, (hp τ, cs)) := by
  intro m
  induction m with
  | zero =>
    intro p u σ hp' hu hd
    obtain ⟨u, rfl⟩ : ∃ q, u = q + 1 := ⟨u - 1, by omega⟩
    refine ⟨σ, fr.rf, fun p' q h1 h2 => hd p' q (by omega) h2, ?_⟩
    unfold g23_2
    rw [if_pos (nI_le (by omega) (by omega))]
  | succ m ih =>
    intro p u σ hp' hu hd
    obtain ⟨u, rfl⟩ : ∃ q, u = q + 1 := ⟨u - 1, by omega⟩
    obtain ⟨τ1, a1, a2, a3, a4⟩ := c_g10 (N := N) (cs := cs) (n := n) (w := w) (p := p) (k2 := g23_2 N u) hn hw1 hw (by omega) n 0 N σ (by omega) (by unfold iv_N at hN; omega) (fun q' h => absurd h (Nat.not_lt_zero _))
    obtain ⟨τ, q1, q2, q3⟩ := ih (p + 1) u τ1 (by omega) (by omega) (fun p' q h1 h2 => by
      by_cases c : p' = p
      · rw [c]; exact a2 q h2
      · rw [a3 _ (by omega)]; exact hd p' q (by omega) h2)
    refine ⟨τ, a1.tr q1, q2, ?_⟩
    unfold g23_2
    rw [if_neg (nI_ge (by omega) (by omega))]
    rw [show g23_10 N (g23_2 N u) N 57 (nI n) (nI w) (nI p) 0 (hp σ, cs) = _ from a4]
    exact q3
/-- a row of places -/
def RWy (σ : hp_S) (cs : Nat × Nat) (r : Nat) (P : Nat → Nat) (i : Nat) : Prop := ∀ g : Int32 → lf_R, (lf_ri (hp σ, cs) r (nI i)).bind g = g (nI (P i))
theorem c_reach {r x : Nat} (hn : n ≤ 24) (hG : GPy σ n w) (hx : x < n) : ∀ (c u : Nat) (X : Int32) (acc : Nat), (bl X).length = c → c < u → (∀ i, bt X i = true → P i < n ∧ RWy σ cs r P i) → g25_6 N u 57 r (nI x) (nI acc) X (hp σ, cs) = some (.inl (some (.int (nI (acc + rsY w P x (bl X))))), (hp σ, cs)) := by
  intro c
  induction c with
  | zero =>
    intro u X acc hc hu hX
    obtain ⟨u, rfl⟩ : ∃ q, u = q + 1 := ⟨u - 1, by omega⟩
    have e0 : X = 0 := b_nothing.mpr (fun i hi => by
      have := bl_mem.mpr hi
      rw [List.eq_nil_of_length_eq_zero hc] at this
      cases this)
    unfold g25_6
    rw [if_pos e0, List.eq_nil_of_length_eq_zero hc]
    rfl
  | succ c ih =>
    intro u X acc hc hu hX
    obtain ⟨u, rfl⟩ : ∃ q, u = q + 1 := ⟨u - 1, by omega⟩
    have h0 : ¬ X = 0 := fun e => by
      rw [e, bl_0] at hc
      cases hc
    obtain ⟨l, l1, l2, l3, l4, l5⟩ := bl_low h0
    obtain ⟨p1, p2⟩ := hX l l2
    rw [l4, List.length_cons] at hc
    have := ih u (X &&& (X - 1)) (acc + gap w x (P l)) (by omega) (by omega) (fun i hi => hX i (by
      rw [l3 i, Bool.and_eq_true] at hi
      exact hi.1))
    rw [l4]
    rw [show rsY w P x (l :: bl (X &&& (X - 1))) = gap w x (P l) + rsY w P x (bl (X &&& (X - 1))) from rfl, show acc + (gap w x (P l) + rsY w P x (bl (X &&& (X - 1)))) = acc + gap w x (P l) + rsY w P x (bl (X &&& (X - 1))) by omega, ← this]
    rw [g25_6]
    rw [if_neg h0, r57_2, (l5 N (hp σ, cs)).1, lf_nest_r, lf_ci_r, p2, ix_b, a59 (by omega), hG x (P l) hx p1, nI_add]
theorem c_rch {r x : Nat} {X : Int32} (hn : n ≤ 24) (hN : iv_N N) (hG : GPy σ n w) (hx : x < n) (hX : ∀ i, bt X i = true → P i < n ∧ RWy σ cs r P i) : f25 N 57 r X (nI x) (hp σ, cs) = some (.inl (some (.int (nI (rsY w P x (bl X))))), (hp σ, cs)) := by
  have := c_reach (N := N) (cs := cs) (σ := σ) (w := w) (r := r) (x := x) hn hG hx (bl X).length N X 0 rfl (by have := bl_le X; unfold iv_N at hN; omega) hX
  rw [Nat.zero_add] at this
  exact this
theorem hp_scpn (hn : n ≤ 24) : lf_cp (hp σ, cs) 60 0 58 0 (nI n) = some (hp (hp_fill σ 58 n (σ.1 60)), cs) := by
  have ha : hp_lay[58]? = some (0, 24, [], []) := rfl
  have hb : hp_lay[60]? = some (0, 24, [], []) := rfl
  have hc : (nI n).toNatClampNeg = n := nI_clamp (by omega)
  have hz : (0 : Int32).toNatClampNeg = 0 := by decide
  unfold lf_cp
  rw [hp_ia hb, Option.bind_some, hp_ia ha, Option.bind_some, if_pos ⟨by decide, by decide, nI_pos (by omega), by rw [hc, hz]; show 0 + n ≤ 24; omega, by rw [hc, hz]; show 0 + n ≤ 24; omega⟩]
  congr 2
  refine hp_chg ha ?_ (fun c p hc _ => hp_c_eq (hp_fill_ne hc) rfl rfl rfl)
  show (Sum.inl (0, 24, (hp_fill σ 58 n (σ.1 60)).1 58) : pm_C) = _
  congr 3
  funext j
  show (if 58 = 58 ∧ j < n then σ.1 60 j else σ.1 58 j) = (if (0 : Int32).toNatClampNeg ≤ j ∧ j < (0 : Int32).toNatClampNeg + (nI n).toNatClampNeg then σ.1 60 ((0 : Int32).toNatClampNeg + (j - (0 : Int32).toNatClampNeg)) else σ.1 58 j)
  rw [hz, hc]
  by_cases h : j < n
  · rw [if_pos ⟨rfl, h⟩, if_pos ⟨by omega, by omega⟩, show 0 + (j - 0) = j by omega]
  · rw [if_neg (fun q => h q.2), if_neg (fun q => h (by omega))]
/-- from one best to another, over some orders -/
def TBy (f : Nat → Int32) (n w b : Nat) (kp : Nat → Nat) (b' : Nat) (kp' : Nat → Nat) (S : (Nat → Nat) → Prop) : Prop := (b' = b ∧ kp' = kp ∧ ∀ Q, prm n Q → S Q → b ≤ lnY f n w Q) ∨ (b' < b ∧ prm n kp' ∧ S kp' ∧ lnY f n w kp' = b' ∧ ∀ Q, prm n Q → S Q → b' ≤ lnY f n w Q ∧ (lnY f n w Q = b' → ¬ lxl n Q kp'))
theorem TBy.tr {b b1 b2 : Nat} {k k1 k2 : Nat → Nat} {S1 S2 : (Nat → Nat) → Prop} (h1 : TBy f n w b k b1 k1 S1) (h2 : TBy f n w b1 k1 b2 k2 S2) (hx : ∀ Q1 Q2, S1 Q1 → S2 Q2 → lxl n Q1 Q2) : TBy f n w b k b2 k2 (fun Q => S1 Q ∨ S2 Q) := by
  rcases h1 with ⟨a1, a2, a3⟩ | ⟨a1, a2, a3, a4, a5⟩
  · subst a1 a2
    rcases h2 with ⟨c1, c2, c3⟩ | ⟨c1, c2, c3, c4, c5⟩
    · exact Or.inl ⟨c1, c2, fun Q hQ z => z.elim (a3 Q hQ) (c3 Q hQ)⟩
    · refine Or.inr ⟨c1, c2, Or.inr c3, c4, fun Q hQ z => ?_⟩
      rcases z with z | z
      · have := a3 Q hQ z
        exact ⟨by omega, fun e => by omega⟩
      · exact c5 Q hQ z
  · rcases h2 with ⟨c1, c2, c3⟩ | ⟨c1, c2, c3, c4, c5⟩
    · subst c1 c2
      refine Or.inr ⟨a1, a2, Or.inl a3, a4, fun Q hQ z => ?_⟩
      rcases z with z | z
      · exact a5 Q hQ z
      · exact ⟨c3 Q hQ z, fun _ => lx_asym (hx _ _ a3 z)⟩
    · refine Or.inr ⟨by omega, c2, Or.inr c3, c4, fun Q hQ z => ?_⟩
      rcases z with z | z
      · have := (a5 Q hQ z).1
        exact ⟨by omega, fun e => by omega⟩
      · exact c5 Q hQ z
theorem TBy.cg {b b1 : Nat} {k k1 : Nat → Nat} {S1 S2 : (Nat → Nat) → Prop} (h1 : TBy f n w b k b1 k1 S1) (e : ∀ Q, prm n Q → (S1 Q ↔ S2 Q)) : TBy f n w b k b1 k1 S2 := by
  rcases h1 with ⟨a1, a2, a3⟩ | ⟨a1, a2, a3, a4, a5⟩
  · exact Or.inl ⟨a1, a2, fun Q hQ z => a3 Q hQ ((e Q hQ).mpr z)⟩
  · exact Or.inr ⟨a1, a2, (e _ a2).mp a3, a4, fun Q hQ z => a5 Q hQ ((e Q hQ).mpr z)⟩
def extY (m : Nat) (P Q : Nat → Nat) : Prop := ∀ k, k < m → Q k = P k
/-- a step of the order -/
def updY (P : Nat → Nat) (m p : Nat) : Nat → Nat := fun k => if k = m then p else P k
theorem updY_at {m p : Nat} : updY P m p m = p := if_pos rfl
theorem updY_ne {m p k : Nat} (h : k ≠ m) : updY P m p k = P k := if_neg h
/-- the trying of places -/
theorem c_tryL (hs : s < 8) (hn : n ≤ 8) (hw : gw f n) (hN : iv_N N) : ∀ (dp m : Nat) (P kp : Nat → Nat) (T : Int32) (b : Nat) (σ : hp_S), m ≤ n → n < m + dp → (∀ k, k < m → P k < n) → (∀ i j, i < m → j < m → P i = P j → i = j) → (∀ i, bt T i = true ↔ ∃ k, k < m ∧ P k = i) → lpY f w P m < b → b ≤ 2000000 → σ.2.2.1 (2 + 2 * s) 1 = nI n → (∀ j, j < 24 → σ.1 (3 + 2 * s) j = f j) → GPy σ n w → (∀ k, k < m → σ.1 60 k = nI (P k)) → σ.2.2.1 57 4 = nI b → (∀ j, j < n → σ.1 58 j = nI (kp j)) → ∃ τ b' kp', fr [58, 60] [(57, 4)] σ τ ∧ (∀ k, k < m → τ.1 60 k = σ.1 60 k) ∧ τ.2.2.1 57 4 = nI b' ∧ (∀ j, j < n → τ.1 58 j = nI (kp' j)) ∧ TBy f n w b kp b' kp' (extY m P) ∧ f24r N dp 57 (2 + 2 * s) (nI m) T (nI (lpY f w P m)) (hp σ, cs) = some (.inl none, (hp τ, cs)) := by
  intro dp
  induction dp with
  | zero => intro m P kp T b σ h1 h2; omega
  | succ dp ih =>
    intro m P kp T b σ hm hdp hP1 hP2 hT hlb hb e1 hr hG h60 h4 h58
    by_cases cm : m = n
    · subst cm
      refine ⟨hp_fill (hp_wf σ 57 4 (nI (lpY f w P m))) 58 m (σ.1 60), lpY f w P m, P, (fr.wf (by decide)).tr (fr.fill (by decide)), fun k hk => ?_, ?_, fun j hj => ?_, ?_, ?_⟩
      · show (if 60 = 58 ∧ k < m then σ.1 60 k else σ.1 60 k) = _
        rw [if_neg (by omega)]
      · show (hp_wf σ 57 4 (nI (lpY f w P m))).2.2.1 57 4 = _
        rw [hp_wf_at]
      · show (if 58 = 58 ∧ j < m then σ.1 60 j else σ.1 58 j) = _
        rw [if_pos ⟨rfl, hj⟩]
        exact h60 j hj
      · refine Or.inr ⟨hlb, ⟨hP1, hP2⟩, fun _ _ => rfl, (lpY_ln (by omega) hw).symm, fun Q hQ z => ⟨?_, fun _ => ?_⟩⟩
        · rw [lnY_cg (P := Q) (Q := P) z, lpY_ln (by omega) hw]
          exact Nat.le_refl _
        · rintro ⟨d, d1, d2, d3⟩
          have := z d d1
          omega
      · unfold f24r
        rw [sN_1 hs, e1, if_neg (nI_nlt (Nat.le_refl _) (by omega)), w57_4, r57_3, r57_0, sN_1 hs]
        rw [show (hp_wf σ 57 4 (nI (lpY f w P m))).2.2.1 (2 + 2 * s) 1 = nI m by rw [hp_wf_ne (by omega)]; exact e1, hp_scpn (by omega), Option.bind_some]
        rfl
    · have hmn : m < n := by omega
      have loop : ∀ (c p u b0 : Nat) (k0 : Nat → Nat) (σ : hp_S), p + c = n → c < u → b0 ≤ 2000000 → σ.2.2.1 (2 + 2 * s) 1 = nI n → (∀ j, j < 24 → σ.1 (3 + 2 * s) j = f j) → GPy σ n w → (∀ k, k < m → σ.1 60 k = nI (P k)) → σ.2.2.1 57 4 = nI b0 → (∀ j, j < n → σ.1 58 j = nI (k0 j)) → TBy f n w b kp b0 k0 (fun Q => extY m P Q ∧ Q m < p) → ∃ τ b' kp', fr [58, 60] [(57, 4)] σ τ ∧ (∀ k, k < m → τ.1 60 k = σ.1 60 k) ∧ τ.2.2.1 57 4 = nI b' ∧ (∀ j, j < n → τ.1 58 j = nI (kp' j)) ∧ TBy f n w b kp b' kp' (fun Q => extY m P Q ∧ Q m < n) ∧ g24_35 N (f24r N dp) u 57 (2 + 2 * s) (nI m) T (nI (lpY f w P m)) (nI p) (hp σ, cs) = some (.inl none, (hp τ, cs)) := by
        intro c
        induction c with
        | zero =>
          intro p u b0 k0 σ hp' hu hb0 e1 hr hG h60 h4 h58 hTB
          obtain ⟨u, rfl⟩ : ∃ q, u = q + 1 := ⟨u - 1, by omega⟩
          have : p = n := by omega
          subst this
          refine ⟨σ, b0, k0, fr.rf, fun _ _ => rfl, h4, h58, hTB, ?_⟩
          unfold g24_35
          rw [sN_1 hs, e1, if_pos (nI_le (Nat.le_refl _) (by omega))]
        | succ c ihc =>
          intro p u b0 k0 σ hp' hu hb0 e1 hr hG h60 h4 h58 hTB
          obtain ⟨u, rfl⟩ : ∃ q, u = q + 1 := ⟨u - 1, by omega⟩
          have hpn : p < n := by omega
          have hsplit : ∀ b1 k1, TBy f n w b0 k0 b1 k1 (fun Q => extY m P Q ∧ Q m = p) → TBy f n w b kp b1 k1 (fun Q => extY m P Q ∧ Q m < p + 1) := fun b1 k1 h => (hTB.tr h (fun Q1 Q2 z1 z2 => ⟨m, hmn, fun k hk => by rw [z1.1 k hk, z2.1 k hk], by rw [z2.2]; exact z1.2⟩)).cg (fun Q hQ => ⟨fun z => by
              rcases z with z | z
              · exact ⟨z.1, by omega⟩
              · exact ⟨z.1, by omega⟩, fun z => by
              by_cases y : Q m = p
              · exact Or.inr ⟨z.1, y⟩
              · exact Or.inl ⟨z.1, by omega⟩⟩)
          by_cases ct : bt T p = true
          · obtain ⟨k9, k91, k92⟩ := (hT p).mp ct
            obtain ⟨τ, b', kp', q1, q2, q3, q4, q5, q6⟩ := ihc (p + 1) u b0 k0 σ (by omega) (by omega) hb0 e1 hr hG h60 h4 h58 (hsplit b0 k0 (Or.inl ⟨rfl, rfl, fun Q hQ z => by
              have := z.1 k9 k91
              have := hQ.2 k9 m (by omega) hmn (by omega)
              omega⟩))
            refine ⟨τ, b', kp', q1, q2, q3, q4, q5, ?_⟩
            unfold g24_35 g24_113
            rw [sN_1 hs, e1, if_neg (nI_ge hpn (by omega)), sh_bit (by omega), if_pos ct, if_pos (by decide), nI_1]
            exact q6
          · have hX : ∀ i, bt (f m &&& al m) i = true → updY P m p i < n ∧ RWy σ cs 60 (updY P m p) i := fun i hi => by
              have h9 := ((low_in (n := n) (by omega) hmn).mp hi).2
              rw [updY_ne (by omega)]
              refine ⟨hP1 i h9, fun g => ?_⟩
              rw [a60 (by omega), h60 i h9, updY_ne (by omega)]
            have hrc := c_rch (N := N) (cs := cs) (σ := σ) (w := w) (r := 60) (x := p) (P := updY P m p) (X := f m &&& al m) (by omega) hN hG hpn hX
            have elp : lpY f w (updY P m p) (m + 1) = lpY f w P m + rsY w (updY P m p) p (bl (f m &&& al m)) := by
              rw [lpY_s, updY_at, lpY_cg (Q := P) (n := n) (by omega) (by omega) (fun k hk => updY_ne (by omega))]
            have hle : lpY f w (updY P m p) (m + 1) ≤ 100000000 := by
              have h5 : rsY w (updY P m p) p (bl (f m &&& al m)) ≤ 24 * 46 := by
                rw [rsY_bl (n := n) (by omega) (fun i hi => by have := ((low_in (n := n) (by omega) hmn).mp hi).2; omega)]
                have := sm_le (F := fun u => if bt (f m &&& al m) u = true then gap w p (updY P m p u) else 0) (G := fun _ => 46) (n := n) (fun k hk => by
                  (try dsimp only)
                  by_cases c9 : bt (f m &&& al m) k = true
                  · rw [if_pos c9]
                    have h8 := (hX k c9).1
                    exact gap_le (by omega) (by omega)
                  · rw [if_neg c9]
                    omega)
                rw [sm_c] at this
                have : n * 46 ≤ 24 * 46 := Nat.mul_le_mul_right 46 (by omega)
                omega
              omega
            have pre : g24_35 N (f24r N dp) (u + 1) 57 (2 + 2 * s) (nI m) T (nI (lpY f w P m)) (nI p) (hp σ, cs) = if nI b0 ≤ nI (lpY f w (updY P m p) (m + 1)) then g24_113 N (f24r N dp) (g24_35 N (f24r N dp) u) 57 (2 + 2 * s) (nI m) T (nI (lpY f w P m)) (nI p) (hp σ, cs) else (lf_cv (f24r N dp 57 (2 + 2 * s) (nI (m + 1)) (T ||| lf_shl 1 (nI p)) (nI (lpY f w (updY P m p) (m + 1))) (hp (hp_wi σ 60 m (nI p)), cs)) fun w25 => g24_113 N (f24r N dp) (g24_35 N (f24r N dp) u) 57 (2 + 2 * s) (nI m) T (nI (lpY f w P m)) (nI p) w25) := by
              rw [g24_35]
              rw [sN_1 hs, e1, if_neg (nI_ge hpn (by omega)), sh_bit (by omega), if_neg ct, if_neg (fun z => z rfl), r57_3, sN_r hs, sN_ri hs (by omega), hr m (by omega), o57]
              rw [show f m &&& (lf_shl 1 (nI m) - 1) = f m &&& al m from rfl, hrc, lf_ci_r, i57_4, h4, nI_add, ← elp, r57_3, b60 (by omega), o57, nI_1]
            by_cases cb : b0 ≤ lpY f w (updY P m p) (m + 1)
            · obtain ⟨τ, b', kp', q1, q2, q3, q4, q5, q6⟩ := ihc (p + 1) u b0 k0 σ (by omega) (by omega) hb0 e1 hr hG h60 h4 h58 (hsplit b0 k0 (Or.inl ⟨rfl, rfl, fun Q hQ z => by
                have h9 : lpY f w (updY P m p) (m + 1) = lpY f w Q (m + 1) := lpY_cg (n := n) (by omega) (by omega) (fun k hk => by
                  by_cases y : k = m
                  · rw [y, updY_at]; exact z.2.symm
                  · rw [updY_ne y]; exact (z.1 k (by omega)).symm)
                have h8 := lpY_mono (f := f) (w := w) (P := Q) (show m + 1 ≤ n by omega)
                rw [lpY_ln (by omega) hw] at h8
                omega⟩))
              refine ⟨τ, b', kp', q1, q2, q3, q4, q5, ?_⟩
              rw [pre, if_pos (nI_le cb (by omega))]
              unfold g24_113
              rw [nI_1]
              exact q6
            · have w1 : fr [58, 60] [(57, 4)] σ (hp_wi σ 60 m (nI p)) := fr.wi (by decide)
              obtain ⟨τ1, b1, k1, r1, r2, r3, r4, r5, r6⟩ := ih (m + 1) (updY P m p) k0 (T ||| lf_shl 1 (nI p)) b0 (hp_wi σ 60 m (nI p)) (by omega) (by omega) (fun k hk => by
                by_cases y : k = m
                · rw [y, updY_at]; exact hpn
                · rw [updY_ne y]; exact hP1 k (by omega)) (fun i j hi hj e => by
                have nin : ∀ k, k < m → P k ≠ p := fun k hk z => ct ((hT p).mpr ⟨k, hk, z⟩)
                by_cases y : i = m
                · by_cases x : j = m
                  · rw [y, x]
                  · rw [y, updY_at, updY_ne x] at e
                    exact absurd e.symm (nin j (by omega))
                · by_cases x : j = m
                  · rw [x, updY_at, updY_ne y] at e
                    exact absurd e (nin i (by omega))
                  · rw [updY_ne y, updY_ne x] at e
                    exact hP2 i j (by omega) (by omega) e) (fun i => by
                rw [tk_on (by omega), hT i]
                constructor
                · rintro (⟨k, k1, k2⟩ | z)
                  · exact ⟨k, by omega, by rw [updY_ne (by omega)]; exact k2⟩
                  · exact ⟨m, by omega, by rw [updY_at]; exact z.symm⟩
                · rintro ⟨k, k1, k2⟩
                  by_cases y : k = m
                  · rw [y, updY_at] at k2
                    exact Or.inr k2.symm
                  · rw [updY_ne y] at k2
                    exact Or.inl ⟨k, by omega, k2⟩) (by omega) hb0 (by rw [show (hp_wi σ 60 m (nI p)).2.2.1 (2 + 2 * s) 1 = σ.2.2.1 (2 + 2 * s) 1 from rfl]; exact e1) (fun j hj => by rw [hp_wi_ne (by omega)]; exact hr j hj) (fun a b ha hb => by rw [hp_wi_ne (by decide)]; exact hG a b ha hb) (fun k hk => by
                by_cases y : k = m
                · rw [y, hp_wi_at, updY_at]
                · rw [hp_wi_nj y, updY_ne y]; exact h60 k (by omega)) h4 (fun j hj => by rw [hp_wi_ne (by decide)]; exact h58 j hj)
              have hext : ∀ Q, prm n Q → (extY (m + 1) (updY P m p) Q ↔ extY m P Q ∧ Q m = p) := fun Q _ => ⟨fun z => ⟨fun k hk => by rw [z k (by omega), updY_ne (by omega)], by rw [z m (by omega), updY_at]⟩, fun z k hk => by
                by_cases y : k = m
                · rw [y, updY_at]; exact z.2
                · rw [updY_ne y]; exact z.1 k (by omega)⟩
              have w2 := w1.tr r1
              have hb1 : b1 ≤ 2000000 := by
                rcases r5 with ⟨z, -⟩ | ⟨z, -⟩ <;> omega
              obtain ⟨τ, b', kp', q1, q2, q3, q4, q5, q6⟩ := ihc (p + 1) u b1 k1 τ1 (by omega) (by omega) hb1 (by rw [w2.f (by simp)]; exact e1) (fun j hj => by rw [w2.r (by simp; omega)]; exact hr j hj) (fun a b ha hb => by rw [w2.r (by decide)]; exact hG a b ha hb) (fun k hk => by rw [r2 k (by omega), hp_wi_nj (by omega)]; exact h60 k hk) r3 r4 (hsplit b1 k1 (r5.cg hext))
              refine ⟨τ, b', kp', w2.tr q1, fun k hk => by rw [q2 k hk, r2 k (by omega), hp_wi_nj (by omega)], q3, q4, q5, ?_⟩
              rw [pre, if_neg (nI_ge (by omega) (by omega)), r6, lf_cv_r]
              unfold g24_113
              rw [nI_1]
              exact q6
      obtain ⟨τ, b', kp', q1, q2, q3, q4, q5, q6⟩ := loop n 0 N b kp σ (by omega) (by unfold iv_N at hN; omega) hb e1 hr hG h60 h4 h58 (Or.inl ⟨rfl, rfl, fun Q _ z => absurd z.2 (Nat.not_lt_zero _)⟩)
      refine ⟨τ, b', kp', q1, q2, q3, q4, q5.cg (fun Q hQ => ⟨fun z => z.1, fun z => ⟨z, hQ.1 m hmn⟩⟩), ?_⟩
      unfold f24r
      rw [sN_1 hs, e1, if_pos (nI_lt hmn (by omega))]
      exact q6
end LYC
