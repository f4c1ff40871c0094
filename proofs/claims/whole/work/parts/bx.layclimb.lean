/-! lay: changes of two places, as long as one shortens -/
section LYK
variable {cs : Nat × Nat} {N n s w : Nat} {f : Nat → Int32} {P : Nat → Nat} {σ τ : hp_S}
abbrev stY : Type := Nat × Nat × Nat
def scJ (V : Nat → Nat → Nat) (i : Nat) : Nat → Nat → stY → stY
  | 0, _, st => st
  | m + 1, j, st => scJ V i m (j + 1) (if V i j < st.1 then (V i j, i, j) else st)
def scI (V : Nat → Nat → Nat) (n : Nat) : Nat → Nat → stY → stY
  | 0, _, st => st
  | m + 1, i, st => scI V n m (i + 1) (scJ V i (n - (i + 1)) (i + 1) st)
def vY (f : Nat → Int32) (n w : Nat) (P : Nat → Nat) (i j : Nat) : Nat := lnY f n w (swp P i j)
def scn (f : Nat → Int32) (n w : Nat) (P : Nat → Nat) : stY := scI (vY f n w P) n n 0 (lnY f n w P, 0, 0)
/-- where a search for the best change stands -/
def SIy (L n : Nat) (V : Nat → Nat → Nat) (st : stY) : Prop := st = (L, 0, 0) ∨ (st.1 < L ∧ st.2.1 < st.2.2 ∧ st.2.2 < n ∧ st.1 = V st.2.1 st.2.2)
theorem SIy.step {L : Nat} {V : Nat → Nat → Nat} {st : stY} {i j : Nat} (h : SIy L n V st) (hij : i < j) (hj : j < n) : SIy L n V (if V i j < st.1 then (V i j, i, j) else st) := by
  by_cases c : V i j < st.1
  · rw [if_pos c]
    refine Or.inr ⟨?_, hij, hj, rfl⟩
    rcases h with h | h
    · rw [h] at c; exact c
    · show V i j < L; omega
  · rw [if_neg c]
    exact h
theorem SIy.le {L : Nat} {V : Nat → Nat → Nat} {st : stY} (h : SIy L n V st) : st.1 ≤ L := by
  rcases h with h | h
  · rw [h]; exact Nat.le_refl _
  · omega
theorem scJ_si {L : Nat} {V : Nat → Nat → Nat} {i : Nat} : ∀ (m j : Nat) (st : stY), i < j → j + m = n → SIy L n V st → SIy L n V (scJ V i m j st)
  | 0, _, _, _, _, h => h
  | m + 1, j, st, h1, h2, h => scJ_si m (j + 1) _ (by omega) (by omega) (h.step h1 (by omega))
theorem scI_si {L : Nat} {V : Nat → Nat → Nat} : ∀ (m i : Nat) (st : stY), i + m = n → SIy L n V st → SIy L n V (scI V n m i st)
  | 0, _, _, _, h => h
  | m + 1, i, st, h2, h => scI_si m (i + 1) _ (by omega) (scJ_si (n - (i + 1)) (i + 1) st (by omega) (by omega) h)
theorem scn_si : SIy (lnY f n w P) n (vY f n w P) (scn f n w P) := scI_si n 0 _ (by omega) (Or.inl rfl)
def clY (f : Nat → Int32) (n w : Nat) : Nat → (Nat → Nat) → (Nat → Nat)
  | 0, P => P
  | k + 1, P => if (scn f n w P).1 < lnY f n w P then clY f n w k (swp P (scn f n w P).2.1 (scn f n w P).2.2) else P
theorem clY_prm : ∀ (k : Nat) (P : Nat → Nat), prm n P → prm n (clY f n w k P)
  | 0, _, h => h
  | k + 1, P, h => by
    show prm n (if (scn f n w P).1 < lnY f n w P then clY f n w k (swp P (scn f n w P).2.1 (scn f n w P).2.2) else P)
    by_cases c : (scn f n w P).1 < lnY f n w P
    · rw [if_pos c]
      rcases scn_si (f := f) (n := n) (w := w) (P := P) with z | z
      · rw [z] at c
        exact absurd c (Nat.lt_irrefl _)
      · exact clY_prm k _ (swp_prm h (by omega) z.2.2.1)
    · rw [if_neg c]
      exact h
/-- the class's row of places -/
def KPy (σ : hp_S) (n : Nat) (P : Nat → Nat) : Prop := ∀ k, k < n → σ.1 58 k = nI (P k)
theorem KPy.rw (hn : n ≤ 24) (h : KPy σ n P) {i : Nat} (hi : i < n) : RWy σ cs 58 P i := fun g => by rw [a58 (by omega), h i hi]
theorem c_gain {i j : Nat} (hs : s < 8) (hn : n ≤ 24) (hw : gw f n) (hN : iv_N N) (hij : i < j) (hj : j < n) (hP : prm n P) (hr : ∀ j, j < 24 → σ.1 (3 + 2 * s) j = f j) (hG : GPy σ n w) (hK : KPy σ n P) : f28 N 57 (2 + 2 * s) (nI i) (nI j) (hp σ, cs) = some (.inl (some (.int (nI (lnY f n w P) - nI (vY f n w P i j)))), (hp σ, cs)) := by
  have hA : ∀ k, bt (f i &&& (lf_shl 1 (nI j) ^^^ (-1))) k = true → P k < n ∧ RWy σ cs 58 P k := fun k hk => by
    have := (hw i (by omega) k (b_andn.mp hk).1).2.1
    exact ⟨hP.1 k this, hK.rw hn this⟩
  have hB : ∀ k, bt (f j &&& (lf_shl 1 (nI i) ^^^ (-1))) k = true → P k < n ∧ RWy σ cs 58 P k := fun k hk => by
    have := (hw j (by omega) k (b_andn.mp hk).1).2.1
    exact ⟨hP.1 k this, hK.rw hn this⟩
  have hg := gainY (w := w) (P := P) hn hw hij hj
  have pi := hP.1 i (by omega)
  have pj := hP.1 j hj
  have eg : nI (rsY w P (P i) (bl (f i &&& (lf_shl 1 (nI j) ^^^ (-1))))) - nI (rsY w P (P j) (bl (f i &&& (lf_shl 1 (nI j) ^^^ (-1))))) + nI (rsY w P (P j) (bl (f j &&& (lf_shl 1 (nI i) ^^^ (-1))))) - nI (rsY w P (P i) (bl (f j &&& (lf_shl 1 (nI i) ^^^ (-1))))) = nI (lnY f n w P) - nI (vY f n w P i j) := by
    unfold vY
    have h2 := congrArg nI hg
    rw [← nI_add, ← nI_add, ← nI_add, ← nI_add] at h2
    grind
  unfold f28
  rw [sN_r hs, sN_ri hs (by omega), hr i (by omega), sN_r hs, sN_ri hs (by omega), hr j (by omega), r57_0, r57_0, a58 (by omega), hK i (by omega), o57, c_rch (P := P) (w := w) hn hN hG pi hA, lf_ci_r, r57_0, r57_0, a58 (by omega), hK j hj, o57, c_rch (P := P) (w := w) hn hN hG pj hA, lf_ci_r, r57_0, r57_0, a58 (by omega), hK j hj, o57, c_rch (P := P) (w := w) hn hN hG pj hB, lf_ci_r, r57_0, r57_0, a58 (by omega), hK i (by omega), o57, c_rch (P := P) (w := w) hn hN hG pi hB, lf_ci_r, eg]
theorem sub_le {L a b : Nat} (hL : L < 2 ^ 30) (ha : a < 2 ^ 30) (hb : b < 2 ^ 30) : nI L - nI a ≤ nI L - nI b ↔ b ≤ a := by
  rw [fa_le, pk_sub_toInt hL ha, pk_sub_toInt hL hb]
  omega
theorem c_x25 {i : Nat} {k10 : Nat → Nat → Int32 → Int32 → Int32 → Int32 → lf_W → lf_R} (hs : s < 8) (hn : n ≤ 24) (hw : gw f n) (hN : iv_N N) (hP : prm n P) (e1 : σ.2.2.1 (2 + 2 * s) 1 = nI n) (hr : ∀ j, j < 24 → σ.1 (3 + 2 * s) j = f j) (hG : GPy σ n w) (hK : KPy σ n P) : ∀ (m j u : Nat) (st : stY), i < j → j + m = n → m < u → SIy (lnY f n w P) n (vY f n w P) st → g27_25 N k10 u 57 (2 + 2 * s) (nI (lnY f n w P) - nI st.1) (nI st.2.1) (nI st.2.2) (nI i) (nI j) (hp σ, cs) = k10 57 (2 + 2 * s) (nI (lnY f n w P) - nI (scJ (vY f n w P) i m j st).1) (nI (scJ (vY f n w P) i m j st).2.1) (nI (scJ (vY f n w P) i m j st).2.2) (nI (i + 1)) (hp σ, cs) := by
  have hL := lnY_le (f := f) (w := w) hn hP.1
  intro m
  induction m with
  | zero =>
    intro j u st hij hj hu hS
    obtain ⟨u, rfl⟩ : ∃ q, u = q + 1 := ⟨u - 1, by omega⟩
    unfold g27_25
    rw [sN_1 hs, e1, if_pos (nI_le (by omega) (by omega)), nI_1]
    rfl
  | succ m ih =>
    intro j u st hij hj hu hS
    obtain ⟨u, rfl⟩ : ∃ q, u = q + 1 := ⟨u - 1, by omega⟩
    have hV : vY f n w P i j ≤ 26496 := lnY_le hn (swp_prm hP (by omega) (by omega)).1
    have hle := hS.le
    have ih2 := ih (j + 1) u (if vY f n w P i j < st.1 then (vY f n w P i j, i, j) else st) (by omega) (by omega) (by omega) (hS.step hij (by omega))
    show _ = k10 57 (2 + 2 * s) (nI (lnY f n w P) - nI (scJ (vY f n w P) i m (j + 1) (if vY f n w P i j < st.1 then (vY f n w P i j, i, j) else st)).1) (nI (scJ (vY f n w P) i m (j + 1) (if vY f n w P i j < st.1 then (vY f n w P i j, i, j) else st)).2.1) (nI (scJ (vY f n w P) i m (j + 1) (if vY f n w P i j < st.1 then (vY f n w P i j, i, j) else st)).2.2) (nI (i + 1)) (hp σ, cs)
    rw [← ih2, g27_25]
    rw [sN_1 hs, e1, if_neg (nI_ge (by omega) (by omega)), o57, c_gain (w := w) hs hn hw hN hij (by omega) hP hr hG hK, lf_ci_r]
    unfold g27_61
    by_cases c : vY f n w P i j < st.1
    · rw [if_neg (fun z => by rw [sub_le (by omega) (by omega) (by omega)] at z; omega), if_pos c, nI_1]
    · rw [if_pos ((sub_le (by omega) (by omega) (by omega)).mpr (by omega)), if_neg c, nI_1]
theorem c_x10 (hs : s < 8) (hn1 : 1 ≤ n) (hn : n ≤ 24) (hw : gw f n) (hN : iv_N N) (hP : prm n P) (e1 : σ.2.2.1 (2 + 2 * s) 1 = nI n) (hr : ∀ j, j < 24 → σ.1 (3 + 2 * s) j = f j) (hG : GPy σ n w) (hK : KPy σ n P) : ∀ (m i u : Nat) (st : stY), i + m = n → m < u → SIy (lnY f n w P) n (vY f n w P) st → ∃ τ, fr [58] [] σ τ ∧ KPy τ n (swp P (scI (vY f n w P) n m i st).2.1 (scI (vY f n w P) n m i st).2.2) ∧ g27_10 N u 57 (2 + 2 * s) (nI (lnY f n w P) - nI st.1) (nI st.2.1) (nI st.2.2) (nI i) (hp σ, cs) = some (.inl (some (.int (if (scI (vY f n w P) n m i st).1 < lnY f n w P then 1 else 0))), (hp τ, cs)) := by
  have hL := lnY_le (f := f) (w := w) hn hP.1
  intro m
  induction m with
  | zero =>
    intro i u st hi hu hS
    obtain ⟨u, rfl⟩ : ∃ q, u = q + 1 := ⟨u - 1, by omega⟩
    have hle := hS.le
    have hb : st.2.1 < n ∧ st.2.2 < n := by
      rcases hS with z | z
      · rw [z]; exact ⟨hn1, hn1⟩
      · omega
    refine ⟨hp_wi (hp_wi σ 58 st.2.1 (nI (P st.2.2))) 58 st.2.2 (nI (P st.2.1)), (fr.wi (by decide)).tr (fr.wi (by decide)), fun k hk => ?_, ?_⟩
    · show _ = nI (swp P st.2.1 st.2.2 k)
      by_cases c : k = st.2.2
      · rw [c, hp_wi_at, swp_j]
      · rw [hp_wi_nj c]
        by_cases d : k = st.2.1
        · rw [d, hp_wi_at, swp_i]
        · rw [hp_wi_nj d, swp_n d c]
          exact hK k hk
    · rw [show scI (vY f n w P) n 0 i st = st from rfl]
      have h0 : (0 : Int32).toInt = 0 := rfl
      unfold g27_10
      rw [sN_1 hs, e1, if_pos (nI_le (by omega) (by omega)), r57_0, a58 (by omega), hK _ hb.1, r57_0, r57_0, a58 (by omega), hK _ hb.2, b58 (by omega), r57_0, b58 (by omega)]
      by_cases c : st.1 < lnY f n w P
      · rw [if_pos c, if_neg (by rw [fa_le, pk_sub_toInt (by omega) (by omega), h0]; omega)]
      · rw [if_neg c, if_pos (by rw [fa_le, pk_sub_toInt (by omega) (by omega), h0]; omega)]
  | succ m ih =>
    intro i u st hi hu hS
    obtain ⟨u, rfl⟩ : ∃ q, u = q + 1 := ⟨u - 1, by omega⟩
    have h25 := c_x25 (N := N) (cs := cs) (σ := σ) (i := i) (k10 := g27_10 N u) (w := w) hs hn hw hN hP e1 hr hG hK (n - (i + 1)) (i + 1) N st (by omega) (by omega) (by unfold iv_N at hN; omega) hS
    obtain ⟨τ, q1, q2, q3⟩ := ih (i + 1) u (scJ (vY f n w P) i (n - (i + 1)) (i + 1) st) (by omega) (by omega) (scJ_si _ _ st (by omega) (by omega) hS)
    refine ⟨τ, q1, q2, ?_⟩
    unfold g27_10
    rw [sN_1 hs, e1, if_neg (nI_ge (by omega) (by omega)), nI_1, h25]
    exact q3
theorem c_exch (hs : s < 8) (hn1 : 1 ≤ n) (hn : n ≤ 24) (hw : gw f n) (hN : iv_N N) (hP : prm n P) (e1 : σ.2.2.1 (2 + 2 * s) 1 = nI n) (hr : ∀ j, j < 24 → σ.1 (3 + 2 * s) j = f j) (hG : GPy σ n w) (hK : KPy σ n P) : ∃ τ, fr [58] [] σ τ ∧ KPy τ n (swp P (scn f n w P).2.1 (scn f n w P).2.2) ∧ f27 N 57 (2 + 2 * s) (hp σ, cs) = some (.inl (some (.int (if (scn f n w P).1 < lnY f n w P then 1 else 0))), (hp τ, cs)) := by
  obtain ⟨τ, q1, q2, q3⟩ := c_x10 (N := N) (cs := cs) (σ := σ) (w := w) hs hn1 hn hw hN hP e1 hr hG hK n 0 N (lnY f n w P, 0, 0) (by omega) (by unfold iv_N at hN; omega) (Or.inl rfl)
  refine ⟨τ, q1, q2, ?_⟩
  unfold f27
  have e0 : nI (lnY f n w P) - nI (lnY f n w P) = 0 := Int32.sub_self _
  have q3 : g27_10 N N 57 (2 + 2 * s) (nI (lnY f n w P) - nI (lnY f n w P)) 0 0 0 (hp σ, cs) = _ := q3
  rw [e0] at q3
  exact q3
theorem swp_0 {i : Nat} : swp P i i = P := by
  funext k
  unfold swp
  by_cases c : k = i
  · rw [if_pos c, c]
  · rw [if_neg c, if_neg c]
theorem c_climb (hs : s < 8) (hn1 : 1 ≤ n) (hn : n ≤ 24) (hw : gw f n) (hN : iv_N N) : ∀ (k r u : Nat) (P : Nat → Nat) (σ : hp_S), lnY f n w P < k → k + 1 < u → r + k ≤ 30000 → prm n P → σ.2.2.1 (2 + 2 * s) 1 = nI n → (∀ j, j < 24 → σ.1 (3 + 2 * s) j = f j) → GPy σ n w → KPy σ n P → ∃ τ, fr [58] [] σ τ ∧ KPy τ n (clY f n w k P) ∧ g22_73 N u 57 (2 + 2 * s) 1 (nI r) (hp σ, cs) = g22_96 N 57 (2 + 2 * s) (hp τ, cs) := by
  intro k
  induction k with
  | zero => intro r u P σ h; omega
  | succ k ih =>
    intro r u P σ hk hu hr9 hP e1 hr hG hK
    obtain ⟨u, rfl⟩ : ∃ q, u = q + 2 := ⟨u - 2, by omega⟩
    obtain ⟨σ1, a1, a2, a3⟩ := c_exch (N := N) (cs := cs) (σ := σ) (w := w) hs hn1 hn hw hN hP e1 hr hG hK
    have step : g22_73 N (u + 2) 57 (2 + 2 * s) 1 (nI r) (hp σ, cs) = g22_73 N (u + 1) 57 (2 + 2 * s) (if (scn f n w P).1 < lnY f n w P then 1 else 0) (nI (r + 1)) (hp σ1, cs) := by
      rw [g22_73]
      rw [if_neg (by decide), if_neg (show ¬ (1000000 : Int32) ≤ nI r from nI_ge (b := 1000000) (by omega) (by omega)), o57, a3, lf_ci_r, nI_1]
    rw [step]
    have ec : clY f n w (k + 1) P = if (scn f n w P).1 < lnY f n w P then clY f n w k (swp P (scn f n w P).2.1 (scn f n w P).2.2) else P := rfl
    rw [ec]
    have hS := scn_si (f := f) (n := n) (w := w) (P := P)
    by_cases c : (scn f n w P).1 < lnY f n w P
    · rw [if_pos c, if_pos c]
      rcases hS with z | z
      · rw [z] at c
        exact absurd c (Nat.lt_irrefl _)
      · have hP2 := swp_prm hP (show (scn f n w P).2.1 < n by omega) z.2.2.1
        obtain ⟨τ, q1, q2, q3⟩ := ih (r + 1) (u + 1) (swp P (scn f n w P).2.1 (scn f n w P).2.2) σ1 (by have := z.2.2.2; unfold vY at this; omega) (by omega) (by omega) hP2 (by rw [a1.f List.not_mem_nil]; exact e1) (fun j hj => by rw [a1.r (by simp; omega)]; exact hr j hj) (fun a b ha hb => by rw [a1.r (by decide)]; exact hG a b ha hb) a2
        exact ⟨τ, a1.tr q1, q2, q3⟩
    · rw [if_neg c, if_neg c]
      rcases hS with z | z
      · rw [z] at a2
        rw [swp_0] at a2
        refine ⟨σ1, a1, a2, ?_⟩
        unfold g22_73
        rw [if_pos rfl]
      · exact absurd z.1 c
theorem c_l4 (hs : s < 8) (hn : n ≤ 24) (hw : gw f n) (hN : iv_N N) (hP : prm n P) (e1 : σ.2.2.1 (2 + 2 * s) 1 = nI n) (hr : ∀ j, j < 24 → σ.1 (3 + 2 * s) j = f j) (hG : GPy σ n w) (hK : KPy σ n P) : ∀ (m a u acc : Nat), a + m = n → m < u → g26_4 N u 57 (2 + 2 * s) (nI acc) (nI a) (hp σ, cs) = some (.inl (some (.int (nI (acc + sm (fun k => rsY w P (P (a + k)) (hl f n (a + k))) m)))), (hp σ, cs)) := by
  intro m
  induction m with
  | zero =>
    intro a u acc ha hu
    obtain ⟨u, rfl⟩ : ∃ q, u = q + 1 := ⟨u - 1, by omega⟩
    unfold g26_4
    rw [sN_1 hs, e1, if_pos (nI_le (by omega) (by omega))]
    rfl
  | succ m ih =>
    intro a u acc ha hu
    obtain ⟨u, rfl⟩ : ∃ q, u = q + 1 := ⟨u - 1, by omega⟩
    have han : a < n := by omega
    have ebl : bl (f a &&& lf_shl (-2) (nI a)) = hl f n a := bl_up han (by omega) (fun i hi => (hw a (by omega) i hi).2.1)
    have hX : ∀ k, bt (f a &&& lf_shl (-2) (nI a)) k = true → P k < n ∧ RWy σ cs 58 P k := fun k hk => by
      have := (hw a (by omega) k (b_and_iff.mp hk).1).2.1
      exact ⟨hP.1 k this, hK.rw hn this⟩
    have hrc := c_rch (N := N) (cs := cs) (σ := σ) (w := w) (r := 58) (x := P a) (P := P) hn hN hG (hP.1 a han) hX
    rw [ebl] at hrc
    have := ih (a + 1) u (acc + rsY w P (P a) (hl f n a)) (by omega) (by omega)
    rw [sm_front, show a + 0 = a from rfl]
    rw [show acc + (rsY w P (P a) (hl f n a) + sm (fun k => rsY w P (P (a + (k + 1))) (hl f n (a + (k + 1)))) m) = acc + rsY w P (P a) (hl f n a) + sm (fun k => rsY w P (P (a + 1 + k)) (hl f n (a + 1 + k))) m by rw [sm_congr (F := fun k => rsY w P (P (a + (k + 1))) (hl f n (a + (k + 1)))) (G := fun k => rsY w P (P (a + 1 + k)) (hl f n (a + 1 + k))) (fun k _ => by rw [show a + (k + 1) = a + 1 + k by omega])]; omega]
    rw [← this, g26_4]
    rw [sN_1 hs, e1, if_neg (nI_ge (by omega) (by omega)), r57_0, sN_o hs, c_higher hs (by omega) (hr a (by omega)), lf_ci_r, r57_0, a58 (by omega), hK a han, o57, hrc, lf_ci_r, nI_add, nI_1]
theorem c_len (hs : s < 8) (hn : n ≤ 24) (hw : gw f n) (hN : iv_N N) (hP : prm n P) (e1 : σ.2.2.1 (2 + 2 * s) 1 = nI n) (hr : ∀ j, j < 24 → σ.1 (3 + 2 * s) j = f j) (hG : GPy σ n w) (hK : KPy σ n P) : f26 N 57 (2 + 2 * s) (hp σ, cs) = some (.inl (some (.int (nI (lnY f n w P)))), (hp σ, cs)) := by
  have := c_l4 (N := N) (cs := cs) (σ := σ) (w := w) hs hn hw hN hP e1 hr hG hK n 0 N 0 (by omega) (by unfold iv_N at hN; omega)
  rw [Nat.zero_add, ← llY_lq n 0 (by omega), llY_ln] at this
  exact this
/-- the model's search for the best change -/
def mI (L : Nat) (st : stY) (x : Nat) : Int32 := if st.1 < L then nI x else -1
theorem PLy.cg {Q : Nat → Nat} (h : PLy σ n P) (e : ∀ k, k < n → P k = Q k) : PLy σ n Q := fun k hk => by rw [← e k hk]; exact h k hk
theorem m_x37 {d i : Nat} {k7 : Nat → Int32 → Int32 → lf_W → lf_R} {k22 : Nat → Int32 → Int32 → Int32 → Int32 → lf_W → lf_R} (hg : GW n d f) (hN : iv_N N) (hw1 : 1 ≤ w) (hw : w ≤ 24) (hP : prm n P) : ∀ (m j u : Nat) (st : stY) (σ : hp_S), i < j → j + m = n → m < u → SIy (lnY f n w P) n (vY f n w P) st → LZy σ n w f → PLy σ n P → ∃ τ, fr [105] [] σ τ ∧ PLy τ n P ∧ g267_37 N k7 k22 u 72 (nI st.1) (mI (lnY f n w P) st st.2.1) (mI (lnY f n w P) st st.2.2) (nI i) (nI j) (hp σ, cs) = k22 72 (nI (scJ (vY f n w P) i m j st).1) (mI (lnY f n w P) (scJ (vY f n w P) i m j st) (scJ (vY f n w P) i m j st).2.1) (mI (lnY f n w P) (scJ (vY f n w P) i m j st) (scJ (vY f n w P) i m j st).2.2) (nI (i + 1)) (hp τ, cs) := by
  have hn := hg.2.1
  have hL := lnY_le (f := f) (w := w) hn hP.1
  intro m
  induction m with
  | zero =>
    intro j u st σ hij hj hu hS hLz h5
    obtain ⟨u, rfl⟩ : ∃ q, u = q + 1 := ⟨u - 1, by omega⟩
    refine ⟨σ, fr.rf, h5, ?_⟩
    unfold g267_37
    rw [i72_4, hLz.2.2, if_pos (nI_le (by omega) (by omega)), nI_1]
    rfl
  | succ m ih =>
    intro j u st σ hij hj hu hS hLz h5
    obtain ⟨u, rfl⟩ : ∃ q, u = q + 1 := ⟨u - 1, by omega⟩
    have hjn : j < n := by omega
    have hPs := swp_prm hP (show i < n by omega) hjn
    have hV : vY f n w P i j ≤ 26496 := lnY_le hn hPs.1
    have hle := hS.le
    obtain ⟨a1, a2⟩ := m_move (N := N) (cs := cs) (σ := σ) (P := P) (i := i) (j := j) hn (by omega) hjn h5
    have w1 : fr [105] [] σ (hp_wi (hp_wi σ 105 i (nI (P j))) 105 j (nI (P i))) := (fr.wi (by decide)).tr (fr.wi (by decide))
    have hL1 := hLz.fr w1 (by decide) (by decide) List.not_mem_nil List.not_mem_nil List.not_mem_nil
    have hlen := m_len (N := N) (cs := cs) (P := swp P i j) hg hN hw1 hw hPs.1 hL1 a2
    obtain ⟨b1, b2⟩ := m_move (N := N) (cs := cs) (σ := hp_wi (hp_wi σ 105 i (nI (P j))) 105 j (nI (P i))) (P := swp P i j) (i := i) (j := j) hn (by omega) hjn a2
    have b2 := b2.cg (Q := P) (fun k hk => by
      by_cases c : k = i
      · rw [c, swp_i, swp_j]
      · by_cases e : k = j
        · rw [e, swp_j, swp_i]
        · rw [swp_n c e, swp_n c e])
    have w2 : fr [105] [] σ (hp_wi (hp_wi (hp_wi (hp_wi σ 105 i (nI (P j))) 105 j (nI (P i))) 105 i (nI (swp P i j j))) 105 j (nI (swp P i j i))) := w1.tr ((fr.wi (by decide)).tr (fr.wi (by decide)))
    obtain ⟨τ, q1, q2, q3⟩ := ih (j + 1) u (if vY f n w P i j < st.1 then (vY f n w P i j, i, j) else st) _ (by omega) (by omega) (by omega) (hS.step hij hjn) (hLz.fr w2 (by decide) (by decide) List.not_mem_nil List.not_mem_nil List.not_mem_nil) b2
    refine ⟨τ, w2.tr q1, q2, ?_⟩
    show _ = k22 72 (nI (scJ (vY f n w P) i m (j + 1) (if vY f n w P i j < st.1 then (vY f n w P i j, i, j) else st)).1) (mI (lnY f n w P) (scJ (vY f n w P) i m (j + 1) (if vY f n w P i j < st.1 then (vY f n w P i j, i, j) else st)) (scJ (vY f n w P) i m (j + 1) (if vY f n w P i j < st.1 then (vY f n w P i j, i, j) else st)).2.1) (mI (lnY f n w P) (scJ (vY f n w P) i m (j + 1) (if vY f n w P i j < st.1 then (vY f n w P i j, i, j) else st)) (scJ (vY f n w P) i m (j + 1) (if vY f n w P i j < st.1 then (vY f n w P i j, i, j) else st)).2.2) (nI (i + 1)) (hp τ, cs)
    rw [← q3, g267_37]
    rw [i72_4, hLz.2.2, if_neg (nI_ge hjn (by omega)), o72, a1, lf_cv_r, o72, hlen, lf_ci_r, o72, b1, lf_cv_r]
    unfold g267_88
    rw [show lnY f n w (swp P i j) = vY f n w P i j from rfl]
    by_cases c : vY f n w P i j < st.1
    · rw [if_pos (nI_lt c (by omega)), if_pos c, nI_1]
      have e9 : ∀ x, mI (lnY f n w P) (vY f n w P i j, i, j) x = nI x := fun x => if_pos (show vY f n w P i j < lnY f n w P by omega)
      rw [e9, e9]
    · rw [if_neg (nI_nlt (by omega) (by omega)), if_neg c, nI_1]
theorem m_x22 {d : Nat} {k7 : Nat → Int32 → Int32 → lf_W → lf_R} (hg : GW n d f) (hN : iv_N N) (hw1 : 1 ≤ w) (hw : w ≤ 24) (hP : prm n P) : ∀ (m i u : Nat) (st : stY) (σ : hp_S), i + m = n → m < u → SIy (lnY f n w P) n (vY f n w P) st → LZy σ n w f → PLy σ n P → ∃ τ, fr [105] [] σ τ ∧ PLy τ n (swp P (scI (vY f n w P) n m i st).2.1 (scI (vY f n w P) n m i st).2.2) ∧ g267_22 N k7 u 72 (nI st.1) (mI (lnY f n w P) st st.2.1) (mI (lnY f n w P) st st.2.2) (nI i) (hp σ, cs) = k7 72 (nI (scI (vY f n w P) n m i st).1) (if (scI (vY f n w P) n m i st).1 < lnY f n w P then 1 else 0) (hp τ, cs) := by
  have hn := hg.2.1
  have hL := lnY_le (f := f) (w := w) hn hP.1
  intro m
  induction m with
  | zero =>
    intro i u st σ hi hu hS hLz h5
    obtain ⟨u, rfl⟩ : ∃ q, u = q + 1 := ⟨u - 1, by omega⟩
    have es : scI (vY f n w P) n 0 i st = st := rfl
    rw [es]
    by_cases c : st.1 < lnY f n w P
    · have hb := hS.resolve_left (fun z => by rw [z] at c; exact absurd c (Nat.lt_irrefl _))
      obtain ⟨a1, a2⟩ := m_move (N := N) (cs := cs) (σ := σ) (P := P) (i := st.2.1) (j := st.2.2) hn (by omega) hb.2.2.1 h5
      refine ⟨_, (fr.wi (by decide)).tr (fr.wi (by decide)), a2, ?_⟩
      have e9 : ∀ x, mI (lnY f n w P) st x = nI x := fun x => if_pos c
      rw [e9, e9, if_pos c]
      unfold g267_22 g267_111 g267_124
      rw [i72_4, hLz.2.2, if_pos (nI_le (by omega) (by omega)), if_neg (by rw [q_ne1 (by omega)]; exact id), if_neg (by decide), o72, a1, lf_cv_r]
    · have hz : st = (lnY f n w P, 0, 0) := hS.resolve_right (fun z => c z.1)
      refine ⟨σ, fr.rf, by rw [hz, swp_0]; exact h5, ?_⟩
      have e9 : ∀ x, mI (lnY f n w P) st x = -1 := fun x => if_neg c
      rw [e9, e9, if_neg c]
      unfold g267_22 g267_111 g267_124
      rw [i72_4, hLz.2.2, if_pos (nI_le (by omega) (by omega)), if_pos rfl, if_pos rfl]
  | succ m ih =>
    intro i u st σ hi hu hS hLz h5
    obtain ⟨u, rfl⟩ : ∃ q, u = q + 1 := ⟨u - 1, by omega⟩
    obtain ⟨σ1, a1, a2, a3⟩ := m_x37 (N := N) (cs := cs) (i := i) (k7 := k7) (k22 := g267_22 N k7 u) (w := w) hg hN hw1 hw hP (n - (i + 1)) (i + 1) N st σ (by omega) (by omega) (by unfold iv_N at hN; omega) hS hLz h5
    obtain ⟨τ, q1, q2, q3⟩ := ih (i + 1) u (scJ (vY f n w P) i (n - (i + 1)) (i + 1) st) σ1 (by omega) (by omega) (scJ_si _ _ st (by omega) (by omega) hS) (hLz.fr a1 (by decide) (by decide) List.not_mem_nil List.not_mem_nil List.not_mem_nil) a2
    refine ⟨τ, a1.tr q1, q2, ?_⟩
    unfold g267_22
    rw [i72_4, hLz.2.2, if_neg (nI_ge (by omega) (by omega)), nI_1, a3]
    exact q3
theorem m_climb {d : Nat} (hg : GW n d f) (hN : iv_N N) (hw1 : 1 ≤ w) (hw : w ≤ 24) : ∀ (k u : Nat) (P : Nat → Nat) (σ : hp_S), lnY f n w P < k → k + 1 < u → prm n P → LZy σ n w f → PLy σ n P → ∃ τ, fr [105] [] σ τ ∧ PLy τ n (clY f n w k P) ∧ g267_7 N u 72 (nI (lnY f n w P)) 1 (hp σ, cs) = some (.inl (some (.int (nI (lnY f n w (clY f n w k P))))), (hp τ, cs)) := by
  have hn := hg.2.1
  intro k
  induction k with
  | zero => intro u P σ h; omega
  | succ k ih =>
    intro u P σ hk hu hP hLz h5
    obtain ⟨u, rfl⟩ : ∃ q, u = q + 2 := ⟨u - 2, by omega⟩
    obtain ⟨σ1, a1, a2, a3⟩ := m_x22 (N := N) (cs := cs) (k7 := g267_7 N (u + 1)) (w := w) hg hN hw1 hw hP n 0 N (lnY f n w P, 0, 0) σ (by omega) (by unfold iv_N at hN; omega) (Or.inl rfl) hLz h5
    have e9 : ∀ x, mI (lnY f n w P) (lnY f n w P, 0, 0) x = -1 := fun x => if_neg (Nat.lt_irrefl _)
    rw [e9] at a3
    have step : g267_7 N (u + 2) 72 (nI (lnY f n w P)) 1 (hp σ, cs) = g267_7 N (u + 1) 72 (nI (scn f n w P).1) (if (scn f n w P).1 < lnY f n w P then 1 else 0) (hp σ1, cs) := by
      rw [g267_7, if_neg (by decide)]
      exact a3
    have a2 : PLy σ1 n (swp P (scn f n w P).2.1 (scn f n w P).2.2) := a2
    rw [step]
    have ec : clY f n w (k + 1) P = if (scn f n w P).1 < lnY f n w P then clY f n w k (swp P (scn f n w P).2.1 (scn f n w P).2.2) else P := rfl
    rw [ec]
    have hS := scn_si (f := f) (n := n) (w := w) (P := P)
    by_cases c : (scn f n w P).1 < lnY f n w P
    · rw [if_pos c, if_pos c]
      have z := hS.resolve_left (fun z => by rw [z] at c; exact absurd c (Nat.lt_irrefl _))
      have hP2 := swp_prm hP (show (scn f n w P).2.1 < n by omega) z.2.2.1
      have ez : (scn f n w P).1 = lnY f n w (swp P (scn f n w P).2.1 (scn f n w P).2.2) := z.2.2.2
      obtain ⟨τ, q1, q2, q3⟩ := ih (u + 1) (swp P (scn f n w P).2.1 (scn f n w P).2.2) σ1 (by omega) (by omega) hP2 (hLz.fr a1 (by decide) (by decide) List.not_mem_nil List.not_mem_nil List.not_mem_nil) a2
      refine ⟨τ, a1.tr q1, q2, ?_⟩
      rw [ez]
      exact q3
    · rw [if_neg c, if_neg c]
      have z := hS.resolve_right (fun z => c z.1)
      rw [z] at a2
      rw [swp_0] at a2
      refine ⟨σ1, a1, a2, ?_⟩
      rw [z]
      unfold g267_7
      rw [if_pos rfl]
end LYK
