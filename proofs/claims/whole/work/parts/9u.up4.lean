/-! the class's answer -/
def upR (f : Nat → Int32) (n v : Nat) : Nat → Nat
  | 0 => 0
  | a + 1 => mxF (fsw (uPr f n v) (uDr f n v) a) n (upR f n v a)
def upT (f : Nat → Int32) (n v : Nat) : Nat → Nat
  | 0 => 0
  | a + 1 => upT f n v a + sm (fsw (uPr f n v) (uDr f n v) a) n
section US
variable {f : Nat → Int32} {n d v N s : Nat} {cs : Nat × Nat}
theorem fsw_48 (hn : n ≤ 24) (hw : gw f n) (hJ : dS f (al n) 23 = 0) (hv : v < n) {a : Nat} (ha : a < n) : ∀ w, w < n → fsw (uPr f n v) (uDr f n v) a w ≤ 48 := fun w h => (fsw_iff (Nat.le_refl _)).mp (up_all hn hw hJ hv ha w h)
theorem upR_le (hn : n ≤ 24) (hw : gw f n) (hJ : dS f (al n) 23 = 0) (hv : v < n) : ∀ a, a ≤ n → upR f n v a ≤ 48 := by
  intro a
  induction a with
  | zero => intro _; exact Nat.zero_le _
  | succ a ih =>
    intro ha
    have h1 := ih (by omega)
    obtain ⟨-, -, h3⟩ := mxF_uM (F := fsw (uPr f n v) (uDr f n v) a) (b := upR f n v a) n
    show mxF (fsw (uPr f n v) (uDr f n v) a) n (upR f n v a) ≤ 48
    rcases h3 with z | ⟨w, z1, z2⟩
    · omega
    · have := fsw_48 hn hw hJ hv (show a < n by omega) w z1
      omega
theorem upT_le (hn : n ≤ 24) (hw : gw f n) (hJ : dS f (al n) 23 = 0) (hv : v < n) : ∀ a, a ≤ n → upT f n v a ≤ a * 1152 := by
  intro a
  induction a with
  | zero => intro _; exact Nat.zero_le _
  | succ a ih =>
    intro ha
    have h1 := ih (by omega)
    have h2 : sm (fsw (uPr f n v) (uDr f n v) a) n ≤ n * 48 := by
      rw [← sm_c]
      exact sm_le (fun k hk => fsw_48 hn hw hJ hv (show a < n by omega) k hk)
    show upT f n v a + sm (fsw (uPr f n v) (uDr f n v) a) n ≤ (a + 1) * 1152
    omega
theorem c_upA (hs : s < 8) (hn : n ≤ 24) (hw : gw f n) (hJ : dS f (al n) 23 = 0) (hv : v < n) (hN : iv_N N) {x3 : Int32} : ∀ (m a u : Nat) (σ : hp_S), a + m = n → m < u → σ.2.2.1 (2 + 2 * s) 1 = nI n → uW σ f n v (fun i => gd f (al n) v i < 24) → σ.2.2.1 61 13 = nI (upR f n v a) → σ.2.2.1 61 14 = nI (upT f n v a) → ∃ τ, fr [] [(61, 13), (61, 14)] σ τ ∧ g126_19 N u 61 (2 + 2 * s) x3 (nI a) (hp σ, cs) = some (.inl (some (.int (if x3 = 0 then nI (upR f n v n) else nI (upT f n v n)))), (hp τ, cs)) := by
  have hlt : ∀ x, x < n → gd f (al n) v x < 24 := fun x hx => gJ_iff.mp hJ v x (by omega) (by omega) ((al_in hn).mpr hv) ((al_in hn).mpr hx)
  intro m
  induction m with
  | zero =>
    intro a u σ ha hu e hW e13 e14
    obtain ⟨u, rfl⟩ : ∃ q, u = q + 1 := ⟨u - 1, by omega⟩
    refine ⟨σ, fr.rf, ?_⟩
    unfold g126_19
    rw [sN_1 hs, e, if_pos (nI_le (by omega) (by omega)), i61_13, e13, i61_14, e14, show a = n by omega]
    by_cases c : x3 = 0
    · rw [if_pos c, if_pos c]
    · rw [if_neg c, if_neg c]
  | succ m ih =>
    intro a u σ ha hu e hW e13 e14
    obtain ⟨u, rfl⟩ : ∃ q, u = q + 1 := ⟨u - 1, by omega⟩
    have han : a < n := by omega
    have hu0 : ∀ w, bt (uS (uPr f n v) (uDr f n v) a 0) w = true ↔ w = a := fun w => b_one (by omega)
    have f0 : fsw (uPr f n v) (uDr f n v) a a = 0 := Nat.le_zero.mp ((fsw_iff (Nat.zero_le _)).mp ((hu0 a).mpr rfl))
    have hb0 := upR_le hn hw hJ hv a (by omega)
    have hc0 := upT_le hn hw hJ hv a (by omega)
    have s0 : sm (fun w => if bt (uS (uPr f n v) (uDr f n v) a 0) w = true then fsw (uPr f n v) (uDr f n v) a w else 0) n = 0 := by
      refine Eq.trans (sm_congr (G := fun _ => 0) (fun k hk => ?_)) sm_0
      by_cases c : bt (uS (uPr f n v) (uDr f n v) a 0) k = true
      · rw [if_pos c, (hu0 k).mp c, f0]
      · rw [if_neg c]
    have one : i_pc (lf_shl 1 (nI a)) = 1 := by
      have := i_pc_on (x := 0) (q := a) (by omega) (b_0 _)
      rw [i_pc_0, Int32.zero_xor] at this
      exact this
    obtain ⟨τ, r', t1, t2, t3, t4, t5⟩ := c_spr (P := uPr f n v) (D := uDr f n v) (a := a) (cs := cs) (N := N) (n := n) hn hN (fun j i z => uP_in hw hn z) (fun j i z => uD_in hw hn z) (up_all hn hw hJ hv han) (b0 := upR f n v a) (c0 := upT f n v a) hb0 (by omega) 48 0 N (lf_shl 1 (nI a)) 0 (lf_shl 1 (nI a)) 0 σ (upR f n v a) (by omega) (by unfold iv_N at hN; omega) (uI_0 (by omega)) (fun i z => by have := (b_one (by omega)).mp z; omega) (fun i z => absurd z (by rw [b_0]; decide)) (fun _ => by rw [one]; omega) (fun k hk => (hW k hk (hlt k hk)).1) (fun k hk => (hW k hk (hlt k hk)).2) e13 (by rw [e14, s0]; rfl) ⟨Nat.le_refl _, fun w z => by
      have : fsw (uPr f n v) (uDr f n v) a w ≤ 0 := (fsw_iff (Nat.zero_le _)).mp z
      omega, Or.inl rfl⟩
    have er : r' = upR f n v (a + 1) := uM_eq t4 (mxF_uM n)
    obtain ⟨υ, v1, v2⟩ := ih (a + 1) u τ (by omega) (by omega) (by rw [t1.f (by simp <;> omega)]; exact e) (fun i hi z => by rw [t1.r List.not_mem_nil, t1.r List.not_mem_nil]; exact hW i hi z) (by rw [t2, er]) t3
    refine ⟨υ, t1.tr v1, ?_⟩
    rw [← v2]
    conv => lhs; unfold g126_19
    rw [sN_1 hs, e, if_neg (nI_ge (by omega) (by omega)), o61]
    unfold f128
    rw [show (1 : Int32) = nI (0 + 1) from rfl] at *
    rw [t5, lf_cv_r]
    rw [show nI (0 + 1) = (1 : Int32) from rfl, nI_1]
theorem c_upward {σ : hp_S} (hs : s < 8) (hg : GW n d f) (hJ : dS f (al n) 23 = 0) (hv : v < n) (hN : iv_N N) (hV : NV σ s n d f) {x3 : Int32} : ∃ τ, fr [70, 71] [(61, 13), (61, 14)] σ τ ∧ f126 N 61 (2 + 2 * s) (nI v) x3 (hp σ, cs) = some (.inl (some (.int (if x3 = 0 then nI (upR f n v n) else nI (upT f n v n)))), (hp τ, cs)) := by
  obtain ⟨τ, t1, t2, t3⟩ := c_levs (σ := σ) (cs := cs) (N := N) hs hg.2.1 hN hg.2.2.2.2.1 hv 24 0 N (by omega) (by unfold iv_N at hN; omega) hV.2.2 (fun i hi z => absurd z (Nat.not_lt_zero _))
  obtain ⟨υ, v1, v2⟩ := c_upA (cs := cs) (N := N) (x3 := x3) hs hg.2.1 hg.2.2.2.2.1 hJ hv hN n 0 N (hp_wf (hp_wf τ 61 13 0) 61 14 0) (by omega) (by have := hg.2.1; unfold iv_N at hN; omega) (by
    rw [hp_wf_ne (by omega), hp_wf_ne (by omega), t1.f List.not_mem_nil]
    exact hV.1) t2 (by rw [hp_wf_ne (by decide), hp_wf_at]; rfl) (by rw [hp_wf_at]; rfl)
  refine ⟨υ, (t1.wk (fun _ z => z) (fun _ z => absurd z List.not_mem_nil)).tr (((fr.wf (by decide)).tr (fr.wf (by decide))).tr (v1.wk (fun _ z => absurd z List.not_mem_nil) (fun _ z => z))), ?_⟩
  unfold f126 f127
  rw [o61]
  have t3' : g127_10 N N 61 (2 + 2 * s) 0 (lf_shl 1 (nI v)) 0 (hp σ, cs) = some (.inl none, (hp τ, cs)) := t3
  rw [t3', lf_cv_r, w61_13, w61_14]
  exact v2
end US
