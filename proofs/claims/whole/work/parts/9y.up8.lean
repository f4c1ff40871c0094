/-! the model's answer -/
section UY
variable {f : Nat → Int32} {n d v a N : Nat} {cs : Nat × Nat}
theorem m_ini {x1 : Int32} (h : vH f n v a) (hN : iv_N N) : ∀ (m k u : Nat) (σ : hp_S), k + m = 48 → m < u → (∀ y, y < k → σ.1 114 y = -1) → vC σ f n v → ∃ τ, fr [114] [] σ τ ∧ vD τ (uPr f n v) (uDr f n v) a 48 ∧ g281_2 N u 72 (nI v) (nI a) (nI k) (hp σ, cs) = some (.inl none, (hp τ, cs)) := by
  have h' := h
  obtain ⟨hn, hgw, hv, ha, hlt⟩ := h'
  intro m
  induction m with
  | zero =>
    intro k u σ hk hu h0 hc
    obtain ⟨u, rfl⟩ : ∃ q, u = q + 1 := ⟨u - 1, by omega⟩
    have w1 : fr [114] [] σ (hp_wi σ 114 a 0) := fr.wi (by decide)
    have r0 : ∀ y, y < 48 → (rB (uPr f n v) (uDr f n v) a 0 y = true ↔ y = a) := by
      intro y hy
      unfold rB
      by_cases c : y < 24
      · rw [if_pos c]
        exact b_one (by omega)
      · rw [if_neg c, show uDD (uPr f n v) (uDr f n v) a 0 = 0 from rfl, b_0]
        constructor
        · intro z; cases z
        · intro z; omega
    have one : i_pc (uU (uPr f n v) a 0) = 1 := by
      show i_pc (lf_shl 1 (nI a)) = 1
      have := i_pc_on (x := 0) (q := a) (by omega) (b_0 _)
      rw [i_pc_0, Int32.zero_xor] at this
      exact this
    obtain ⟨τ, t1, t2, t3⟩ := m_vT (cs := cs) (N := N) h hN 48 0 N 1 (hp_wi σ 114 a 0) (by omega) (by omega) (by unfold iv_N at hN; omega) (by decide) (hc.fr w1) (fun y hy => by
      by_cases e : y = a
      · subst e
        refine ⟨fun z => ?_, fun z => absurd ((r0 y hy).mpr rfl) z⟩
        have l : fB (uPr f n v) (uDr f n v) y y ≤ 0 := (fB_iff ha hn (fun j i z => uP_in hgw hn z) (fun j i z => uD_in hgw hn z) (Nat.zero_le _)).mp z
        rw [hp_wi_at, Nat.le_zero.mp l]
        rfl
      · refine ⟨fun z => absurd ((r0 y hy).mp z) e, fun z => ?_⟩
        rw [hp_wi_nj e]
        exact h0 y (by omega))
    refine ⟨τ, w1.tr t1, t2, ?_⟩
    unfold g281_2
    rw [if_pos (show (48 : Int32) ≤ nI k from nI_le (a := 48) (by omega) (by omega)), r72_72, b114 (by omega)]
    exact t3
  | succ m ih =>
    intro k u σ hk hu h0 hc
    obtain ⟨u, rfl⟩ : ∃ q, u = q + 1 := ⟨u - 1, by omega⟩
    have w1 : fr [114] [] σ (hp_wi σ 114 k (-1)) := fr.wi (by decide)
    obtain ⟨τ, t1, t2, t3⟩ := ih (k + 1) u (hp_wi σ 114 k (-1)) (by omega) (by omega) (fun y hy => by
      by_cases e : y = k
      · rw [e, hp_wi_at]
      · rw [hp_wi_nj e]; exact h0 y (by omega)) (hc.fr w1)
    refine ⟨τ, w1.tr t1, t2, ?_⟩
    unfold g281_2
    rw [if_neg (show ¬ (48 : Int32) ≤ nI k from nI_ge (b := 48) (by omega) (by omega)), r72_72, b114 (by omega), nI_1]
    exact t3
/-- the places are read -/
theorem m_rd {σ : hp_S} {x2 x3 : Int32} {k67 : Nat → Int32 → Int32 → Int32 → Int32 → Int32 → lf_W → lf_R} {b0 c0 x6 : Nat} (h : vH f n v a) (hJ : dS f (al n) 23 = 0) (hb0 : b0 ≤ 48) (hc0 : c0 ≤ 100000) (e : σ.2.2.1 72 4 = nI n) (hd : vD σ (uPr f n v) (uDr f n v) a 48) : ∀ (m w u : Nat), w + m = n → m < u → g282_86 N k67 u 72 x2 x3 (nI (mxF (fsw (uPr f n v) (uDr f n v) a) w b0)) (nI (c0 + sm (fsw (uPr f n v) (uDr f n v) a) w)) (nI x6) (nI w) (hp σ, cs) = k67 72 x2 x3 (nI (mxF (fsw (uPr f n v) (uDr f n v) a) n b0)) (nI (c0 + sm (fsw (uPr f n v) (uDr f n v) a) n)) (nI (x6 + 1)) (hp σ, cs) := by
  have h' := h
  obtain ⟨hn, hgw, hv, ha, hlt⟩ := h'
  have hP : ∀ j i, bt (uPr f n v j) i = true → i < n := fun j i z => uP_in hgw hn z
  have hD : ∀ j i, bt (uDr f n v j) i = true → i < n := fun j i z => uD_in hgw hn z
  intro m
  induction m with
  | zero =>
    intro w u hw hu
    obtain ⟨u, rfl⟩ : ∃ q, u = q + 1 := ⟨u - 1, by omega⟩
    unfold g282_86
    rw [i72_4, e, if_pos (nI_le (by omega) (by omega)), nI_1, show w = n by omega]
  | succ m ih =>
    intro w u hw hu
    obtain ⟨u, rfl⟩ : ∃ q, u = q + 1 := ⟨u - 1, by omega⟩
    have hwn : w < n := by omega
    have f48 := fsw_48 hn hgw hJ hv ha w hwn
    have hmin := fsw_min ha hn hP hD hwn f48
    obtain ⟨p1, p2⟩ := hd w (by omega)
    obtain ⟨p3, p4⟩ := hd (w + 24) (by omega)
    have i1 := fB_iff (P := uPr f n v) (D := uDr f n v) (a := a) (t := 48) (y := w) ha hn hP hD (Nat.le_refl _)
    have i2 := fB_iff (P := uPr f n v) (D := uDr f n v) (a := a) (t := 48) (y := w + 24) ha hn hP hD (Nat.le_refl _)
    have l1 : fB (uPr f n v) (uDr f n v) a w ≤ 49 := fa_first_le _ _
    have l2 : fB (uPr f n v) (uDr f n v) a (w + 24) ≤ 49 := fa_first_le _ _
    have hmx : mxF (fsw (uPr f n v) (uDr f n v) a) w b0 ≤ 48 := by
      obtain ⟨-, -, h3⟩ := mxF_uM (F := fsw (uPr f n v) (uDr f n v) a) (b := b0) w
      rcases h3 with z | ⟨y, z1, z2⟩
      · omega
      · have := fsw_48 hn hgw hJ hv ha y (by omega)
        omega
    have hsm : sm (fsw (uPr f n v) (uDr f n v) a) w ≤ w * 48 := by
      rw [← sm_c]
      exact sm_le (fun k hk => fsw_48 hn hgw hJ hv ha k (by omega))
    have fin : g282_142 N k67 (g282_86 N k67 u) 72 x2 x3 (nI (mxF (fsw (uPr f n v) (uDr f n v) a) w b0)) (nI (c0 + sm (fsw (uPr f n v) (uDr f n v) a) w)) (nI x6) (nI w) (nI (fsw (uPr f n v) (uDr f n v) a w)) (hp σ, cs) = k67 72 x2 x3 (nI (mxF (fsw (uPr f n v) (uDr f n v) a) n b0)) (nI (c0 + sm (fsw (uPr f n v) (uDr f n v) a) n)) (nI (x6 + 1)) (hp σ, cs) := by
      rw [← ih (w + 1) u (by omega) (by omega)]
      unfold g282_142 g282_165
      rw [nI_add, nI_1]
      show _ = g282_86 N k67 u 72 x2 x3 (nI (if mxF (fsw (uPr f n v) (uDr f n v) a) w b0 < fsw (uPr f n v) (uDr f n v) a w then fsw (uPr f n v) (uDr f n v) a w else mxF (fsw (uPr f n v) (uDr f n v) a) w b0)) (nI (c0 + (sm (fsw (uPr f n v) (uDr f n v) a) w + fsw (uPr f n v) (uDr f n v) a w))) (nI x6) (nI (w + 1)) (hp σ, cs)
      rw [Nat.add_assoc]
      by_cases c : mxF (fsw (uPr f n v) (uDr f n v) a) w b0 < fsw (uPr f n v) (uDr f n v) a w
      · rw [if_pos c, if_neg (nI_ge c (by omega))]
      · rw [if_neg c, if_pos (nI_le (by omega) (by omega))]
    rw [← fin]
    conv => lhs; unfold g282_86
    unfold g282_135 g282_140
    rw [i72_4, e, if_neg (nI_ge hwn (by omega)), r72_72, a114 (by omega), r72_72, show nI w + 24 = nI (w + 24) from by rw [show (24 : Int32) = nI 24 from rfl, nI_add], a114 (by omega)]
    by_cases c1 : rB (uPr f n v) (uDr f n v) a 48 (w + 24) = true
    · have k1 := i2.mp c1
      rw [p3 c1, if_neg (by rw [q_ne1 (by omega)]; exact id)]
      by_cases c2 : rB (uPr f n v) (uDr f n v) a 48 w = true
      · have k2 := i1.mp c2
        rw [p1 c2, if_neg (by rw [q_ne1 (by omega)]; exact id)]
        by_cases c3 : fB (uPr f n v) (uDr f n v) a (w + 24) ≤ fB (uPr f n v) (uDr f n v) a w
        · rw [if_pos (nI_le c3 (by omega)), show fB (uPr f n v) (uDr f n v) a (w + 24) = fsw (uPr f n v) (uDr f n v) a w by rw [hmin]; split <;> omega]
        · rw [if_neg (nI_ge (by omega) (by omega)), show fB (uPr f n v) (uDr f n v) a w = fsw (uPr f n v) (uDr f n v) a w by rw [hmin]; split <;> omega]
      · have k2 : ¬ fB (uPr f n v) (uDr f n v) a w ≤ 48 := fun z => c2 (i1.mpr z)
        rw [p2 c2, if_pos rfl, show fB (uPr f n v) (uDr f n v) a (w + 24) = fsw (uPr f n v) (uDr f n v) a w by rw [hmin]; split <;> omega]
    · have k1 : ¬ fB (uPr f n v) (uDr f n v) a (w + 24) ≤ 48 := fun z => c1 (i2.mpr z)
      have k2 : fB (uPr f n v) (uDr f n v) a w ≤ 48 := by
        rw [hmin] at f48
        split at f48 <;> omega
      rw [p4 c1, if_pos rfl, p1 (i1.mpr k2), show fB (uPr f n v) (uDr f n v) a w = fsw (uPr f n v) (uDr f n v) a w by rw [hmin]; split <;> omega]
theorem m_upA {x3 : Int32} (hn : n ≤ 24) (hw : gw f n) (hJ : dS f (al n) 23 = 0) (hv : v < n) (hN : iv_N N) : ∀ (m a u : Nat) (σ : hp_S), a + m = n → m < u → vC σ f n v → ∃ τ, fr [114] [] σ τ ∧ g282_67 N u 72 (nI v) x3 (nI (upR f n v a)) (nI (upT f n v a)) (nI a) (hp σ, cs) = some (.inl (some (.int (if x3 = 0 then nI (upR f n v n) else nI (upT f n v n)))), (hp τ, cs)) := by
  have hlt : ∀ x, x < n → gd f (al n) v x < 24 := fun x hx => gJ_iff.mp hJ v x (by omega) (by omega) ((al_in hn).mpr hv) ((al_in hn).mpr hx)
  intro m
  induction m with
  | zero =>
    intro a u σ ha hu hc
    obtain ⟨u, rfl⟩ : ∃ q, u = q + 1 := ⟨u - 1, by omega⟩
    refine ⟨σ, fr.rf, ?_⟩
    unfold g282_67
    rw [i72_4, hc.1, if_pos (nI_le (by omega) (by omega)), show a = n by omega]
    by_cases c : x3 = 0
    · rw [if_neg (fun z => z c), if_pos c]
    · rw [if_pos c, if_neg c]
  | succ m ih =>
    intro a u σ ha hu hc
    obtain ⟨u, rfl⟩ : ∃ q, u = q + 1 := ⟨u - 1, by omega⟩
    have h : vH f n v a := ⟨hn, hw, hv, by omega, hlt⟩
    obtain ⟨τ, t1, t2, t3⟩ := m_ini (cs := cs) (N := N) (x1 := 0) h hN 48 0 N σ (by omega) (by unfold iv_N at hN; omega) (fun y hy => absurd hy (Nat.not_lt_zero _)) hc
    have hc2 := hc.fr t1
    have rd := m_rd (cs := cs) (N := N) (x2 := nI v) (x3 := x3) (k67 := g282_67 N u) (b0 := upR f n v a) (c0 := upT f n v a) (x6 := a) h hJ (upR_le hn hw hJ hv a (by omega)) (by have := upT_le hn hw hJ hv a (by omega); omega) hc2.1 t2 n 0 N (by omega) (by unfold iv_N at hN; omega)
    obtain ⟨υ, v1, v2⟩ := ih (a + 1) u τ (by omega) (by omega) hc2
    refine ⟨υ, t1.tr v1, ?_⟩
    rw [← v2]
    refine Eq.trans ?_ rd
    conv => lhs; unfold g282_67
    rw [i72_4, hc.1, if_neg (nI_ge (by omega) (by omega)), o72]
    have t3' : f281 N 72 (nI v) (nI a) (hp σ, cs) = some (.inl none, (hp τ, cs)) := t3
    rw [t3', lf_cv_r]
    rfl
end UY
