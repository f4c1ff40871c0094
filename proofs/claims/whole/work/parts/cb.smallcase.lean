/-! case small -/
section SMZ
variable {cs : Nat × Nat} {N n d k : Nat} {σ τ : hp_S}
def atM (n d k : Nat) : Nat := 8 * (9 * n + d) + k
/-- a find that is kept -/
def MCy (c : Nat → Nat → Int32) (n d k : Nat) (o : Option Nat) : Prop := c 99 (atM n d k) = nI (ctY (wtY n d k) (2 ^ ppY n) + 1) ∧ c 100 (atM n d k) = nI (ctY (fun m => mnY n m ∧ wtY n d k m) (2 ^ ppY n)) ∧ BSo (wtY n d k) n (2 ^ ppY n) o ∧ c 101 (atM n d k) = oI1 n o ∧ c 102 (atM n d k) = oI2 o
def jM (c : Nat → Nat → Int32) : Prop := ∀ n d k, 1 ≤ n → n ≤ 6 → 1 ≤ d → d ≤ 8 → k ≤ 6 → c 99 (atM n d k) = 0 ∨ ∃ o, MCy c n d k o
def mn6 (k : Nat) : Nat := if k ≤ 6 then k else 6
theorem mn6_le : mn6 k ≤ 6 := by
  unfold mn6
  split <;> omega
theorem wt_6 (hn : n ≤ 6) : wtY n d k = wtY n d (mn6 k) := by
  have e : (if k ≤ n then k else n) = if mn6 k ≤ n then mn6 k else n := by
    by_cases c : k ≤ 6
    · have : mn6 k = k := if_pos c
      rw [this]
    · have h6 : mn6 k = 6 := if_neg c
      rw [h6, if_neg (by omega)]
      by_cases c2 : 6 ≤ n
      · rw [if_pos c2]; omega
      · rw [if_neg c2]
  funext x
  unfold wtY
  rw [e]
theorem atM_I (n d k : Nat) : (8 : Int32) * (9 * nI n + nI d) + nI k = nI (atM n d k) := by
  unfold atM
  rw [show (8 : Int32) = nI 8 from rfl, show (9 : Int32) = nI 9 from rfl, pk_mul, nI_add, pk_mul, nI_add]
theorem atM_lt (hn : n ≤ 6) (hd : d ≤ 8) (hk : k ≤ 6) : atM n d k < 504 := by
  unfold atM
  omega
/-- what is read back -/
noncomputable def bkM (ρ : hp_S) (n d k : Nat) (o : Option Nat) : hp_S := hp_wf (hp_wf (hp_wf (hp_wf ρ 72 46 (nI (ctY (wtY n d k) (2 ^ ppY n)))) 72 47 (nI (ctY (fun m => mnY n m ∧ wtY n d k m) (2 ^ ppY n)))) 72 48 (oI1 n o)) 72 49 (oI2 o)
theorem m_136 {o : Option Nat} (hn : n ≤ 6) (hd : d ≤ 8) (hk : k ≤ 6) (h : MCy σ.1 n d k o) : g252_136 N 72 (nI (atM n d k)) (hp σ, cs) = some (.inl (some (.int (nI (ctY (wtY n d k) (2 ^ ppY n))))), (hp (bkM σ n d k o), cs)) := by
  have hlt := atM_lt (n := n) (d := d) (k := k) hn hd hk
  obtain ⟨h1, h2, h3, h4, h5⟩ := h
  have e46 : (bkM σ n d k o).2.2.1 72 46 = nI (ctY (wtY n d k) (2 ^ ppY n)) := by
    unfold bkM
    rw [hp_wf_ne (by decide), hp_wf_ne (by decide), hp_wf_ne (by decide), hp_wf_at]
  unfold g252_136
  rw [r72_54, a99 hlt, h1, nI_m1, w72_46, r72_55, a100 hlt]
  rw [show (hp_wf σ 72 46 (nI (ctY (wtY n d k) (2 ^ ppY n)))).1 100 (atM n d k) = nI (ctY (fun m => mnY n m ∧ wtY n d k m) (2 ^ ppY n)) from h2, w72_47, r72_56, a101 hlt]
  rw [show (hp_wf (hp_wf σ 72 46 (nI (ctY (wtY n d k) (2 ^ ppY n)))) 72 47 (nI (ctY (fun m => mnY n m ∧ wtY n d k m) (2 ^ ppY n)))).1 101 (atM n d k) = oI1 n o from h4, w72_48, r72_57, a102 hlt]
  rw [show (hp_wf (hp_wf (hp_wf σ 72 46 (nI (ctY (wtY n d k) (2 ^ ppY n)))) 72 47 (nI (ctY (fun m => mnY n m ∧ wtY n d k m) (2 ^ ppY n)))) 72 48 (oI1 n o)).1 102 (atM n d k) = oI2 o from h5, w72_49, i72_46]
  rw [show (hp_wf (hp_wf (hp_wf (hp_wf σ 72 46 (nI (ctY (wtY n d k) (2 ^ ppY n)))) 72 47 (nI (ctY (fun m => mnY n m ∧ wtY n d k m) (2 ^ ppY n)))) 72 48 (oI1 n o)) 72 49 (oI2 o)).2.2.1 72 46 = nI (ctY (wtY n d k) (2 ^ ppY n)) from e46]
  rfl
theorem m_252 (hn1 : 1 ≤ n) (hn : n ≤ 6) (hd1 : 1 ≤ d) (hd : d ≤ 8) (hN : iv_N N) (hk : k < 2 ^ 31) (hJ : jM σ.1) : ∃ τ o, fr [76, 81, 95, 96, 97, 98, 99, 100, 101, 102] [(72, 0), (72, 4), (72, 5), (72, 24), (72, 25), (72, 45), (72, 46), (72, 47), (72, 48), (72, 49)] σ τ ∧ τ.2.2.1 72 0 = 0 ∧ τ.2.2.1 72 45 = 1 ∧ BSo (wtY n d k) n (2 ^ ppY n) o ∧ τ.2.2.1 72 46 = nI (ctY (wtY n d k) (2 ^ ppY n)) ∧ τ.2.2.1 72 47 = nI (ctY (fun m => mnY n m ∧ wtY n d k m) (2 ^ ppY n)) ∧ τ.2.2.1 72 48 = oI1 n o ∧ τ.2.2.1 72 49 = oI2 o ∧ jM τ.1 ∧ f252 N 72 (nI n) (nI d) (nI k) (hp σ, cs) = some (.inl (some (.int (nI (ctY (wtY n d k) (2 ^ ppY n))))), (hp τ, cs)) := by
  have h15 := pp_15 hn
  have hp15 : 2 ^ ppY n ≤ 2 ^ 15 := Nat.pow_le_pow_right (by omega) h15
  have hk6 := mn6_le (k := k)
  have hlt := atM_lt (n := n) (d := d) (k := mn6 k) hn hd hk6
  have hct := ctY_le (P := wtY n d (mn6 k)) (m := 2 ^ ppY n)
  have n1 : ¬ nI n < 1 := nI_nlt (a := n) (b := 1) hn1 (by omega)
  have n6 : ¬ 6 < nI n := nI_nlt (b := n) (a := 6) hn (by omega)
  have d1 : ¬ nI d < 1 := nI_nlt (a := d) (b := 1) hd1 (by omega)
  have d8 : ¬ 8 < nI d := nI_nlt (b := d) (a := 8) hd (by omega)
  have k0 : ¬ nI k < 0 := nI_nlt (a := k) (b := 0) (Nat.zero_le _) hk
  have pre : f252 N 72 (nI n) (nI d) (nI k) (hp σ, cs) = g252_70 N 72 (nI n) (nI d) (nI k) (nI (mn6 k)) (8 * (9 * nI n + nI d)) (hp (hp_wf (hp_wf σ 72 0 0) 72 45 1), cs) := by
    unfold f252
    rw [w72_0, m_within_in n1 n6, lf_ci_r, if_neg (by decide), m_within_in d1 d8, lf_ci_r, if_neg (by decide), if_neg k0]
    unfold g252_35
    rw [o72, m_rt hp_wf_at (by decide), lf_ci_r, if_pos (by decide), w72_45 (by decide)]
    by_cases c : k ≤ 6
    · rw [if_pos (show nI k ≤ 6 from nI_le (b := 6) c (by omega)), show mn6 k = k from if_pos c]
    · rw [if_neg (show ¬ nI k ≤ 6 from nI_ge (a := 6) (b := k) (by omega) (by omega)), show mn6 k = 6 from if_neg c]
      rfl
  have w2 : fr [76, 81, 95, 96, 97, 98, 99, 100, 101, 102] [(72, 0), (72, 4), (72, 5), (72, 24), (72, 25), (72, 45), (72, 46), (72, 47), (72, 48), (72, 49)] σ (hp_wf (hp_wf σ 72 0 0) 72 45 1) := (fr.wf (by decide)).tr (fr.wf (by decide))
  rw [wt_6 (d := d) (k := k) hn, pre]
  have fin : ∀ (ρ : hp_S) (o : Option Nat), fr [76, 81, 95, 96, 97, 98, 99, 100, 101, 102] [(72, 0), (72, 4), (72, 5), (72, 24), (72, 25), (72, 45), (72, 46), (72, 47), (72, 48), (72, 49)] σ ρ → ρ.2.2.1 72 0 = 0 → ρ.2.2.1 72 45 = 1 → jM ρ.1 → MCy ρ.1 n d (mn6 k) o → g252_70 N 72 (nI n) (nI d) (nI k) (nI (mn6 k)) (8 * (9 * nI n + nI d)) (hp (hp_wf (hp_wf σ 72 0 0) 72 45 1), cs) = g252_136 N 72 (nI (atM n d (mn6 k))) (hp ρ, cs) → ∃ τ o, fr [76, 81, 95, 96, 97, 98, 99, 100, 101, 102] [(72, 0), (72, 4), (72, 5), (72, 24), (72, 25), (72, 45), (72, 46), (72, 47), (72, 48), (72, 49)] σ τ ∧ τ.2.2.1 72 0 = 0 ∧ τ.2.2.1 72 45 = 1 ∧ BSo (wtY n d (mn6 k)) n (2 ^ ppY n) o ∧ τ.2.2.1 72 46 = nI (ctY (wtY n d (mn6 k)) (2 ^ ppY n)) ∧ τ.2.2.1 72 47 = nI (ctY (fun m => mnY n m ∧ wtY n d (mn6 k) m) (2 ^ ppY n)) ∧ τ.2.2.1 72 48 = oI1 n o ∧ τ.2.2.1 72 49 = oI2 o ∧ jM τ.1 ∧ g252_70 N 72 (nI n) (nI d) (nI k) (nI (mn6 k)) (8 * (9 * nI n + nI d)) (hp (hp_wf (hp_wf σ 72 0 0) 72 45 1), cs) = some (.inl (some (.int (nI (ctY (wtY n d (mn6 k)) (2 ^ ppY n))))), (hp τ, cs)) := by
    intro ρ o hw h0 h45 hj hM e
    refine ⟨bkM ρ n d (mn6 k) o, o, hw.tr ((((fr.wf (by decide)).tr (fr.wf (by decide))).tr (fr.wf (by decide))).tr (fr.wf (by decide))), ?_, ?_, hM.2.2.1, ?_, ?_, ?_, ?_, hj, ?_⟩
    · unfold bkM
      rw [hp_wf_ne (by decide), hp_wf_ne (by decide), hp_wf_ne (by decide), hp_wf_ne (by decide)]
      exact h0
    · unfold bkM
      rw [hp_wf_ne (by decide), hp_wf_ne (by decide), hp_wf_ne (by decide), hp_wf_ne (by decide)]
      exact h45
    · unfold bkM
      rw [hp_wf_ne (by decide), hp_wf_ne (by decide), hp_wf_ne (by decide), hp_wf_at]
    · unfold bkM
      rw [hp_wf_ne (by decide), hp_wf_ne (by decide), hp_wf_at]
    · unfold bkM
      rw [hp_wf_ne (by decide), hp_wf_at]
    · unfold bkM
      rw [hp_wf_at]
    · rw [e, m_136 hn hd hk6 hM]
  have e0 : (hp_wf (hp_wf σ 72 0 0) 72 45 1).2.2.1 72 0 = 0 := by rw [hp_wf_ne (by decide), hp_wf_at]
  by_cases c : σ.1 99 (atM n d (mn6 k)) = 0
  · obtain ⟨σ3, o, a1, a2, a3, a4, a5, a6, a7⟩ := m_253 (N := N) (cs := cs) (σ := hp_wf (hp_wf σ 72 0 0) 72 45 1) (d := d) (k := k) hn1 hn hN hk hd
    rw [wt_6 (d := d) (k := k) hn] at a2 a3 a4
    have w3 : fr [76, 81, 95, 96, 97, 98, 99, 100, 101, 102] [(72, 0), (72, 4), (72, 5), (72, 24), (72, 25), (72, 45), (72, 46), (72, 47), (72, 48), (72, 49)] σ σ3 := w2.tr (a1.wk (fun _ z => by simp at z; rcases z with z | z | z | z | z | z <;> simp [z]) (fun _ z => by simp at z; rcases z with z | z | z | z | z | z | z | z <;> simp [z]))
    obtain ⟨vA, hA⟩ : ∃ v, nI (ctY (wtY n d (mn6 k)) (2 ^ ppY n) + 1) = v := ⟨_, rfl⟩
    obtain ⟨vB, hB⟩ : ∃ v, nI (ctY (fun m => mnY n m ∧ wtY n d (mn6 k) m) (2 ^ ppY n)) = v := ⟨_, rfl⟩
    rw [hB] at a4
    have hM : MCy (hp_wi (hp_wi (hp_wi (hp_wi σ3 99 (atM n d (mn6 k)) vA) 100 (atM n d (mn6 k)) vB) 101 (atM n d (mn6 k)) (oI1 n o)) 102 (atM n d (mn6 k)) (oI2 o)).1 n d (mn6 k) o := ⟨by rw [hp_wi_ne (by decide), hp_wi_ne (by decide), hp_wi_ne (by decide), hp_wi_at]; exact hA.symm, by rw [hp_wi_ne (by decide), hp_wi_ne (by decide), hp_wi_at]; exact hB.symm, a2, by rw [hp_wi_ne (by decide), hp_wi_at], by rw [hp_wi_at]⟩
    refine fin (hp_wi (hp_wi (hp_wi (hp_wi σ3 99 (atM n d (mn6 k)) vA) 100 (atM n d (mn6 k)) vB) 101 (atM n d (mn6 k)) (oI1 n o)) 102 (atM n d (mn6 k)) (oI2 o)) o (w3.tr ((((fr.wi (by decide)).tr (fr.wi (by decide))).tr (fr.wi (by decide))).tr (fr.wi (by decide)))) ?_ ?_ ?_ hM ?_
    · show σ3.2.2.1 72 0 = 0
      rw [a1.f (by decide)]
      exact e0
    · show σ3.2.2.1 72 45 = 1
      rw [a1.f (by decide), hp_wf_at]
    · intro n' d' k' h1 h2 h3 h4 h5
      by_cases e : atM n' d' k' = atM n d (mn6 k)
      · have : n' = n ∧ d' = d ∧ k' = mn6 k := by
          unfold atM at e
          omega
        obtain ⟨rfl, rfl, rfl⟩ := this
        exact Or.inr ⟨o, hM⟩
      · have r9 : (hp_wi (hp_wi (hp_wi (hp_wi σ3 99 (atM n d (mn6 k)) vA) 100 (atM n d (mn6 k)) vB) 101 (atM n d (mn6 k)) (oI1 n o)) 102 (atM n d (mn6 k)) (oI2 o)).1 99 (atM n' d' k') = σ.1 99 (atM n' d' k') := by
          rw [hp_wi_ne (by decide), hp_wi_ne (by decide), hp_wi_ne (by decide), hp_wi_nj e, a1.r (by decide)]
          rfl
        have r10 : (hp_wi (hp_wi (hp_wi (hp_wi σ3 99 (atM n d (mn6 k)) vA) 100 (atM n d (mn6 k)) vB) 101 (atM n d (mn6 k)) (oI1 n o)) 102 (atM n d (mn6 k)) (oI2 o)).1 100 (atM n' d' k') = σ.1 100 (atM n' d' k') := by
          rw [hp_wi_ne (by decide), hp_wi_ne (by decide), hp_wi_nj e, hp_wi_ne (by decide), a1.r (by decide)]
          rfl
        have r11 : (hp_wi (hp_wi (hp_wi (hp_wi σ3 99 (atM n d (mn6 k)) vA) 100 (atM n d (mn6 k)) vB) 101 (atM n d (mn6 k)) (oI1 n o)) 102 (atM n d (mn6 k)) (oI2 o)).1 101 (atM n' d' k') = σ.1 101 (atM n' d' k') := by
          rw [hp_wi_ne (by decide), hp_wi_nj e, hp_wi_ne (by decide), hp_wi_ne (by decide), a1.r (by decide)]
          rfl
        have r12 : (hp_wi (hp_wi (hp_wi (hp_wi σ3 99 (atM n d (mn6 k)) vA) 100 (atM n d (mn6 k)) vB) 101 (atM n d (mn6 k)) (oI1 n o)) 102 (atM n d (mn6 k)) (oI2 o)).1 102 (atM n' d' k') = σ.1 102 (atM n' d' k') := by
          rw [hp_wi_nj e, hp_wi_ne (by decide), hp_wi_ne (by decide), hp_wi_ne (by decide), a1.r (by decide)]
          rfl
        unfold MCy
        rw [r9, r10, r11, r12]
        exact hJ n' d' k' h1 h2 h3 h4 h5
    · unfold g252_70
      rw [atM_I, r72_54, a99 hlt]
      rw [show (hp_wf (hp_wf σ 72 0 0) 72 45 1).1 99 (atM n d (mn6 k)) = 0 from c, if_neg (fun z => z rfl), o72, a7, lf_cv_r, r72_54, i72_46, a3, nI_1, hA, b99 hlt, r72_55, i72_47]
      rw [show (hp_wi σ3 99 (atM n d (mn6 k)) vA).2.2.1 72 47 = vB from a4, b100 hlt, r72_56, i72_48]
      rw [show (hp_wi (hp_wi σ3 99 (atM n d (mn6 k)) vA) 100 (atM n d (mn6 k)) vB).2.2.1 72 48 = oI1 n o from a5, b101 hlt, r72_57, i72_49]
      rw [show (hp_wi (hp_wi (hp_wi σ3 99 (atM n d (mn6 k)) vA) 100 (atM n d (mn6 k)) vB) 101 (atM n d (mn6 k)) (oI1 n o)).2.2.1 72 49 = oI2 o from a6, b102 hlt]
  · obtain ⟨o, hM⟩ := (hJ n d (mn6 k) hn1 hn hd1 hd hk6).resolve_left c
    refine fin (hp_wf (hp_wf σ 72 0 0) 72 45 1) o w2 e0 hp_wf_at hJ hM ?_
    unfold g252_70
    rw [atM_I, r72_54, a99 hlt]
    rw [show (hp_wf (hp_wf σ 72 0 0) 72 45 1).1 99 (atM n d (mn6 k)) = σ.1 99 (atM n d (mn6 k)) from rfl, if_pos c]
/-- what is kept, seen through what both keep -/
theorem cs_at {a : Nat} (h : a = 45 ∨ a = 46 ∨ a = 47 ∨ a = 90 ∨ a = 99 ∨ a = 100 ∨ a = 101 ∨ a = 102 ∨ a = 116) : iv_cs σ a = σ.1 a := by
  unfold iv_cs
  rw [if_pos h]
theorem jM_cs : jM (iv_cs σ) ↔ jM σ.1 := by
  unfold jM MCy
  rw [cs_at (by decide), cs_at (by decide), cs_at (by decide), cs_at (by decide)]
theorem jK_cs : jK (iv_cs σ) n ↔ jK σ.1 n := by
  unfold jK
  rw [cs_at (by decide), cs_at (by decide), cs_at (by decide)]
theorem wd_or (y : Int32) {m : Nat} (hm : m < 2 ^ 30) : (y < 1 ∨ (¬ y < 1 ∧ nI m < y)) ∨ ∃ w, 1 ≤ w ∧ w ≤ m ∧ y = nI w := by
  have h1 : (1 : Int32).toInt = 1 := rfl
  have hmI : (nI m).toInt = m := nI_toInt (by omega)
  by_cases c : y < 1
  · exact Or.inl (Or.inl c)
  · by_cases e : nI m < y
    · exact Or.inl (Or.inr ⟨c, e⟩)
    · rw [fa_lt, h1] at c
      rw [fa_lt, hmI] at e
      obtain ⟨w, w1, rfl⟩ := nn_of (y := y) (fun z => by
        rw [fa_lt] at z
        have : (0 : Int32).toInt = 0 := rfl
        omega)
      rw [nI_toInt w1] at c e
      exact Or.inr ⟨w, by omega, by omega, rfl⟩
end SMZ
theorem case_small {J : iv_J} {rd : iv_rd} {N : Nat} (hN : iv_N N) (hJ1 : ∀ c, J c → (∀ n, 1 ≤ n → n ≤ 6 → jK c n) ∧ jM c) (hJ2 : ∀ c c', J c → c' 90 = c 90 → c' 116 = c 116 → (∀ n, 1 ≤ n → n ≤ 6 → jK c' n) → jM c' → J c') : iv_caseN J rd N g327_1753 := by
  intro sc i σ cs hs hi hI
  have key : ∃ (τ : hp_S) (ds : Nat × Nat), iv J τ ∧ ds.1 ≤ cs.1 + 1 ∧ ds.2 ≤ cs.2 + 6 ∧ ∀ k : lf_W → lf_R, tl_I (tc_I [("java/lang/IllegalArgumentException", 1)] (f151 N 0 (sc.2 (i + 1)) (sc.2 (i + 2)) (sc.2 (i + 3)) (hp σ, cs))) (fun w => f252 N 72 (sc.2 (i + 1)) (sc.2 (i + 2)) (sc.2 (i + 3)) w) k = k (hp τ, ds) := by
    generalize sc.2 (i + 1) = x
    generalize sc.2 (i + 2) = y
    generalize sc.2 (i + 3) = z
    have e34 : ∀ (σ' : hp_S) (ds : Nat × Nat), g252_34 N 72 x y z 72 (hp (hp_wf σ' 72 0 0), ds) = some (.inl (some (.int 0)), (hp (hp_wf (hp_wf σ' 72 0 0) 72 0 1), ds)) := fun σ' ds => by
      unfold g252_34 g252_35
      rw [o72, m_rf hp_wf_at (by decide), lf_ci_r, if_neg (fun z => z rfl)]
    have no : f151 N 0 x y z (hp σ, cs) = lf_thr "java/lang/IllegalArgumentException" (hp σ, cs) → (∀ (σ' : hp_S) (ds : Nat × Nat), f252 N 72 x y z (hp σ', ds) = g252_34 N 72 x y z 72 (hp (hp_wf σ' 72 0 0), ds)) → ∃ (τ : hp_S) (ds : Nat × Nat), iv J τ ∧ ds.1 ≤ cs.1 + 1 ∧ ds.2 ≤ cs.2 + 6 ∧ ∀ k : lf_W → lf_R, tl_I (tc_I [("java/lang/IllegalArgumentException", 1)] (f151 N 0 x y z (hp σ, cs))) (fun w => f252 N 72 x y z w) k = k (hp τ, ds) := by
      intro h1 h2
      refine n_askI hI (Or.inr ⟨"java/lang/IllegalArgumentException", 1, σ, iv_kept.rf σ, by decide, rfl, h1, fun σ' ds hI' hk => ⟨hp_wf (hp_wf σ' 72 0 0) 72 0 1, 0, iv_k0.tr iv_k0, hp_wf_at, ?_⟩⟩)
      show f252 N 72 x y z (hp σ', ds) = _
      rw [h2, e34]
    rcases wd_or x (m := 6) (by omega) with hx | ⟨n, hn1, hn, rfl⟩
    · apply no
      · unfold f151
        rcases hx with h | ⟨h1, h2⟩
        · rw [if_pos h]
        · rw [if_neg h1, if_pos (show 6 < x from h2)]
      · intro σ' ds
        unfold f252
        rw [w72_0]
        rcases hx with h | ⟨h1, h2⟩
        · rw [m_within_lo h, lf_ci_r, if_pos rfl]
        · rw [m_within_hi (show 6 < x from h2), lf_ci_r, if_pos rfl]
    have n1 : ¬ nI n < 1 := nI_nlt (a := n) (b := 1) hn1 (by omega)
    have n6 : ¬ 6 < nI n := nI_nlt (b := n) (a := 6) hn (by omega)
    rcases wd_or y (m := 8) (by omega) with hy | ⟨d, hd1, hd, rfl⟩
    · apply no
      · unfold f151
        rw [if_neg n1, if_neg n6]
        rcases hy with h | ⟨h1, h2⟩
        · rw [if_pos h]
        · rw [if_neg h1, if_pos (show 8 < y from h2)]
      · intro σ' ds
        unfold f252
        rw [w72_0, m_within_in n1 n6, lf_ci_r, if_neg (by decide)]
        rcases hy with h | ⟨h1, h2⟩
        · rw [m_within_lo h, lf_ci_r, if_pos rfl]
        · rw [m_within_hi (show 8 < y from h2), lf_ci_r, if_pos rfl]
    have d1 : ¬ nI d < 1 := nI_nlt (a := d) (b := 1) hd1 (by omega)
    have d8 : ¬ 8 < nI d := nI_nlt (b := d) (a := 8) hd (by omega)
    by_cases hz : z < 0
    · have hz2 : ¬ 0 ≤ z := fun q => by
        rw [fa_lt] at hz
        rw [fa_le] at q
        omega
      apply no
      · unfold f151
        rw [if_neg n1, if_neg n6, if_neg d1, if_neg d8, if_neg hz2]
      · intro σ' ds
        unfold f252
        rw [w72_0, m_within_in n1 n6, lf_ci_r, if_neg (by decide), m_within_in d1 d8, lf_ci_r, if_neg (by decide), if_pos hz]
    obtain ⟨k, hk, rfl⟩ := nn_of hz
    have hz2 : 0 ≤ nI k := by
      rw [fa_lt] at hz
      rw [fa_le]
      omega
    obtain ⟨j1, j2⟩ := hJ1 _ hI.2.2.2.2.2.2.1
    obtain ⟨τ, o, q1, q2, q3, q4, q5, q6, q7, q8, q9⟩ := c_gath (N := N) (cs := cs) (σ := σ) (d := d) hn1 hn hN hk hd (jK_cs.mp (j1 n hn1 hn))
    have hcl : f151 N 0 (nI n) (nI d) (nI k) (hp σ, cs) = some (.inl (some (.int (nI (ctY (wtY n d k) (2 ^ ppY n))))), (hp τ, cs)) := by
      unfold f151
      rw [if_neg n1, if_neg n6, if_neg d1, if_neg d8, if_pos hz2, r0_8, o44, q9, lf_cv_r, r0_8, i44_1, q4]
    generalize hv0 : nI (ctY (wtY n d k) (2 ^ ppY n)) = v0 at hcl
    have w1 : fr [45, 46, 47, 48, 49, 50, 51, 52, 117] [(44, 0), (44, 1), (44, 2), (44, 3), (44, 4), (44, 10)] σ (hp_wl τ 117 0 v0.toInt64) := (q1.wk (fun _ z => by simp at z; rcases z with z | z | z | z | z | z | z | z <;> simp [z]) (fun _ z => z)).tr (fr.wl (by decide))
    obtain ⟨ψ, o', r1, r2, r3, r4, r5, r6, r7, r8, r9, r10⟩ := m_252 (N := N) (cs := cs) (σ := hp_wl τ 117 0 v0.toInt64) hn1 hn hd1 hd hN hk (by
      have := jM_cs.mp j2
      intro n' d' k' h1 h2 h3 h4 h5
      unfold MCy
      rw [w1.r (by decide), w1.r (by decide), w1.r (by decide), w1.r (by decide)]
      exact this n' d' k' h1 h2 h3 h4 h5)
    have hoo := BSo_one q2 r4
    rw [hv0] at r10
    have W : fr [45, 46, 47, 48, 49, 50, 51, 52, 117, 76, 81, 95, 96, 97, 98, 99, 100, 101, 102] [(44, 0), (44, 1), (44, 2), (44, 3), (44, 4), (44, 10), (72, 0), (72, 4), (72, 5), (72, 24), (72, 25), (72, 45), (72, 46), (72, 47), (72, 48), (72, 49)] σ ψ := (w1.wk (fun _ z => by simp at z; rcases z with z | z | z | z | z | z | z | z | z <;> simp [z]) (fun _ z => by simp at z; rcases z with z | z | z | z | z | z <;> simp [z])).tr (r1.wk (fun _ z => by simp at z; rcases z with z | z | z | z | z | z | z | z | z | z <;> simp [z]) (fun _ z => by simp at z; rcases z with z | z | z | z | z | z | z | z | z | z <;> simp [z]))
    have f44 : ∀ j, ψ.2.2.1 44 j = τ.2.2.1 44 j := fun j => by
      rw [r1.f (by simp)]
      rfl
    have hsm : iv_small ψ := by
      refine ⟨Or.inr (by rw [f44]; exact q3), by rw [f44, q3, r3], fun _ => ⟨by rw [f44, q4, r5], by rw [f44, q5, r6], by rw [f44, q6, r7, hoo], by rw [f44, q7, r8, hoo]⟩⟩
    obtain ⟨h1, h2, h3, h4, h5, h6, h7, h8⟩ := hI
    refine ⟨ψ, cs, ⟨h1.fr (fun s hs => ⟨W.f (by simp <;> omega), W.f (by simp <;> omega), W.r (by simp <;> omega)⟩) (W.r (by decide)) (W.r (by decide)) (W.r (by decide)), h2.fr (W.f (by decide)) (W.f (by decide)) (W.r (by decide)) (W.r (by decide)), h3.fr (W.f (by decide)) (W.f (by decide)), hsm, h5.fr (W.f (by decide)) (W.f (by decide)) (W.r (by decide)) (W.r (by decide)), h6.fr (W.f (by decide)) (W.f (by decide)) (W.r (by decide)) (W.r (by decide)), ?_, ⟨by rw [W.g (by decide), W.g (by decide)]; exact h8.1, by rw [W.g (by decide), W.g (by decide)]; exact h8.2.1, by rw [W.g (by decide), W.g (by decide)]; exact h8.2.2⟩⟩, Nat.le_add_right _ _, Nat.le_add_right _ _, fun kk => ?_⟩
    · refine hJ2 _ _ h7 ?_ ?_ (fun m m1 m2 => ?_) ?_
      · rw [cs_at (by decide), cs_at (by decide)]
        exact W.r (by decide)
      · rw [cs_at (by decide), cs_at (by decide)]
        exact W.r (by decide)
      · rw [jK_cs]
        have g := q8 m m1 m2 (jK_cs.mp (j1 m m1 m2))
        unfold jK at g ⊢
        rw [r1.r (by decide), r1.r (by decide), r1.r (by decide)]
        exact g
      · rw [jM_cs]
        exact r9
    · refine tl_I_ok (tc_I_ret hcl) r10 r2 (fun _ => ?_)
      rw [r1.l (by decide), tl_wl_at]
  obtain ⟨τ, ds, q1, q2, q3, q4⟩ := key
  refine ⟨τ, ds, q1, q2, q3, fun k23 => ?_⟩
  rw [← q4 (k23 (nI i + 6))]
  unfold g327_1753 h310 f310
  simp only [iv_s1 hs hi, iv_s2 hs hi, iv_s3 hs hi, Option.bind_some, if_pos hp_x]
  rfl
