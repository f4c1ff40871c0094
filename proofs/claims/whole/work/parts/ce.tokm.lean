/-! read: the model's tokens, words -/
/-- the number that m letters spell -/
def tkW (B : Nat → Nat) (s : Nat) : Nat → Nat
  | 0 => 0
  | m + 1 => 32 * tkW B s m + (B (s + m) - 96)
theorem tkW_lt {B : Nat → Nat} {s : Nat} : ∀ m, (∀ k, k < m → tkL (B (s + k)) = true) → tkW B s m < 32 ^ m := by
  intro m
  induction m with
  | zero => exact fun _ => by show 0 < 1; omega
  | succ m ih =>
    intro h
    have h1 := ih (fun k hk => h k (by omega))
    have h2 := tkL_iff.mp (h m (by omega))
    rw [tkW, Nat.pow_succ]
    omega
theorem tkW_35 {B : Nat → Nat} {s m : Nat} (hm : m ≤ 7) (h : ∀ k, k < m → tkL (B (s + k)) = true) : tkW B s m < 2 ^ 35 := by
  have h1 := tkW_lt m h
  have h2 : 32 ^ m ≤ 32 ^ 7 := Nat.pow_le_pow_right (by omega) hm
  have h3 : (32 : Nat) ^ 7 = 2 ^ 35 := by decide
  omega
theorem tkW_30 {B : Nat → Nat} {s m : Nat} (hm : m ≤ 6) (h : ∀ k, k < m → tkL (B (s + k)) = true) : tkW B s m < 2 ^ 31 := by
  have h1 := tkW_lt m h
  have h2 : 32 ^ m ≤ 32 ^ 6 := Nat.pow_le_pow_right (by omega) hm
  have h3 : (32 : Nat) ^ 6 = 2 ^ 30 := by decide
  omega
theorem tkW_inj {B C : Nat → Nat} {s t : Nat} : ∀ m l, (∀ k, k < m → tkL (B (s + k)) = true) → (∀ k, k < l → tkL (C (t + k)) = true) → tkW B s m = tkW C t l → m = l ∧ ∀ k, k < m → B (s + k) = C (t + k) := by
  intro m
  induction m with
  | zero =>
    intro l h1 h2 h
    cases l with
    | zero => exact ⟨rfl, fun k hk => absurd hk (Nat.not_lt_zero k)⟩
    | succ l =>
      have := tkL_iff.mp (h2 l (by omega))
      rw [tkW, tkW] at h
      omega
  | succ m ih =>
    intro l h1 h2 h
    have d1 := tkL_iff.mp (h1 m (by omega))
    cases l with
    | zero =>
      rw [tkW, tkW] at h
      omega
    | succ l =>
      have d2 := tkL_iff.mp (h2 l (by omega))
      rw [tkW, tkW] at h
      obtain ⟨e1, e2⟩ := ih l (fun k hk => h1 k (by omega)) (fun k hk => h2 k (by omega)) (by omega)
      subst e1
      refine ⟨rfl, fun k hk => ?_⟩
      by_cases c : k = m
      · subst c
        omega
      · exact e2 k (by omega)
theorem w32 {a b : Nat} (ha : a < 2 ^ 40) (h1 : 97 ≤ b) (h2 : b ≤ 122) : lf_lshl (lN a) 5 ||| (nI b - 96).toInt64 = lN (32 * a + (b - 96)) := by
  have e1 : lf_lshl (lN a) 5 = lN (a * 2 ^ 5) := wb_shl a (k := 5) (by decide)
  have e2 : (nI b - 96).toInt64 = lN (b - 96) := by
    rw [show (96 : Int32) = nI 96 from rfl, pk_sub (by omega), nI_l (by omega)]
  rw [e1, e2, show (2 : Nat) ^ 5 = 32 by decide, g_or (k := 5) (p := 32) (by decide) (by omega) (by omega)]
  congr 1
  omega
/-- the token is this word -/
abbrev tkI (l : List Nat) (B : Nat → Nat) (n p : Nat) : Prop := tkK B n p = 1 ∧ tkE B n p - tkA B n p = l.length ∧ ∀ k, k < l.length → B (tkA B n p + k) = l.getD k 0
abbrev wd0 : List Nat := [114, 111, 119]
abbrev wd1 : List Nat := [114, 105, 110, 103]
abbrev wd2 : List Nat := [97, 108, 108]
abbrev wd3 : List Nat := [115, 116, 97, 114]
abbrev wd4 : List Nat := [111, 102, 102]
abbrev wd5 : List Nat := [107, 110, 111, 116, 115]
abbrev wd6 : List Nat := [100, 101, 103, 114, 101, 101]
/-- which word: row, ring, all, star, off, knots, degree, none -/
def tkX (B : Nat → Nat) (n p : Nat) : Nat := if tkI wd0 B n p then 0 else if tkI wd1 B n p then 1 else if tkI wd2 B n p then 2 else if tkI wd3 B n p then 3 else if tkI wd4 B n p then 4 else if tkI wd5 B n p then 5 else if tkI wd6 B n p then 6 else 7
section TKX
variable {B : Nat → Nat} {n p : Nat}
theorem tkX_5 : tkX B n p = 5 ↔ tkI wd5 B n p := by
  constructor
  · intro h
    unfold tkX at h
    by_cases c : tkI wd5 B n p
    · exact c
    · rw [if_neg c] at h
      repeat' split at h
      all_goals omega
  · intro h
    have h5 : tkE B n p - tkA B n p = 5 := h.2.1
    unfold tkX
    rw [if_neg (fun z : tkI wd0 B n p => absurd (h5.symm.trans z.2.1) (by decide)), if_neg (fun z : tkI wd1 B n p => absurd (h5.symm.trans z.2.1) (by decide)), if_neg (fun z : tkI wd2 B n p => absurd (h5.symm.trans z.2.1) (by decide)), if_neg (fun z : tkI wd3 B n p => absurd (h5.symm.trans z.2.1) (by decide)), if_neg (fun z : tkI wd4 B n p => absurd (h5.symm.trans z.2.1) (by decide)), if_pos h]
theorem tkX_6 : tkX B n p = 6 ↔ tkI wd6 B n p := by
  constructor
  · intro h
    unfold tkX at h
    by_cases c : tkI wd6 B n p
    · exact c
    · rw [if_neg c] at h
      repeat' split at h
      all_goals omega
  · intro h
    have h5 : tkE B n p - tkA B n p = 6 := h.2.1
    unfold tkX
    rw [if_neg (fun z : tkI wd0 B n p => absurd (h5.symm.trans z.2.1) (by decide)), if_neg (fun z : tkI wd1 B n p => absurd (h5.symm.trans z.2.1) (by decide)), if_neg (fun z : tkI wd2 B n p => absurd (h5.symm.trans z.2.1) (by decide)), if_neg (fun z : tkI wd3 B n p => absurd (h5.symm.trans z.2.1) (by decide)), if_neg (fun z : tkI wd4 B n p => absurd (h5.symm.trans z.2.1) (by decide)), if_neg (fun z : tkI wd5 B n p => absurd (h5.symm.trans z.2.1) (by decide)), if_pos h]
theorem tkX_le : tkX B n p ≤ 7 := by
  unfold tkX
  repeat' split
  all_goals omega
theorem tkX_K (h : tkX B n p < 7) : tkK B n p = 1 := by
  by_cases c : tkK B n p = 1
  · exact c
  · exfalso
    unfold tkX at h
    rw [if_neg (fun z : tkI wd0 B n p => c z.1), if_neg (fun z : tkI wd1 B n p => c z.1), if_neg (fun z : tkI wd2 B n p => c z.1), if_neg (fun z : tkI wd3 B n p => c z.1), if_neg (fun z : tkI wd4 B n p => c z.1), if_neg (fun z : tkI wd5 B n p => c z.1), if_neg (fun z : tkI wd6 B n p => c z.1)] at h
    omega
theorem tk_let (h : tkK B n p = 1) : ∀ k, k < tkE B n p - tkA B n p → tkL (B (tkA B n p + k)) = true := by
  intro k hk
  by_cases c : n ≤ tkA B n p
  · have := (tk_0 c).1
    omega
  · by_cases c1 : tkL (B (tkA B n p)) = true
    · rw [(tk_1 c c1).2] at hk
      exact tkR_in (n - tkA B n p) (tkA B n p) _ (by omega) (by omega)
    · exfalso
      by_cases c2 : tkD (B (tkA B n p)) = true
      · have := (tk_2 c c1 c2).1
        omega
      · have := (tk_3 c c1 c2).1
        rw [this] at h
        split at h <;> omega
end TKX
theorem lg_cmp_z {x y : Int64} : lg_cmp x y = 0 ↔ x = y := by
  constructor
  · intro h
    unfold lg_cmp at h
    split at h
    · exact absurd h (by decide)
    · split at h
      · assumption
      · exact absurd h (by decide)
  · intro h
    rw [h]
    exact lg_cmp_rf y
/-- the model's text and token -/
def TM (σ : hp_S) (B : Nat → Nat) (n : Nat) : Prop := σ.2.2.1 72 11 = nI n ∧ ∀ j, j < n → σ.1 77 j = nI (B j)
def MK (σ : hp_S) (B : Nat → Nat) (n p : Nat) : Prop := σ.2.2.1 72 13 = nI (tkK B n p) ∧ σ.2.2.1 72 14 = nI (tkA B n p) ∧ σ.2.2.1 72 12 = nI (tkE B n p) ∧ σ.2.2.1 72 15 = nI (tkE B n p - tkA B n p) ∧ (tkK B n p = 2 → σ.2.2.1 72 16 = nI (tkV 2 B (tkA B n p) (tkE B n p - tkA B n p))) ∧ (tkK B n p = 1 → tkE B n p - tkA B n p ≤ 6 → σ.2.2.2 72 17 = lN (tkW B (tkA B n p) (tkE B n p - tkA B n p)))
theorem TM.fr {σ τ : hp_S} {B : Nat → Nat} {n : Nat} {A : List Nat} {F : List (Nat × Nat)} (h : TM σ B n) (k : fr A F σ τ) (hA : 77 ∉ A) (hF : (72, 11) ∉ F) : TM τ B n := by
  refine ⟨by rw [k.f hF]; exact h.1, fun j hj => ?_⟩
  rw [k.r hA]
  exact h.2 j hj
theorem MK.fr {σ τ : hp_S} {B : Nat → Nat} {n p : Nat} {A : List Nat} {F : List (Nat × Nat)} (h : MK σ B n p) (k : fr A F σ τ) (h1 : (72, 12) ∉ F) (h2 : (72, 13) ∉ F) (h3 : (72, 14) ∉ F) (h4 : (72, 15) ∉ F) (h5 : (72, 16) ∉ F) (h6 : (72, 17) ∉ F) : MK τ B n p := by
  unfold MK
  rw [k.f h1, k.f h2, k.f h3, k.f h4, k.f h5, k.g h6]
  exact h
section RDM
variable {cs : Nat × Nat} {N n p s : Nat} {B : Nat → Nat} {σ : hp_S}
theorem l72_17 {f : Int64 → lf_R} : (lf_fl (hp σ, cs) 72 12 17).bind f = f (σ.2.2.2 72 17) := by rw [hp_fl (a := 72) (k := 17) rfl rfl, Option.bind_some]
theorem w72_17 {x : Int64} {h : lf_W → lf_R} : (lf_wf (hp σ, cs) 72 12 17 3 (.long x)).bind h = h (hp (hp_wg σ 72 17 x), cs) := by rw [hp_swg (a := 72) (k := 17) rfl rfl, Option.bind_some]
theorem hp_wg_at {a k : Nat} {x : Int64} : (hp_wg σ a k x).2.2.2 a k = x := by
  show hp_up σ.2.2.2 a k x a k = x
  unfold hp_up
  rw [if_pos ⟨rfl, rfl⟩]
theorem m_let1 {b : Nat} {w : lf_W} (h : tkL b = true) : f193 N (nI b) w = some (.inl (some (.int 1)), w) := by
  have h := tkL_iff.mp h
  unfold f193
  rw [if_neg (show ¬ nI b < 97 from nI_nlt (b := 97) (by omega) (by omega)), if_neg (show ¬ (122 : Int32) < nI b from nI_nlt (a := 122) (by omega) (by omega))]
theorem m_let0 {b : Nat} {w : lf_W} (hb : b < 256) (h : ¬ tkL b = true) : f193 N (nI b) w = some (.inl (some (.int 0)), w) := by
  rw [tkL_iff] at h
  unfold f193
  by_cases c : b < 97
  · rw [if_pos (show nI b < 97 from nI_lt (b := 97) c (by omega))]
  · rw [if_neg (show ¬ nI b < 97 from nI_nlt (b := 97) (by omega) (by omega)), if_pos (show (122 : Int32) < nI b from nI_lt (a := 122) (by omega) (by omega))]
theorem m_dig1 {b : Nat} {w : lf_W} (h : tkD b = true) : f194 N (nI b) w = some (.inl (some (.int 1)), w) := by
  have h := tkD_iff.mp h
  unfold f194
  rw [if_neg (show ¬ nI b < 48 from nI_nlt (b := 48) (by omega) (by omega)), if_neg (show ¬ (57 : Int32) < nI b from nI_nlt (a := 57) (by omega) (by omega))]
theorem m_dig0 {b : Nat} {w : lf_W} (hb : b < 256) (h : ¬ tkD b = true) : f194 N (nI b) w = some (.inl (some (.int 0)), w) := by
  rw [tkD_iff] at h
  unfold f194
  by_cases c : b < 48
  · rw [if_pos (show nI b < 48 from nI_lt (b := 48) c (by omega))]
  · rw [if_neg (show ¬ nI b < 48 from nI_nlt (b := 48) (by omega) (by omega)), if_pos (show (57 : Int32) < nI b from nI_lt (a := 57) (by omega) (by omega))]
theorem m_byte {j : Nat} (hB : TB B n) (hT : TM σ B n) (hj : j ≤ n) : f192 N 72 (nI j) (hp σ, cs) = some (.inl (some (.int (nI (B j)))), (hp σ, cs)) := by
  have hn := hB.1
  unfold f192
  rw [i72_11, hT.1]
  by_cases c : n ≤ j
  · rw [if_pos (nI_le c (by omega)), hB.2.2 j c]
    rfl
  · rw [if_neg (nI_ge (by omega) (by omega)), r72_7, a77 (by omega), hT.2 j (by omega)]
theorem m_sk (hB : TB B n) : ∀ (m s u : Nat) (σ : hp_S), s + m = n → m < u → TM σ B n → σ.2.2.1 72 12 = nI s → ∃ τ, fr [] [(72, 12)] σ τ ∧ τ.2.2.1 72 12 = nI (tkR tkS B m s) ∧ g195_0 N u 72 (hp σ, cs) = g195_50 N 72 (hp τ, cs) := by
  intro m
  induction m with
  | zero =>
    intro s u σ hs hu hT h9
    have hn := hB.1
    obtain ⟨u, rfl⟩ : ∃ q, u = q + 1 := ⟨u - 1, by omega⟩
    refine ⟨σ, fr.rf, h9, ?_⟩
    unfold g195_0
    rw [i72_12, i72_11, h9, hT.1, if_pos (nI_le (by omega) (by omega))]
  | succ m ih =>
    intro s u σ hs hu hT h9
    have hn := hB.1
    obtain ⟨u, rfl⟩ : ∃ q, u = q + 1 := ⟨u - 1, by omega⟩
    have b1 := hB.2.1 s
    have pre : g195_0 N (u + 1) 72 (hp σ, cs) = if nI (B s) = 32 then (g195_37 N (g195_0 N u) 72 (hp σ, cs)) else (if ¬ nI (B s) = 10 then (g195_50 N 72 (hp σ, cs)) else (g195_37 N (g195_0 N u) 72 (hp σ, cs))) := by
      rw [g195_0, i72_12, i72_11, h9, hT.1, if_neg (nI_ge (by omega) (by omega)), i72_12, h9, o72, m_byte hB hT (by omega), lf_ci_r, i72_12, h9, o72, m_byte hB hT (by omega), lf_ci_r]
    by_cases c : tkS (B s) = true
    · have fw : fr [] [(72, 12)] σ (hp_wf σ 72 12 (nI (s + 1))) := fr.wf (by decide)
      obtain ⟨τ, q1, q2, q3⟩ := ih (s + 1) u (hp_wf σ 72 12 (nI (s + 1))) (by omega) (by omega) (hT.fr fw (by decide) (by decide)) hp_wf_at
      refine ⟨τ, fw.tr q1, by rw [q2, tkR_s c], ?_⟩
      have e47 : g195_37 N (g195_0 N u) 72 (hp σ, cs) = g195_0 N u 72 (hp (hp_wf σ 72 12 (nI (s + 1))), cs) := by
        unfold g195_37
        rw [i72_12, h9, nI_1, w72_12]
      rw [pre]
      by_cases d : B s = 32
      · rw [if_pos (show nI (B s) = 32 from (nI_eq (b := 32) (by omega) (by omega)).mpr d), e47]
        exact q3
      · have d2 : B s = 10 := by
          have := tkS_iff.mp c
          omega
        rw [if_neg (show ¬ nI (B s) = 32 from fun z => d ((nI_eq (b := 32) (by omega) (by omega)).mp z)), if_neg (show ¬ ¬ nI (B s) = 10 from fun z => z ((nI_eq (b := 10) (by omega) (by omega)).mpr d2)), e47]
        exact q3
    · have d : ¬ B s = 32 ∧ ¬ B s = 10 := by
        rw [tkS_iff] at c
        omega
      refine ⟨σ, fr.rf, by rw [tkR_n c]; exact h9, ?_⟩
      rw [pre, if_neg (show ¬ nI (B s) = 32 from fun z => d.1 ((nI_eq (b := 32) (by omega) (by omega)).mp z)), if_pos (show ¬ nI (B s) = 10 from fun z => d.2 ((nI_eq (b := 10) (by omega) (by omega)).mp z))]
theorem m_278 {i : Nat} (h12 : σ.2.2.1 72 12 = nI (s + i)) (h14 : σ.2.2.1 72 14 = nI s) : g195_278 N 72 (hp σ, cs) = some (.inl none, (hp (hp_wf σ 72 15 (nI i)), cs)) := by
  unfold g195_278
  rw [i72_12, i72_14, h12, h14, pk_sub (by omega), show s + i - s = i by omega, w72_15]
theorem m_w103 (hB : TB B n) : ∀ (m i u : Nat) (σ : hp_S), s + i + m = n → m < u → TM σ B n → σ.2.2.1 72 12 = nI (s + i) → σ.2.2.1 72 14 = nI s → (∀ k, k < i → tkL (B (s + k)) = true) → (i ≤ 7 → σ.2.2.2 72 17 = lN (tkW B s i)) → ∃ τ, fr [] [(72, 12), (72, 13), (72, 15), (72, 17)] σ τ ∧ τ.2.2.1 72 12 = nI (tkR tkL B m (s + i)) ∧ τ.2.2.1 72 13 = 1 ∧ τ.2.2.1 72 15 = nI (tkR tkL B m (s + i) - s) ∧ (tkR tkL B m (s + i) - s ≤ 7 → τ.2.2.2 72 17 = lN (tkW B s (tkR tkL B m (s + i) - s))) ∧ g195_103 N u 72 (hp σ, cs) = some (.inl none, (hp τ, cs)) := by
  intro m
  induction m with
  | zero =>
    intro i u σ hs hu hT h12 h14 hl h17
    have hn := hB.1
    obtain ⟨u, rfl⟩ : ∃ q, u = q + 1 := ⟨u - 1, by omega⟩
    have z : ¬ tkL (B (s + i)) = true := by
      rw [hB.2.2 (s + i) (by omega)]
      decide
    rw [show tkR tkL B 0 (s + i) = s + i from rfl, Nat.add_sub_cancel_left]
    refine ⟨hp_wf (hp_wf σ 72 13 1) 72 15 (nI i), (fr.wf (by decide)).tr (fr.wf (by decide)), by rw [hp_wf_ne (by decide), hp_wf_ne (by decide)]; exact h12, by rw [hp_wf_ne (by decide), hp_wf_at], hp_wf_at, h17, ?_⟩
    unfold g195_103
    rw [i72_12, h12, o72, m_byte hB hT (by omega), lf_ci_r, m_let0 (hB.2.1 _) z, lf_ci_r, if_pos rfl, w72_13, m_278 (by rw [hp_wf_ne (by decide)]; exact h12) (by rw [hp_wf_ne (by decide)]; exact h14)]
  | succ m ih =>
    intro i u σ hs hu hT h12 h14 hl h17
    have hn := hB.1
    obtain ⟨u, rfl⟩ : ∃ q, u = q + 1 := ⟨u - 1, by omega⟩
    by_cases c : tkL (B (s + i)) = true
    · have hd := tkL_iff.mp c
      have hl' : ∀ k, k < i + 1 → tkL (B (s + k)) = true := by
        intro k hk
        by_cases e : k = i
        · rw [e]
          exact c
        · exact hl k (by omega)
      by_cases l : 7 ≤ i
      · have fw : fr [] [(72, 12), (72, 13), (72, 15), (72, 17)] σ (hp_wf σ 72 12 (nI (s + (i + 1)))) := fr.wf (by decide)
        obtain ⟨τ, q1, q2, q3, q4, q5, q6⟩ := ih (i + 1) u (hp_wf σ 72 12 (nI (s + (i + 1)))) (by omega) (by omega) (hT.fr fw (by decide) (by decide)) hp_wf_at (by rw [hp_wf_ne (by decide)]; exact h14) hl' (fun z => by omega)
        rw [tkR_s c]
        refine ⟨τ, fw.tr q1, q2, q3, q4, q5, ?_⟩
        unfold g195_103
        rw [i72_12, h12, o72, m_byte hB hT (by omega), lf_ci_r, m_let1 c, lf_ci_r, if_neg (by decide), i72_12, i72_14, h12, h14, pk_sub (by omega), show s + i - s = i by omega, if_pos (show (7 : Int32) ≤ nI i from nI_le (a := 7) l (by omega))]
        unfold g195_154
        rw [i72_12, h12, nI_1, w72_12]
        exact q6
      · have fw : fr [] [(72, 12), (72, 13), (72, 15), (72, 17)] σ (hp_wf (hp_wg σ 72 17 (lN (tkW B s (i + 1)))) 72 12 (nI (s + (i + 1)))) := (fr.wg (by decide)).tr (fr.wf (by decide))
        obtain ⟨τ, q1, q2, q3, q4, q5, q6⟩ := ih (i + 1) u (hp_wf (hp_wg σ 72 17 (lN (tkW B s (i + 1)))) 72 12 (nI (s + (i + 1)))) (by omega) (by omega) (hT.fr fw (by decide) (by decide)) hp_wf_at (by rw [hp_wf_ne (by decide)]; exact h14) hl' (fun _ => show (hp_wg σ 72 17 (lN (tkW B s (i + 1)))).2.2.2 72 17 = _ from hp_wg_at)
        rw [tkR_s c]
        refine ⟨τ, fw.tr q1, q2, q3, q4, q5, ?_⟩
        unfold g195_103
        rw [i72_12, h12, o72, m_byte hB hT (by omega), lf_ci_r, m_let1 c, lf_ci_r, if_neg (by decide), i72_12, i72_14, h12, h14, pk_sub (by omega), show s + i - s = i by omega, if_neg (show ¬ (7 : Int32) ≤ nI i from nI_ge (b := 7) (by omega) (by omega)), l72_17, h17 (by omega), i72_12, h12, o72, m_byte hB hT (by omega), lf_ci_r, w32 (Nat.lt_trans (tkW_35 (by omega) hl) (by decide)) hd.1 hd.2, w72_17]
        unfold g195_154
        rw [i72_12]
        rw [show (hp_wg σ 72 17 (lN (32 * tkW B s i + (B (s + i) - 96)))).2.2.1 72 12 = nI (s + i) from h12, nI_1, w72_12]
        exact q6
    · rw [tkR_n c, Nat.add_sub_cancel_left]
      refine ⟨hp_wf (hp_wf σ 72 13 1) 72 15 (nI i), (fr.wf (by decide)).tr (fr.wf (by decide)), by rw [hp_wf_ne (by decide), hp_wf_ne (by decide)]; exact h12, by rw [hp_wf_ne (by decide), hp_wf_at], hp_wf_at, h17, ?_⟩
      unfold g195_103
      rw [i72_12, h12, o72, m_byte hB hT (by omega), lf_ci_r, m_let0 (hB.2.1 _) c, lf_ci_r, if_pos rfl, w72_13, m_278 (by rw [hp_wf_ne (by decide)]; exact h12) (by rw [hp_wf_ne (by decide)]; exact h14)]
theorem m_d182 (hB : TB B n) : ∀ (m i u : Nat) (σ : hp_S), s + i + m = n → m < u → TM σ B n → σ.2.2.1 72 12 = nI (s + i) → σ.2.2.1 72 14 = nI s → σ.2.2.1 72 16 = nI (tkV 2 B s i) → ∃ τ, fr [] [(72, 12), (72, 13), (72, 15), (72, 16)] σ τ ∧ τ.2.2.1 72 12 = nI (tkR tkD B m (s + i)) ∧ τ.2.2.1 72 13 = 2 ∧ τ.2.2.1 72 15 = nI (tkR tkD B m (s + i) - s) ∧ τ.2.2.1 72 16 = nI (tkV 2 B s (tkR tkD B m (s + i) - s)) ∧ g195_182 N u 72 (hp σ, cs) = some (.inl none, (hp τ, cs)) := by
  intro m
  induction m with
  | zero =>
    intro i u σ hs hu hT h12 h14 h16
    have hn := hB.1
    obtain ⟨u, rfl⟩ : ∃ q, u = q + 1 := ⟨u - 1, by omega⟩
    have z : ¬ tkD (B (s + i)) = true := by
      rw [hB.2.2 (s + i) (by omega)]
      decide
    rw [show tkR tkD B 0 (s + i) = s + i from rfl, Nat.add_sub_cancel_left]
    refine ⟨hp_wf (hp_wf σ 72 13 2) 72 15 (nI i), (fr.wf (by decide)).tr (fr.wf (by decide)), by rw [hp_wf_ne (by decide), hp_wf_ne (by decide)]; exact h12, by rw [hp_wf_ne (by decide), hp_wf_at], hp_wf_at, by rw [hp_wf_ne (by decide), hp_wf_ne (by decide)]; exact h16, ?_⟩
    unfold g195_182
    rw [i72_12, h12, o72, m_byte hB hT (by omega), lf_ci_r, m_dig0 (hB.2.1 _) z, lf_ci_r, if_pos rfl, w72_13, m_278 (by rw [hp_wf_ne (by decide)]; exact h12) (by rw [hp_wf_ne (by decide)]; exact h14)]
  | succ m ih =>
    intro i u σ hs hu hT h12 h14 h16
    have hn := hB.1
    obtain ⟨u, rfl⟩ : ∃ q, u = q + 1 := ⟨u - 1, by omega⟩
    by_cases c : tkD (B (s + i)) = true
    · have hd := tkD_iff.mp c
      by_cases l : 3 ≤ i
      · have fw : fr [] [(72, 12), (72, 13), (72, 15), (72, 16)] σ (hp_wf σ 72 12 (nI (s + (i + 1)))) := fr.wf (by decide)
        obtain ⟨τ, q1, q2, q3, q4, q5, q6⟩ := ih (i + 1) u (hp_wf σ 72 12 (nI (s + (i + 1)))) (by omega) (by omega) (hT.fr fw (by decide) (by decide)) hp_wf_at (by rw [hp_wf_ne (by decide)]; exact h14) (by rw [hp_wf_ne (by decide), tkV, if_neg (by omega)]; exact h16)
        rw [tkR_s c]
        refine ⟨τ, fw.tr q1, q2, q3, q4, q5, ?_⟩
        unfold g195_182
        rw [i72_12, h12, o72, m_byte hB hT (by omega), lf_ci_r, m_dig1 c, lf_ci_r, if_neg (by decide), i72_12, i72_14, h12, h14, pk_sub (by omega), show s + i - s = i by omega, if_pos (show (3 : Int32) ≤ nI i from nI_le (a := 3) l (by omega))]
        unfold g195_232
        rw [i72_12, h12, nI_1, w72_12]
        exact q6
      · have fw : fr [] [(72, 12), (72, 13), (72, 15), (72, 16)] σ (hp_wf (hp_wf σ 72 16 (nI (tkV 2 B s (i + 1)))) 72 12 (nI (s + (i + 1)))) := (fr.wf (by decide)).tr (fr.wf (by decide))
        obtain ⟨τ, q1, q2, q3, q4, q5, q6⟩ := ih (i + 1) u (hp_wf (hp_wf σ 72 16 (nI (tkV 2 B s (i + 1)))) 72 12 (nI (s + (i + 1)))) (by omega) (by omega) (hT.fr fw (by decide) (by decide)) hp_wf_at (by rw [hp_wf_ne (by decide), hp_wf_ne (by decide)]; exact h14) (by rw [hp_wf_ne (by decide)]; exact hp_wf_at)
        rw [tkR_s c]
        refine ⟨τ, fw.tr q1, q2, q3, q4, q5, ?_⟩
        have ev : 10 * tkV 2 B s i + (B (s + i) - 48) = tkV 2 B s (i + 1) := by rw [tkV, if_pos (by omega)]
        unfold g195_182
        rw [i72_12, h12, o72, m_byte hB hT (by omega), lf_ci_r, m_dig1 c, lf_ci_r, if_neg (by decide), i72_12, i72_14, h12, h14, pk_sub (by omega), show s + i - s = i by omega, if_neg (show ¬ (3 : Int32) ≤ nI i from nI_ge (b := 3) (by omega) (by omega)), i72_16, h16, i72_12, h12, o72, m_byte hB hT (by omega), lf_ci_r, ten_nI hd.1, ev, w72_16]
        unfold g195_232
        rw [i72_12, hp_wf_ne (by decide), h12, nI_1, w72_12]
        exact q6
    · rw [tkR_n c, Nat.add_sub_cancel_left]
      refine ⟨hp_wf (hp_wf σ 72 13 2) 72 15 (nI i), (fr.wf (by decide)).tr (fr.wf (by decide)), by rw [hp_wf_ne (by decide), hp_wf_ne (by decide)]; exact h12, by rw [hp_wf_ne (by decide), hp_wf_at], hp_wf_at, by rw [hp_wf_ne (by decide), hp_wf_ne (by decide)]; exact h16, ?_⟩
      unfold g195_182
      rw [i72_12, h12, o72, m_byte hB hT (by omega), lf_ci_r, m_dig0 (hB.2.1 _) c, lf_ci_r, if_pos rfl, w72_13, m_278 (by rw [hp_wf_ne (by decide)]; exact h12) (by rw [hp_wf_ne (by decide)]; exact h14)]
end RDM
