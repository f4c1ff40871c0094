/-! read: tokens of a text, and the class's advance -/
def tkS (b : Nat) : Bool := decide (b = 32) || decide (b = 10)
def tkL (b : Nat) : Bool := decide (97 ≤ b) && decide (b ≤ 122)
def tkD (b : Nat) : Bool := decide (48 ≤ b) && decide (b ≤ 57)
theorem tkS_iff {b : Nat} : tkS b = true ↔ b = 32 ∨ b = 10 := by
  unfold tkS
  rw [Bool.or_eq_true, decide_eq_true_iff, decide_eq_true_iff]
theorem tkL_iff {b : Nat} : tkL b = true ↔ 97 ≤ b ∧ b ≤ 122 := by
  unfold tkL
  rw [Bool.and_eq_true, decide_eq_true_iff, decide_eq_true_iff]
theorem tkD_iff {b : Nat} : tkD b = true ↔ 48 ≤ b ∧ b ≤ 57 := by
  unfold tkD
  rw [Bool.and_eq_true, decide_eq_true_iff, decide_eq_true_iff]
/-- the first place from p on, m places at most, at which Pr fails -/
def tkR (Pr : Nat → Bool) (B : Nat → Nat) : Nat → Nat → Nat
  | 0, p => p
  | m + 1, p => if Pr (B p) = true then tkR Pr B m (p + 1) else p
section TKP
variable {Pr : Nat → Bool} {B : Nat → Nat} {n p s : Nat}
theorem tkR_s {m : Nat} (h : Pr (B p) = true) : tkR Pr B (m + 1) p = tkR Pr B m (p + 1) := by
  rw [tkR, if_pos h]
theorem tkR_n {m : Nat} (h : ¬ Pr (B p) = true) : tkR Pr B (m + 1) p = p := by
  rw [tkR, if_neg h]
theorem tkR_le : ∀ (m p : Nat), p ≤ tkR Pr B m p ∧ tkR Pr B m p ≤ p + m := by
  intro m
  induction m with
  | zero => exact fun p => ⟨Nat.le_refl _, Nat.le_refl _⟩
  | succ m ih =>
    intro p
    by_cases c : Pr (B p) = true
    · rw [tkR_s c]
      have := ih (p + 1)
      omega
    · rw [tkR_n c]
      omega
theorem tkR_in : ∀ (m p j : Nat), p ≤ j → j < tkR Pr B m p → Pr (B j) = true := by
  intro m
  induction m with
  | zero =>
    intro p j h1 h2
    have : tkR Pr B 0 p = p := rfl
    omega
  | succ m ih =>
    intro p j h1 h2
    by_cases c : Pr (B p) = true
    · rw [tkR_s c] at h2
      by_cases e : j = p
      · rw [e]
        exact c
      · exact ih (p + 1) j (by omega) h2
    · rw [tkR_n c] at h2
      omega
theorem tkR_gt {m : Nat} (h : Pr (B p) = true) (hm : 1 ≤ m) : p < tkR Pr B m p := by
  obtain ⟨q, rfl⟩ : ∃ q, m = q + 1 := ⟨m - 1, by omega⟩
  rw [tkR_s h]
  have := tkR_le (Pr := Pr) (B := B) q (p + 1)
  omega
end TKP
/-- a token from p on: where it starts, its kind (0 none is left, 1 a word, 2 a number, 3 a semicolon, 4 another), where it ends -/
def tkA (B : Nat → Nat) (n p : Nat) : Nat := tkR tkS B (n - p) p
def tkK (B : Nat → Nat) (n p : Nat) : Nat := if n ≤ tkA B n p then 0 else if tkL (B (tkA B n p)) = true then 1 else if tkD (B (tkA B n p)) = true then 2 else if B (tkA B n p) = 59 then 3 else 4
def tkE (B : Nat → Nat) (n p : Nat) : Nat := if n ≤ tkA B n p then tkA B n p else if tkL (B (tkA B n p)) = true then tkR tkL B (n - tkA B n p) (tkA B n p) else if tkD (B (tkA B n p)) = true then tkR tkD B (n - tkA B n p) (tkA B n p) else tkA B n p + 1
/-- the number that the first m digits say, of those at places up to c -/
def tkV (c : Nat) (B : Nat → Nat) (s : Nat) : Nat → Nat
  | 0 => 0
  | m + 1 => if m ≤ c then 10 * tkV c B s m + (B (s + m) - 48) else tkV c B s m
/-- the bytes that are read -/
def TB (B : Nat → Nat) (n : Nat) : Prop := n ≤ 400 ∧ (∀ j, B j < 256) ∧ ∀ j, n ≤ j → B j = 0
section TKQ
variable {B : Nat → Nat} {n p s : Nat}
theorem tk_0 (h : n ≤ tkA B n p) : tkK B n p = 0 ∧ tkE B n p = tkA B n p := by
  unfold tkK tkE
  rw [if_pos h, if_pos h]
  exact ⟨rfl, rfl⟩
theorem tk_1 (h : ¬ n ≤ tkA B n p) (h1 : tkL (B (tkA B n p)) = true) : tkK B n p = 1 ∧ tkE B n p = tkR tkL B (n - tkA B n p) (tkA B n p) := by
  unfold tkK tkE
  rw [if_neg h, if_neg h, if_pos h1, if_pos h1]
  exact ⟨rfl, rfl⟩
theorem tk_2 (h : ¬ n ≤ tkA B n p) (h1 : ¬ tkL (B (tkA B n p)) = true) (h2 : tkD (B (tkA B n p)) = true) : tkK B n p = 2 ∧ tkE B n p = tkR tkD B (n - tkA B n p) (tkA B n p) := by
  unfold tkK tkE
  rw [if_neg h, if_neg h, if_neg h1, if_neg h1, if_pos h2, if_pos h2]
  exact ⟨rfl, rfl⟩
theorem tk_3 (h : ¬ n ≤ tkA B n p) (h1 : ¬ tkL (B (tkA B n p)) = true) (h2 : ¬ tkD (B (tkA B n p)) = true) : tkK B n p = (if B (tkA B n p) = 59 then 3 else 4) ∧ tkE B n p = tkA B n p + 1 := by
  unfold tkK tkE
  rw [if_neg h, if_neg h, if_neg h1, if_neg h1, if_neg h2, if_neg h2]
  exact ⟨rfl, rfl⟩
theorem tkA_le (h : p ≤ n) : p ≤ tkA B n p ∧ tkA B n p ≤ n := by
  have := tkR_le (Pr := tkS) (B := B) (n - p) p
  unfold tkA
  omega
theorem tkE_le (h : p ≤ n) : tkA B n p ≤ tkE B n p ∧ tkE B n p ≤ n := by
  have ha := tkA_le (B := B) h
  by_cases c : n ≤ tkA B n p
  · rw [(tk_0 c).2]
    omega
  · by_cases c1 : tkL (B (tkA B n p)) = true
    · rw [(tk_1 c c1).2]
      have := tkR_le (Pr := tkL) (B := B) (n - tkA B n p) (tkA B n p)
      omega
    · by_cases c2 : tkD (B (tkA B n p)) = true
      · rw [(tk_2 c c1 c2).2]
        have := tkR_le (Pr := tkD) (B := B) (n - tkA B n p) (tkA B n p)
        omega
      · rw [(tk_3 c c1 c2).2]
        omega
theorem tkK_le : tkK B n p ≤ 4 := by
  unfold tkK
  split
  · omega
  · split
    · omega
    · split
      · omega
      · split <;> omega
theorem tkV_eq : ∀ m, m ≤ 3 → tkV 3 B s m = tkV 2 B s m := by
  intro m
  induction m with
  | zero => exact fun _ => rfl
  | succ m ih =>
    intro h
    rw [tkV, tkV, if_pos (by omega), if_pos (by omega), ih (by omega)]
theorem tkV_lt {c : Nat} (hc : c ≤ 3) (hB : ∀ j, B j < 256) : ∀ m, (m ≤ 0 → tkV c B s m ≤ 0) ∧ (m ≤ 1 → tkV c B s m ≤ 208) ∧ (m ≤ 2 → tkV c B s m ≤ 2288) ∧ (m ≤ 3 → tkV c B s m ≤ 23088) ∧ tkV c B s m ≤ 231088 := by
  intro m
  induction m with
  | zero =>
    have : tkV c B s 0 = 0 := rfl
    omega
  | succ m ih =>
    have hb := hB (s + m)
    by_cases h : m ≤ c
    · rw [tkV, if_pos h]
      omega
    · rw [tkV, if_neg h]
      omega
theorem tkV_b {c m : Nat} (hc : c ≤ 3) (hB : ∀ j, B j < 256) : tkV c B s m ≤ 231088 := (tkV_lt hc hB m).2.2.2.2
theorem ten_nI {v b : Nat} (h : 48 ≤ b) : ((10 : Int32) * nI v + nI b) - 48 = nI (10 * v + (b - 48)) := by
  rw [show (10 : Int32) * nI v = nI (10 * v) from (Int32.ofNat_mul 10 v).symm, nI_add, show (48 : Int32) = nI 48 from rfl, pk_sub (by omega)]
  congr 1
  omega
end TKQ
/-- the class's text and token -/
def TC (σ : hp_S) (B : Nat → Nat) (n : Nat) : Prop := σ.2.2.1 20 7 = nI n ∧ ∀ j, j < n → σ.1 23 j = nI (B j)
def CT (σ : hp_S) (B : Nat → Nat) (n p : Nat) : Prop := σ.2.2.1 20 8 = nI (tkK B n p) ∧ σ.2.2.1 20 9 = nI (tkA B n p) ∧ σ.2.2.1 20 10 = nI (tkE B n p) ∧ (tkK B n p = 2 → σ.2.2.1 20 11 = nI (tkV 3 B (tkA B n p) (tkE B n p - tkA B n p)))
theorem TC.fr {σ τ : hp_S} {B : Nat → Nat} {n : Nat} {A : List Nat} {F : List (Nat × Nat)} (h : TC σ B n) (k : fr A F σ τ) (hA : 23 ∉ A) (hF : (20, 7) ∉ F) : TC τ B n := by
  refine ⟨by rw [k.f hF]; exact h.1, fun j hj => ?_⟩
  rw [k.r hA]
  exact h.2 j hj
theorem CT.fr {σ τ : hp_S} {B : Nat → Nat} {n p : Nat} {A : List Nat} {F : List (Nat × Nat)} (h : CT σ B n p) (k : fr A F σ τ) (h1 : (20, 8) ∉ F) (h2 : (20, 9) ∉ F) (h3 : (20, 10) ∉ F) (h4 : (20, 11) ∉ F) : CT τ B n p := by
  unfold CT
  rw [k.f h1, k.f h2, k.f h3, k.f h4]
  exact h
section RDC
variable {cs : Nat × Nat} {N n p s : Nat} {B : Nat → Nat} {σ : hp_S}
theorem c_let1 {b : Nat} {w : lf_W} (h : tkL b = true) : f90 N (nI b) w = some (.inl (some (.int 1)), w) := by
  have h := tkL_iff.mp h
  unfold f90
  rw [if_neg (show ¬ nI b < 97 from nI_nlt (b := 97) (by omega) (by omega)), if_neg (show ¬ (122 : Int32) < nI b from nI_nlt (a := 122) (by omega) (by omega))]
theorem c_let0 {b : Nat} {w : lf_W} (hb : b < 256) (h : ¬ tkL b = true) : f90 N (nI b) w = some (.inl (some (.int 0)), w) := by
  rw [tkL_iff] at h
  unfold f90
  by_cases c : b < 97
  · rw [if_pos (show nI b < 97 from nI_lt (b := 97) c (by omega))]
  · rw [if_neg (show ¬ nI b < 97 from nI_nlt (b := 97) (by omega) (by omega)), if_pos (show (122 : Int32) < nI b from nI_lt (a := 122) (by omega) (by omega))]
theorem c_dig1 {b : Nat} {w : lf_W} (h : tkD b = true) : f91 N (nI b) w = some (.inl (some (.int 1)), w) := by
  have h := tkD_iff.mp h
  unfold f91
  rw [if_neg (show ¬ nI b < 48 from nI_nlt (b := 48) (by omega) (by omega)), if_neg (show ¬ (57 : Int32) < nI b from nI_nlt (a := 57) (by omega) (by omega))]
theorem c_dig0 {b : Nat} {w : lf_W} (hb : b < 256) (h : ¬ tkD b = true) : f91 N (nI b) w = some (.inl (some (.int 0)), w) := by
  rw [tkD_iff] at h
  unfold f91
  by_cases c : b < 48
  · rw [if_pos (show nI b < 48 from nI_lt (b := 48) c (by omega))]
  · rw [if_neg (show ¬ nI b < 48 from nI_nlt (b := 48) (by omega) (by omega)), if_pos (show (57 : Int32) < nI b from nI_lt (a := 57) (by omega) (by omega))]
theorem c_long0 {i : Nat} (h9 : σ.2.2.1 20 9 = nI s) (h10 : σ.2.2.1 20 10 = nI (s + i)) (h : i ≤ 3) : f88 N 20 (hp σ, cs) = some (.inl (some (.int 0)), (hp σ, cs)) := by
  unfold f88
  rw [i20_10, i20_9, h9, h10, pk_sub (by omega), show s + i - s = i by omega, if_pos (show nI i ≤ 3 from nI_le (b := 3) h (by omega))]
theorem c_long1 {i : Nat} (h9 : σ.2.2.1 20 9 = nI s) (h10 : σ.2.2.1 20 10 = nI (s + i)) (h : 3 < i) (hi : i < 1000) : f88 N 20 (hp σ, cs) = some (.inl (some (.int 1)), (hp σ, cs)) := by
  unfold f88
  rw [i20_10, i20_9, h9, h10, pk_sub (by omega), show s + i - s = i by omega, if_neg (show ¬ nI i ≤ 3 from nI_ge (a := 3) h (by omega))]
theorem c_sk (hB : TB B n) : ∀ (m s u : Nat) (σ : hp_S), s + m = n → m < u → TC σ B n → σ.2.2.1 20 9 = nI s → ∃ τ, fr [] [(20, 9)] σ τ ∧ τ.2.2.1 20 9 = nI (tkR tkS B m s) ∧ g86_8 N u 20 (hp σ, cs) = g86_60 N 20 (hp τ, cs) := by
  intro m
  induction m with
  | zero =>
    intro s u σ hs hu hT h9
    have hn := hB.1
    obtain ⟨u, rfl⟩ : ∃ q, u = q + 1 := ⟨u - 1, by omega⟩
    refine ⟨σ, fr.rf, h9, ?_⟩
    unfold g86_8
    rw [i20_9, i20_7, h9, hT.1, if_pos (nI_le (by omega) (by omega))]
  | succ m ih =>
    intro s u σ hs hu hT h9
    have hn := hB.1
    obtain ⟨u, rfl⟩ : ∃ q, u = q + 1 := ⟨u - 1, by omega⟩
    have b1 := hB.2.1 s
    have b2 := hT.2 s (by omega)
    have pre : g86_8 N (u + 1) 20 (hp σ, cs) = if nI (B s) = 32 then (g86_47 N (g86_8 N u) 20 (hp σ, cs)) else (if ¬ nI (B s) = 10 then (g86_60 N 20 (hp σ, cs)) else (g86_47 N (g86_8 N u) 20 (hp σ, cs))) := by
      rw [g86_8, i20_9, i20_7, h9, hT.1, if_neg (nI_ge (by omega) (by omega)), r20_1, i20_9, h9, a23 (by omega), b2, r20_1, i20_9, h9, a23 (by omega), b2]
    by_cases c : tkS (B s) = true
    · have fw : fr [] [(20, 9)] σ (hp_wf σ 20 9 (nI (s + 1))) := fr.wf (by decide)
      obtain ⟨τ, q1, q2, q3⟩ := ih (s + 1) u (hp_wf σ 20 9 (nI (s + 1))) (by omega) (by omega) (hT.fr fw (by decide) (by decide)) hp_wf_at
      refine ⟨τ, fw.tr q1, by rw [q2, tkR_s c], ?_⟩
      have e47 : g86_47 N (g86_8 N u) 20 (hp σ, cs) = g86_8 N u 20 (hp (hp_wf σ 20 9 (nI (s + 1))), cs) := by
        unfold g86_47
        rw [i20_9, h9, nI_1, w20_9]
      rw [pre]
      by_cases d : B s = 32
      · rw [if_pos (show nI (B s) = 32 from (nI_eq (b := 32) (by omega) (by omega)).mpr d), e47]
        exact q3
      · have d2 : B s = 10 := by
          have := tkS_iff.mp c
          omega
        rw [if_neg (show ¬ nI (B s) = 32 from fun z => d ((nI_eq (b := 32) (by omega) (by omega)).mp z)), if_neg (show ¬ ¬ nI (B s) = 10 from fun z => z ((nI_eq (b := 10) (by omega) (by omega)).mpr d2)), e47]
        exact q3
    · have d : ¬ B s = 32 ∧ ¬ B s = 10 := by
        rw [tkS_iff] at c
        omega
      refine ⟨σ, fr.rf, by rw [tkR_n c]; exact h9, ?_⟩
      rw [pre, if_neg (show ¬ nI (B s) = 32 from fun z => d.1 ((nI_eq (b := 32) (by omega) (by omega)).mp z)), if_pos (show ¬ nI (B s) = 10 from fun z => d.2 ((nI_eq (b := 10) (by omega) (by omega)).mp z))]
theorem c_w107 (hB : TB B n) : ∀ (m j u : Nat) (σ : hp_S), j + m = n → m < u → TC σ B n → σ.2.2.1 20 10 = nI j → ∃ τ, fr [] [(20, 10)] σ τ ∧ τ.2.2.1 20 10 = nI (tkR tkL B m j) ∧ g86_107 N u 20 (hp σ, cs) = some (.inl none, (hp τ, cs)) := by
  intro m
  induction m with
  | zero =>
    intro j u σ hs hu hT h10
    have hn := hB.1
    obtain ⟨u, rfl⟩ : ∃ q, u = q + 1 := ⟨u - 1, by omega⟩
    refine ⟨σ, fr.rf, h10, ?_⟩
    unfold g86_107
    rw [i20_10, i20_7, h10, hT.1, if_pos (nI_le (by omega) (by omega))]
  | succ m ih =>
    intro j u σ hs hu hT h10
    have hn := hB.1
    obtain ⟨u, rfl⟩ : ∃ q, u = q + 1 := ⟨u - 1, by omega⟩
    have b1 := hB.2.1 j
    have b2 := hT.2 j (by omega)
    by_cases c : tkL (B j) = true
    · have fw : fr [] [(20, 10)] σ (hp_wf σ 20 10 (nI (j + 1))) := fr.wf (by decide)
      obtain ⟨τ, q1, q2, q3⟩ := ih (j + 1) u (hp_wf σ 20 10 (nI (j + 1))) (by omega) (by omega) (hT.fr fw (by decide) (by decide)) hp_wf_at
      refine ⟨τ, fw.tr q1, by rw [q2, tkR_s c], ?_⟩
      unfold g86_107
      rw [i20_10, i20_7, h10, hT.1, if_neg (nI_ge (by omega) (by omega)), r20_1, i20_10, h10, a23 (by omega), b2, c_let1 c, lf_ci_r, if_neg (by decide), i20_10, h10, nI_1, w20_10]
      exact q3
    · refine ⟨σ, fr.rf, by rw [tkR_n c]; exact h10, ?_⟩
      unfold g86_107
      rw [i20_10, i20_7, h10, hT.1, if_neg (nI_ge (by omega) (by omega)), r20_1, i20_10, h10, a23 (by omega), b2, c_let0 b1 c, lf_ci_r, if_pos rfl]
theorem c_d10 (hB : TB B n) : ∀ (m i u : Nat) (σ : hp_S), s + i + m = n → m < u → TC σ B n → σ.2.2.1 20 9 = nI s → σ.2.2.1 20 10 = nI (s + i) → σ.2.2.1 20 11 = nI (tkV 3 B s i) → ∃ τ, fr [] [(20, 10), (20, 11)] σ τ ∧ τ.2.2.1 20 10 = nI (tkR tkD B m (s + i)) ∧ τ.2.2.1 20 11 = nI (tkV 3 B s (tkR tkD B m (s + i) - s)) ∧ g87_10 N u 20 (hp σ, cs) = some (.inl none, (hp τ, cs)) := by
  intro m
  induction m with
  | zero =>
    intro i u σ hs hu hT h9 h10 h11
    have hn := hB.1
    obtain ⟨u, rfl⟩ : ∃ q, u = q + 1 := ⟨u - 1, by omega⟩
    refine ⟨σ, fr.rf, h10, ?_, ?_⟩
    · rw [show tkR tkD B 0 (s + i) = s + i from rfl, Nat.add_sub_cancel_left]
      exact h11
    · unfold g87_10
      rw [i20_10, i20_7, h10, hT.1, if_pos (nI_le (by omega) (by omega))]
  | succ m ih =>
    intro i u σ hs hu hT h9 h10 h11
    have hn := hB.1
    obtain ⟨u, rfl⟩ : ∃ q, u = q + 1 := ⟨u - 1, by omega⟩
    have b1 := hB.2.1 (s + i)
    have b2 := hT.2 (s + i) (by omega)
    by_cases c : tkD (B (s + i)) = true
    · have hd := tkD_iff.mp c
      have fw : fr [] [(20, 10), (20, 11)] σ (hp_wf (hp_wf σ 20 11 (nI (tkV 3 B s (i + 1)))) 20 10 (nI (s + (i + 1)))) := (fr.wf (by decide)).tr (fr.wf (by decide))
      obtain ⟨τ, q1, q2, q3, q4⟩ := ih (i + 1) u (hp_wf (hp_wf σ 20 11 (nI (tkV 3 B s (i + 1)))) 20 10 (nI (s + (i + 1)))) (by omega) (by omega) (hT.fr fw (by decide) (by decide)) (by rw [hp_wf_ne (by decide), hp_wf_ne (by decide)]; exact h9) hp_wf_at (by rw [hp_wf_ne (by decide)]; exact hp_wf_at)
      have e71 : ∀ x : Int32, x = nI (tkV 3 B s (i + 1)) → g87_71 N (g87_10 N u) 20 x 20 (hp σ, cs) = some (.inl none, (hp τ, cs)) := by
        intro x hx
        rw [hx]
        unfold g87_71
        rw [w20_11, i20_10, hp_wf_ne (by decide), h10, nI_1, w20_10]
        exact q4
      refine ⟨τ, fw.tr q1, by rw [tkR_s c]; exact q2, by rw [tkR_s c]; exact q3, ?_⟩
      by_cases l : i ≤ 3
      · unfold g87_10
        rw [i20_10, i20_7, h10, hT.1, if_neg (nI_ge (by omega) (by omega)), r20_1, i20_10, h10, a23 (by omega), b2, c_dig1 c, lf_ci_r, if_neg (by decide), o20, c_long0 h9 h10 l, lf_ci_r, if_pos rfl, i20_11, h11, r20_1, i20_10, h10, a23 (by omega), b2, ten_nI hd.1]
        exact e71 _ (by rw [tkV, if_pos l])
      · unfold g87_10
        rw [i20_10, i20_7, h10, hT.1, if_neg (nI_ge (by omega) (by omega)), r20_1, i20_10, h10, a23 (by omega), b2, c_dig1 c, lf_ci_r, if_neg (by decide), o20, c_long1 h9 h10 (by omega) (by omega), lf_ci_r, if_neg (by decide), i20_11, h11]
        exact e71 _ (by rw [tkV, if_neg l])
    · refine ⟨σ, fr.rf, by rw [tkR_n c]; exact h10, ?_, ?_⟩
      · rw [tkR_n c, Nat.add_sub_cancel_left]
        exact h11
      · unfold g87_10
        rw [i20_10, i20_7, h10, hT.1, if_neg (nI_ge (by omega) (by omega)), r20_1, i20_10, h10, a23 (by omega), b2, c_dig0 b1 c, lf_ci_r, if_pos rfl]
/-- the class's advance: the token from its end on -/
theorem c_adv (hN : iv_N N) (hB : TB B n) (hT : TC σ B n) (hq : p ≤ n) (h10 : σ.2.2.1 20 10 = nI p) : ∃ τ, fr [] [(20, 8), (20, 9), (20, 10), (20, 11)] σ τ ∧ CT τ B n p ∧ f86 N 20 (hp σ, cs) = some (.inl none, (hp τ, cs)) := by
  have hn := hB.1
  have ha := tkA_le (B := B) hq
  have fw : fr [] [(20, 8), (20, 9), (20, 10), (20, 11)] σ (hp_wf σ 20 9 (nI p)) := fr.wf (by decide)
  obtain ⟨σ1, a1, a2, a3⟩ := c_sk (N := N) (cs := cs) hB (n - p) p N (hp_wf σ 20 9 (nI p)) (by omega) (by unfold iv_N at hN; omega) (hT.fr fw (by decide) (by decide)) hp_wf_at
  have w1 : fr [] [(20, 8), (20, 9), (20, 10), (20, 11)] σ σ1 := fw.tr (a1.wk (by decide) (by decide))
  have pre : f86 N 20 (hp σ, cs) = g86_60 N 20 (hp σ1, cs) := by
    unfold f86
    rw [i20_10, h10, w20_9]
    exact a3
  have a2 : σ1.2.2.1 20 9 = nI (tkA B n p) := a2
  have fw2 : fr [] [(20, 8), (20, 9), (20, 10), (20, 11)] σ1 (hp_wf σ1 20 10 (nI (tkA B n p))) := fr.wf (by decide)
  have T2 : TC (hp_wf σ1 20 10 (nI (tkA B n p))) B n := hT.fr (w1.tr fw2) (by decide) (by decide)
  have e9 : (hp_wf σ1 20 10 (nI (tkA B n p))).2.2.1 20 9 = nI (tkA B n p) := by
    rw [hp_wf_ne (by decide)]
    exact a2
  have e10 : (hp_wf σ1 20 10 (nI (tkA B n p))).2.2.1 20 10 = nI (tkA B n p) := hp_wf_at
  have W2 := w1.tr fw2
  have pre2 : g86_60 N 20 (hp σ1, cs) = if nI (tkA B n p) < nI n then ((lf_fr (hp (hp_wf σ1 20 10 (nI (tkA B n p))), cs) 20 7 1).bind fun v10 => (lf_fi (hp (hp_wf σ1 20 10 (nI (tkA B n p))), cs) 20 7 9).bind fun v12 => (lf_ri (hp (hp_wf σ1 20 10 (nI (tkA B n p))), cs) v10 v12).bind fun v14 => lf_ci (f90 N v14 (hp (hp_wf σ1 20 10 (nI (tkA B n p))), cs)) fun v19 w16 => if v19 = 0 then ((lf_fr w16 20 7 1).bind fun v21 => (lf_fi w16 20 7 9).bind fun v23 => (lf_ri w16 v21 v23).bind fun v25 => lf_ci (f91 N v25 w16) fun v30 w27 => if v30 = 0 then ((lf_fr w27 20 7 1).bind fun v32 => (lf_fi w27 20 7 9).bind fun v34 => (lf_ri w27 v32 v34).bind fun v36 => if ¬ v36 = 59 then (g86_188 N 20 4 20 w27) else (g86_188 N 20 3 20 w27)) else (if lf_is w27 20 7 = true then (lf_cv (f87 N 20 w27) fun w39 => some (.inl none, w39)) else none)) else ((lf_wf w16 20 7 8 0 (.int 1)).bind fun w45 => g86_107 N N 20 w45)) else ((lf_wf (hp (hp_wf σ1 20 10 (nI (tkA B n p))), cs) 20 7 8 0 (.int 0)).bind fun w47 => some (.inl none, w47)) := by
    unfold g86_60
    rw [i20_9, a2, w20_10, i20_9, e9, i20_7, T2.1]
  generalize hp_wf σ1 20 10 (nI (tkA B n p)) = σ2 at fw2 T2 e9 e10 W2 pre2
  rw [pre, pre2]
  by_cases c : n ≤ tkA B n p
  · obtain ⟨k1, k2⟩ := tk_0 c
    refine ⟨hp_wf σ2 20 8 0, W2.tr (fr.wf (by decide)), ⟨by rw [k1, hp_wf_at]; rfl, by rw [hp_wf_ne (by decide)]; exact e9, by rw [k2, hp_wf_ne (by decide)]; exact e10, fun z => by omega⟩, ?_⟩
    rw [if_neg (nI_nlt c (by omega)), w20_8]
  · have b1 := hB.2.1 (tkA B n p)
    have b2 := T2.2 (tkA B n p) (by omega)
    rw [if_pos (nI_lt (by omega) (by omega)), r20_1, i20_9, e9, a23 (by omega), b2]
    by_cases c1 : tkL (B (tkA B n p)) = true
    · obtain ⟨k1, k2⟩ := tk_1 c c1
      have fw3 : fr [] [(20, 8), (20, 9), (20, 10), (20, 11)] σ2 (hp_wf σ2 20 8 1) := fr.wf (by decide)
      obtain ⟨τ, q1, q2, q3⟩ := c_w107 (N := N) (cs := cs) hB (n - tkA B n p) (tkA B n p) N (hp_wf σ2 20 8 1) (by omega) (by unfold iv_N at hN; omega) (T2.fr fw3 (by decide) (by decide)) (by rw [hp_wf_ne (by decide)]; exact e10)
      refine ⟨τ, (W2.tr fw3).tr (q1.wk (by decide) (by decide)), ⟨by rw [k1, q1.f (by decide), hp_wf_at]; rfl, by rw [q1.f (by decide), hp_wf_ne (by decide)]; exact e9, by rw [k2]; exact q2, fun z => by omega⟩, ?_⟩
      rw [c_let1 c1, lf_ci_r, if_neg (by decide), w20_8]
      exact q3
    · rw [c_let0 b1 c1, lf_ci_r, if_pos rfl, r20_1, i20_9, e9, a23 (by omega), b2]
      by_cases c2 : tkD (B (tkA B n p)) = true
      · obtain ⟨k1, k2⟩ := tk_2 c c1 c2
        have fw3 : fr [] [(20, 8), (20, 9), (20, 10), (20, 11)] σ2 (hp_wf (hp_wf σ2 20 8 2) 20 11 0) := (fr.wf (by decide)).tr (fr.wf (by decide))
        obtain ⟨τ, q1, q2, q3, q4⟩ := c_d10 (N := N) (cs := cs) (s := tkA B n p) hB (n - tkA B n p) 0 N (hp_wf (hp_wf σ2 20 8 2) 20 11 0) (by omega) (by unfold iv_N at hN; omega) (T2.fr fw3 (by decide) (by decide)) (by rw [hp_wf_ne (by decide), hp_wf_ne (by decide)]; exact e9) (by rw [hp_wf_ne (by decide), hp_wf_ne (by decide)]; exact e10) hp_wf_at
        rw [Nat.add_zero] at q2 q3
        refine ⟨τ, (W2.tr fw3).tr (q1.wk (by decide) (by decide)), ⟨by rw [k1, q1.f (by decide), hp_wf_ne (by decide), hp_wf_at]; rfl, by rw [q1.f (by decide), hp_wf_ne (by decide), hp_wf_ne (by decide)]; exact e9, by rw [k2]; exact q2, fun _ => by rw [k2]; exact q3⟩, ?_⟩
        rw [c_dig1 c2, lf_ci_r, if_neg (by decide), o20]
        unfold f87
        rw [w20_8, w20_11, q4, lf_cv_r]
      · obtain ⟨k1, k2⟩ := tk_3 c c1 c2
        rw [c_dig0 b1 c2, lf_ci_r, if_pos rfl, r20_1, i20_9, e9, a23 (by omega), b2]
        have fin : ∀ x : Int32, x = nI (tkK B n p) → ∃ τ, fr [] [(20, 8), (20, 9), (20, 10), (20, 11)] σ τ ∧ CT τ B n p ∧ g86_188 N 20 x 20 (hp σ2, cs) = some (.inl none, (hp τ, cs)) := by
          intro x hx
          refine ⟨hp_wf (hp_wf σ2 20 8 x) 20 10 (nI (tkA B n p + 1)), W2.tr ((fr.wf (by decide)).tr (fr.wf (by decide))), ⟨by rw [hp_wf_ne (by decide), hp_wf_at]; exact hx, by rw [hp_wf_ne (by decide), hp_wf_ne (by decide)]; exact e9, by rw [k2]; exact hp_wf_at, fun z => ?_⟩, ?_⟩
          · rw [k1] at z
            split at z <;> omega
          · unfold g86_188
            rw [w20_8, i20_10, hp_wf_ne (by decide), e10, nI_1, w20_10]
        by_cases c3 : B (tkA B n p) = 59
        · rw [if_neg (show ¬ ¬ nI (B (tkA B n p)) = 59 from fun z => z ((nI_eq (b := 59) (by omega) (by omega)).mpr c3))]
          exact fin 3 (by rw [k1, if_pos c3]; rfl)
        · rw [if_pos (show ¬ nI (B (tkA B n p)) = 59 from fun z => c3 ((nI_eq (b := 59) (by omega) (by omega)).mp z))]
          exact fin 4 (by rw [k1, if_neg c3]; rfl)
end RDC
