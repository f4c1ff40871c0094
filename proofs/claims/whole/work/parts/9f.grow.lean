/-! a knot comes in: lines are pulled to it -/
def pl (f : Nat → Int32) (a b n : Nat) : Nat → Int32 := fl_r (fl_r (fl_r f a b) a n) b n
def plm (a b n k : Nat) : Int32 := if k = a then lf_shl 1 (nI b) ||| lf_shl 1 (nI n) else if k = b then lf_shl 1 (nI a) ||| lf_shl 1 (nI n) else if k = n then lf_shl 1 (nI a) ||| lf_shl 1 (nI b) else 0
def d3 (a b n : Nat) : Prop := a < 24 ∧ b < 24 ∧ n < 24 ∧ a ≠ b ∧ a ≠ n ∧ b ≠ n
theorem pl_row {f : Nat → Int32} {a b n : Nat} (h : d3 a b n) (k : Nat) : pl f a b n k = f k ^^^ plm a b n k := by
  obtain ⟨h1, h2, h3, h4, h5, h6⟩ := h
  have e : ∀ (g : Nat → Int32) (p q k : Nat), fl_r g p q k = if k = q then g q ^^^ lf_shl 1 (nI p) else if k = p then g p ^^^ lf_shl 1 (nI q) else g k := fun _ _ _ _ => rfl
  unfold pl plm
  by_cases ka : k = a
  · subst ka
    rw [if_pos rfl, or_xor (by omega) (by omega) h6, e _ b n, if_neg h5, if_neg h4, e _ k n, if_neg h5, if_pos rfl, e _ k b, if_neg h4, if_pos rfl]
  · rw [if_neg ka]
    by_cases kb : k = b
    · subst kb
      rw [if_pos rfl, or_xor (by omega) (by omega) h5, e _ k n, if_neg h6, if_pos rfl, e _ a n, if_neg h6, if_neg ka, e _ a k, if_pos rfl]
    · rw [if_neg kb]
      by_cases kn : k = n
      · subst kn
        rw [if_pos rfl, or_xor (by omega) (by omega) h4, e _ b k, if_pos rfl, e _ a k, if_pos rfl, e _ a b, if_neg kb, if_neg ka]
      · rw [if_neg kn, e _ b n, if_neg kn, if_neg kb, e _ a n, if_neg kn, if_neg ka, e _ a b, if_neg kb, if_neg ka, Int32.xor_zero]
theorem pl_pl {f : Nat → Int32} {a b n : Nat} (h : d3 a b n) (k : Nat) : pl (pl f a b n) a b n k = f k := by rw [pl_row h, pl_row h, xx]
theorem pl_congr {f g : Nat → Int32} {a b n : Nat} (h : d3 a b n) (e : ∀ k, k < 24 → f k = g k) : ∀ k, k < 24 → pl f a b n k = pl g a b n k := fun k hk => by rw [pl_row h, pl_row h, e k hk]
theorem gw_up {f : Nat → Int32} {n : Nat} (hw : gw f n) : gw f (n + 1) := fun a ha b hb => by
  obtain ⟨q1, q2, q3, q4⟩ := hw a ha b hb
  exact ⟨by omega, by omega, q3, q4⟩
theorem pl_gw {f : Nat → Int32} {m a b n : Nat} (hm : m ≤ 24) (hw : gw f m) (h : d3 a b n) (ha : a < m) (hb : b < m) (hn : n < m) : gw (pl f a b n) m := by
  obtain ⟨h1, h2, h3, h4, h5, h6⟩ := h
  exact gw_fl hm (gw_fl hm (gw_fl hm hw ha hb h4) ha hn h5) hb hn h6
theorem pc_add2 {x : Int32} {p q : Nat} (hp : p < 32) (hq : q < 32) (h : p ≠ q) (h1 : bt x p = false) (h2 : bt x q = false) : i_pc (x ^^^ (lf_shl 1 (nI p) ||| lf_shl 1 (nI q))) = i_pc x + 2 := by
  rw [or_xor hp hq h]
  have e1 := i_pc_on hp h1
  have e2 := i_pc_on (x := x ^^^ lf_shl 1 (nI p)) hq (by
    rw [x_bit hp hq, h2, decide_eq_false (fun q => h q.symm)]
    rfl)
  omega
theorem pl_pc {f : Nat → Int32} {a b n : Nat} (h : d3 a b n) (h1 : bt (f a) b = true) (h1' : bt (f b) a = true) (h2 : bt (f a) n = false) (h3 : bt (f b) n = false) (h4 : bt (f n) a = false) (h5 : bt (f n) b = false) (k : Nat) : i_pc (pl f a b n k) = i_pc (f k) + (if k = n then 2 else 0) := by
  have h' := h
  obtain ⟨q1, q2, q3, q4, q5, q6⟩ := h
  rw [pl_row h']
  unfold plm
  by_cases ka : k = a
  · rw [if_pos ka, ka, pc_sw (by omega) (by omega) q6 h1 h2, if_neg q5]
    omega
  · rw [if_neg ka]
    by_cases kb : k = b
    · rw [if_pos kb, kb, pc_sw (by omega) (by omega) q5 h1' h3, if_neg q6]
      omega
    · rw [if_neg kb]
      by_cases kn : k = n
      · rw [if_pos kn, if_pos kn, kn, pc_add2 (by omega) (by omega) q4 h4 h5]
      · rw [if_neg kn, if_neg kn, Int32.xor_zero]
        omega
theorem pl_bt {f : Nat → Int32} {a b n k i : Nat} (h : d3 a b n) (hi : i < 24) : bt (pl f a b n k) i = (((bt (f k) i ^^ decide ((k = a ∧ i = b) ∨ (k = b ∧ i = a))) ^^ decide ((k = a ∧ i = n) ∨ (k = n ∧ i = a))) ^^ decide ((k = b ∧ i = n) ∨ (k = n ∧ i = b))) := by
  obtain ⟨q1, q2, q3, q4, q5, q6⟩ := h
  unfold pl
  rw [fl_bit q2 q3 q6 (by omega), fl_bit q1 q3 q5 (by omega), fl_bit q1 q2 q4 (by omega)]
def pl2 (σ : hp_S) (r a b n : Nat) : hp_S := fl2 (fl2 (fl2 σ r a b) r a n) r b n
theorem pl2_at {σ : hp_S} {r a b n : Nat} (k : Nat) : (pl2 σ r a b n).1 r k = pl (σ.1 r) a b n k := by
  unfold pl2 pl
  rw [fl2_at, show (fl2 (fl2 σ r a b) r a n).1 r = fl_r (fl_r (σ.1 r) a b) a n from by
    funext j
    rw [fl2_at, show (fl2 σ r a b).1 r = fl_r (σ.1 r) a b from funext fun j => fl2_at]]
theorem pl2_ne {σ : hp_S} {r a b n x : Nat} (h : x ≠ r) : (pl2 σ r a b n).1 x = σ.1 x := by
  unfold pl2 fl2
  rw [hp_2_ne h, hp_2_ne h, hp_2_ne h]
theorem pl2_fr {A : List Nat} {F : List (Nat × Nat)} {σ : hp_S} {r a b n : Nat} (h : r ∈ A) : fr A F σ (pl2 σ r a b n) := ((fl2_fr h).tr (fl2_fr h)).tr (fl2_fr h)
theorem pl2_back {A : List Nat} {F : List (Nat × Nat)} {σ τ : hp_S} {r a b n : Nat} (hd : d3 a b n) (hr : r ∉ A) (h : fr A F (pl2 σ r a b n) τ) : fr A F σ (pl2 τ r a b n) := by
  refine ⟨fun x hx => ?_, fun x k hx => h.2 x k hx⟩
  by_cases e : x = r
  · subst e
    refine ⟨funext fun k => ?_, (h.1 x hx).2⟩
    rw [pl2_at]
    have e1 : τ.1 x = pl (σ.1 x) a b n := by
      rw [(h.1 x hx).1]
      funext j
      exact pl2_at j
    rw [e1, pl_pl hd]
  · have h2 := h.1 x hx
    exact ⟨by rw [pl2_ne e, h2.1, pl2_ne e], h2.2⟩
section GO
variable {cs : Nat × Nat} {N s n d : Nat} {f : Nat → Int32}
theorem c_pull {σ : hp_S} {a b : Nat} (hs : s < 8) (h : d3 a b n) (e : σ.2.2.1 (2 + 2 * s) 1 = nI n) : f13 N (2 + 2 * s) (nI (32 * a + b)) (hp σ, cs) = some (.inl none, (hp (pl2 σ (3 + 2 * s) a b n), cs)) := by
  obtain ⟨q1, q2, q3, q4, q5, q6⟩ := h
  unfold f13
  rw [(lf_rem32 q1 q2).1, (lf_rem32 q1 q2).2, sN_o hs, c_flip2 hs q1 q2 q4, lf_cv_r, sN_1 hs]
  rw [show (fl2 σ (3 + 2 * s) a b).2.2.1 (2 + 2 * s) 1 = nI n from e, sN_o hs, c_flip2 hs q1 q3 q5, lf_cv_r, sN_1 hs]
  rw [show (fl2 (fl2 σ (3 + 2 * s) a b) (3 + 2 * s) a n).2.2.1 (2 + 2 * s) 1 = nI n from e, sN_o hs, c_flip2 hs q2 q3 q6, lf_cv_r]
  rfl
theorem shl_2 (hn : n ≤ 23) : lf_shl 2 (nI n) - 1 = al (n + 1) := by
  unfold al
  congr 1
  apply b_ext
  intro i hi
  rw [one_bit (by omega) hi]
  unfold lf_shl
  rw [b_shl n (by omega) 2 hi]
  have b2 : ∀ j, j < 32 → bt 2 j = decide (j = 1) := by decide +kernel
  by_cases c : n ≤ i
  · rw [decide_eq_true c, Bool.true_and, b2 _ (by omega)]
    by_cases d : i = n + 1
    · rw [decide_eq_true d, decide_eq_true (by omega)]
    · rw [decide_eq_false d, decide_eq_false (by omega)]
  · rw [decide_eq_false c, Bool.false_and, decide_eq_false (by omega)]
abbrev gq : Type := Nat × Option (Nat × Nat)
def fG (M : Nat) (f : Nat → Int32) (n : Nat) (L : List (Nat × Nat)) (i j : Nat) : Nat → Int32 := if M = 1 then pl f (lp L i).1 (lp L i).2 n else pl (pl f (lp L i).1 (lp L i).2 n) (lp L j).1 (lp L j).2 n
def apt (p q : Nat × Nat) : Bool := decide (p.1 ≠ q.1) && decide (p.1 ≠ q.2) && decide (p.2 ≠ q.1) && decide (p.2 ≠ q.2)
def okG (M : Nat) (L : List (Nat × Nat)) (i j : Nat) : Bool := decide (M = 1) || apt (lp L i) (lp L j)
def tG (M : Nat) (f : Nat → Int32) (n : Nat) (L : List (Nat × Nat)) (i j : Nat) (q : gq) : gq := if okG M L i j = true then (if gPr (fG M f n L i j) (al (n + 1)) < q.1 then (gPr (fG M f n L i j) (al (n + 1)), some (i, j)) else q) else q
def gJx (M : Nat) (f : Nat → Int32) (n : Nat) (L : List (Nat × Nat)) (i : Nat) : Nat → Nat → gq → gq
  | 0, _, q => q
  | m + 1, j, q => gJx M f n L i m (j + 1) (tG M f n L i j q)
def gIx (M : Nat) (f : Nat → Int32) (n : Nat) (L : List (Nat × Nat)) : Nat → Nat → gq → gq
  | 0, _, q => q
  | m + 1, i, q => gIx M f n L m (i + 1) (if M = 1 then tG M f n L i i q else gJx M f n L i (L.length - (i + 1)) (i + 1) q)
def qG (M : Nat) (f : Nat → Int32) (n : Nat) (L : List (Nat × Nat)) (q : gq) : Prop := (q.2 = none ∧ q.1 = 1000001) ∨ ∃ i j, q.2 = some (i, j) ∧ i < L.length ∧ j < L.length ∧ okG M L i j = true ∧ q.1 = gPr (fG M f n L i j) (al (n + 1))
theorem qG.le {M : Nat} {L : List (Nat × Nat)} {q : gq} (h : qG M f n L q) : q.1 ≤ 1000001 := by
  rcases h with h | ⟨i, j, -, -, -, -, h⟩
  · omega
  · have := gPr_max (f := fG M f n L i j) (A := al (n + 1))
    omega
theorem tG_ok {M i j : Nat} {L : List (Nat × Nat)} {q : gq} (h : qG M f n L q) (hi : i < L.length) (hj : j < L.length) : qG M f n L (tG M f n L i j q) := by
  unfold tG
  by_cases c : okG M L i j = true
  · rw [if_pos c]
    by_cases g : gPr (fG M f n L i j) (al (n + 1)) < q.1
    · rw [if_pos g]
      exact Or.inr ⟨i, j, rfl, hi, hj, c, rfl⟩
    · rw [if_neg g]; exact h
  · rw [if_neg c]; exact h
def cod (L : List (Nat × Nat)) (i : Nat) : Int32 := nI (32 * (lp L i).1 + (lp L i).2)
def CG (σ : hp_S) (L : List (Nat × Nat)) (M : Nat) (q : gq) : Prop := σ.2.2.1 42 2 = nI q.1 ∧ (q.2 = none → σ.2.2.1 42 3 = -1) ∧ ∀ i j, q.2 = some (i, j) → σ.2.2.1 42 3 = cod L i ∧ σ.2.2.1 42 4 = if M = 1 then -1 else cod L j
theorem CG.fr {σ τ : hp_S} {A : List Nat} {F : List (Nat × Nat)} {L : List (Nat × Nat)} {M : Nat} {q : gq} (h : CG σ L M q) (k : fr A F σ τ) (h2 : (42, 2) ∉ F) (h3 : (42, 3) ∉ F) (h4 : (42, 4) ∉ F) : CG τ L M q := ⟨by rw [k.f h2]; exact h.1, fun e => by rw [k.f h3]; exact h.2.1 e, fun i j e => by rw [k.f h3, k.f h4]; exact h.2.2 i j e⟩
/-- two lines of a net, and the new knot -/
theorem ln_d3 (hg : GW n d f) (hn : n ≤ 23) {i : Nat} (hi : i < (lq f n 0 n).length) : d3 (lp (lq f n 0 n) i).1 (lp (lq f n 0 n) i).2 n ∧ (lp (lq f n 0 n) i).1 < n ∧ (lp (lq f n 0 n) i).2 < n ∧ bt (f (lp (lq f n 0 n) i).1) (lp (lq f n 0 n) i).2 = true ∧ bt (f (lp (lq f n 0 n) i).2) (lp (lq f n 0 n) i).1 = true := by
  have e1 : (lq f n 0 n)[i]? = some ((lp (lq f n 0 n) i).1, (lp (lq f n 0 n) i).2) := lp_get hi
  obtain ⟨u1, u2, u3, u4, u5⟩ := lq_get hg.2.1 e1
  exact ⟨⟨u3, u4, by omega, by omega, by omega, by omega⟩, by omega, u2, u5, (hg.2.2.2.2.1 _ u3 _ u5).2.2.2⟩
theorem no_n (hg : GW n d f) {a : Nat} (ha : a < 24) : bt (f a) n = false := by
  cases e : bt (f a) n with
  | false => rfl
  | true =>
    have := (hg.2.2.2.2.1 a ha n e).2.1
    omega
theorem no_n' (hg : GW n d f) (hn : n ≤ 23) (a : Nat) : bt (f n) a = false := by
  cases e : bt (f n) a with
  | false => rfl
  | true =>
    have := (hg.2.2.2.2.1 n (by omega) a e).1
    omega
/-- judgePull -/
theorem c_judge {σ : hp_S} {g : Nat → Int32} {L : List (Nat × Nat)} {M i j : Nat} {q : gq} {y : Int32} (hs : s < 8) (hn : n ≤ 23) (hN : iv_N N) (e : σ.2.2.1 (2 + 2 * s) 1 = nI n) (ef : ∀ k, k < 24 → σ.1 (3 + 2 * s) k = g k) (hsw : σ.2.2.2 29 0 = σ.2.2.2 29 1) (hq : q.1 ≤ 1000001) (hc : CG σ L M q) (hy : y = if M = 1 then -1 else cod L j) : ∃ τ, fr [30, 31] F29 σ τ ∧ τ.2.2.2 29 0 = τ.2.2.2 29 1 ∧ CG τ L M (if gPr g (al (n + 1)) < q.1 then (gPr g (al (n + 1)), some (i, j)) else q) ∧ f14 N 42 (2 + 2 * s) (cod L i) y (hp σ, cs) = some (.inl none, (hp τ, cs)) := by
  obtain ⟨τ, p, t1, t2, t3, t4, t5, t6⟩ := c_priceS (σ := σ) (cs := cs) (N := N) (n := n + 1) (L := q.1) hs (by omega) (by omega) hN (by omega) ef hsw
  have w1 : fr [30, 31] F29 σ τ := t1.wk (fun _ z => z) (fun q h => by
    unfold F29
    simp only [List.mem_cons, List.not_mem_nil, or_false] at h ⊢
    rcases h with h | h | h | h <;> simp [h])
  have pre : f14 N 42 (2 + 2 * s) (cod L i) y (hp σ, cs) = if nI q.1 ≤ nI p then (some (.inl none, (hp τ, cs))) else (some (.inl none, (hp (hp_wf (hp_wf (hp_wf τ 42 2 (nI p)) 42 3 (cod L i)) 42 4 y), cs))) := by
    unfold f14
    rw [r42_0, sN_r hs, sN_1 hs, e, i42_2, hc.1, o29, shl_2 hn, t6, lf_ci_r, i42_2, t1.f (by decide), hc.1, w42_2, w42_3, w42_4]
  rw [pre]
  by_cases c : gPr g (al (n + 1)) < q.1
  · have hp := (t3 c).1
    rw [if_neg (nI_ge (by rw [hp]; exact c) (by omega)), if_pos c]
    refine ⟨_, w1.tr (((fr.wf (by decide)).tr (fr.wf (by decide))).tr (fr.wf (by decide))), t2, ⟨?_, fun z => absurd z (by simp), fun i' j' z => ?_⟩, rfl⟩
    · rw [hp_wf_ne (by decide), hp_wf_ne (by decide), hp_wf_at, hp]
    · cases z
      rw [hp_wf_ne (by decide), hp_wf_at, hp_wf_at]
      exact ⟨rfl, hy⟩
  · rw [if_pos (nI_le (t4 (by omega)) (by omega)), if_neg c]
    exact ⟨τ, w1, t2, hc.fr t1 (by decide) (by decide) (by decide), rfl⟩
/-- masks of two lines -/
theorem apt_mask {a b c d : Nat} (ha : a < 24) (hb : b < 24) (hc : c < 24) (hd : d < 24) : ((lf_shl 1 (nI c) ||| lf_shl 1 (nI d)) &&& (lf_shl 1 (nI a) ||| lf_shl 1 (nI b)) = 0) ↔ apt (a, b) (c, d) = true := by
  unfold apt
  simp only [Bool.and_eq_true, decide_eq_true_iff]
  rw [b_nothing]
  constructor
  · intro h
    have k : ∀ i, ¬ ((i = c ∨ i = d) ∧ (i = a ∨ i = b)) := fun i q => h i (by
      rw [b_and_iff, b_or_iff, b_or_iff, b_one (by omega), b_one (by omega), b_one (by omega), b_one (by omega)]
      exact q)
    refine ⟨⟨⟨?_, ?_⟩, ?_⟩, ?_⟩
    · intro q; exact k a ⟨Or.inl q, Or.inl rfl⟩
    · intro q; exact k a ⟨Or.inr q, Or.inl rfl⟩
    · intro q; exact k b ⟨Or.inl q, Or.inr rfl⟩
    · intro q; exact k b ⟨Or.inr q, Or.inr rfl⟩
  · rintro ⟨⟨⟨h1, h2⟩, h3⟩, h4⟩ i q
    rw [b_and_iff, b_or_iff, b_or_iff, b_one (by omega), b_one (by omega), b_one (by omega), b_one (by omega)] at q
    omega
end GO
