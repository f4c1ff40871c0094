/-! seek: the search in itself -/
section SK
variable {h : Nat → Int32}
/-- a spread from edge e, reached r: how far, the sum, all that is reached -/
def jq (h : Nat → Int32) : Nat → Nat → Int32 → Int32 → Nat → Nat → Nat × Nat × Int32
  | 0, _, _, r, fa, su => (fa, su, r)
  | k + 1, d, e, r, fa, su => if e = 0 then (fa, su, r) else jq h k (d + 1) (us h e &&& (r ^^^ (-1))) (r ||| (us h e &&& (r ^^^ (-1)))) (if us h e &&& (r ^^^ (-1)) = 0 then fa else d + 1) (su + (d + 1) * i_pc (us h e &&& (r ^^^ (-1))))
theorem jq_s {k d : Nat} {e r : Int32} {fa su : Nat} : jq h (k + 1) d e r fa su = if e = 0 then (fa, su, r) else jq h k (d + 1) (us h e &&& (r ^^^ (-1))) (r ||| (us h e &&& (r ^^^ (-1)))) (if us h e &&& (r ^^^ (-1)) = 0 then fa else d + 1) (su + (d + 1) * i_pc (us h e &&& (r ^^^ (-1)))) := rfl
theorem i_pc_dis {x y : Int32} (hd : ∀ i, bt x i = true → ¬ bt y i = true) : i_pc (x ||| y) = i_pc x + i_pc y := by
  rw [i_pc_sm, i_pc_sm, i_pc_sm, ← sm_add]
  refine sm_congr (fun k _ => ?_)
  by_cases c : bt x k = true
  · rw [if_pos (b_or_iff.mpr (Or.inl c)), if_pos c, if_neg (hd k c)]
  · by_cases d : bt y k = true
    · rw [if_pos (b_or_iff.mpr (Or.inr d)), if_neg c, if_pos d]
    · rw [if_neg (fun z => (b_or_iff.mp z).elim c d), if_neg c, if_neg d]
theorem dis_new {r x : Int32} : ∀ i, bt r i = true → ¬ bt (x &&& (r ^^^ (-1))) i = true := fun i hi z => (b_andn.mp z).2 hi
theorem i_pc_new {r x : Int32} : i_pc (r ||| (x &&& (r ^^^ (-1)))) = i_pc r + i_pc (x &&& (r ^^^ (-1))) := i_pc_dis dis_new
theorem i_pc_p {x : Int32} (hx : ¬ x = 0) : 1 ≤ i_pc x := by
  obtain ⟨a, ha⟩ : ∃ a, bt x a = true := Classical.byContradiction fun z => hx (b_nothing.mpr (fun i hi => z ⟨i, hi⟩))
  have := i_pc_lt (x := 0) (y := x) (fun i hi => by rw [b_0] at hi; cases hi) (b_0 a) ha
  omega
/-- what comes later is at least so far -/
theorem jq_lo : ∀ (k d : Nat) (e r : Int32) (fa su : Nat), fa ≤ d → i_pc r ≤ i_pc (jq h k d e r fa su).2.2 ∧ fa ≤ (jq h k d e r fa su).1 ∧ su + (d + 1) * (i_pc (jq h k d e r fa su).2.2 - i_pc r) ≤ (jq h k d e r fa su).2.1 ∧ ((jq h k d e r fa su).1 ≤ d + 1 → (jq h k d e r fa su).2.1 = su + (d + 1) * (i_pc (jq h k d e r fa su).2.2 - i_pc r)) ∧ (i_pc (jq h k d e r fa su).2.2 = i_pc r → (jq h k d e r fa su).1 = fa) ∧ ((jq h k d e r fa su).1 ≤ d → i_pc (jq h k d e r fa su).2.2 = i_pc r)
  | 0, d, e, r, fa, su, _ => by
    have e1 : jq h 0 d e r fa su = (fa, su, r) := rfl
    rw [e1]
    refine ⟨Nat.le_refl _, Nat.le_refl _, ?_, fun _ => ?_, fun _ => rfl, fun _ => rfl⟩
    · show su + (d + 1) * (i_pc r - i_pc r) ≤ su
      rw [Nat.sub_self, Nat.mul_zero]
      exact Nat.le_refl _
    · show su = su + (d + 1) * (i_pc r - i_pc r)
      rw [Nat.sub_self, Nat.mul_zero, Nat.add_zero]
  | k + 1, d, e, r, fa, su, hfa => by
    have e1 : jq h (k + 1) d e r fa su = if e = 0 then (fa, su, r) else jq h k (d + 1) (us h e &&& (r ^^^ (-1))) (r ||| (us h e &&& (r ^^^ (-1)))) (if us h e &&& (r ^^^ (-1)) = 0 then fa else d + 1) (su + (d + 1) * i_pc (us h e &&& (r ^^^ (-1)))) := rfl
    rw [e1]
    by_cases c : e = 0
    · rw [if_pos c]
      refine ⟨Nat.le_refl _, Nat.le_refl _, ?_, fun _ => ?_, fun _ => rfl, fun _ => rfl⟩
      · show su + (d + 1) * (i_pc r - i_pc r) ≤ su
        rw [Nat.sub_self, Nat.mul_zero]
        exact Nat.le_refl _
      · show su = su + (d + 1) * (i_pc r - i_pc r)
        rw [Nat.sub_self, Nat.mul_zero, Nat.add_zero]
    · rw [if_neg c]
      generalize hE : us h e &&& (r ^^^ (-1)) = E
      have hpn : i_pc (r ||| E) = i_pc r + i_pc E := by rw [← hE]; exact i_pc_new
      have hfa2 : (if E = 0 then fa else d + 1) ≤ d + 1 := by split <;> omega
      obtain ⟨a1, a2, a3, a4, a5, a6⟩ := jq_lo k (d + 1) E (r ||| E) (if E = 0 then fa else d + 1) (su + (d + 1) * i_pc E) hfa2
      generalize jq h k (d + 1) E (r ||| E) (if E = 0 then fa else d + 1) (su + (d + 1) * i_pc E) = q at a1 a2 a3 a4 a5 a6
      rw [hpn] at a1 a3 a4 a5 a6
      obtain ⟨t, ht⟩ : ∃ t, i_pc q.2.2 = i_pc r + i_pc E + t := ⟨i_pc q.2.2 - (i_pc r + i_pc E), by omega⟩
      have es1 : i_pc q.2.2 - (i_pc r + i_pc E) = t := by omega
      have es2 : i_pc q.2.2 - i_pc r = i_pc E + t := by omega
      rw [es1] at a3 a4
      rw [es2]
      have ml : (d + 1) * (i_pc E + t) = (d + 1) * i_pc E + (d + 1) * t := Nat.mul_add _ _ _
      have ml2 : (d + 1 + 1) * t = (d + 1) * t + t := by rw [Nat.add_mul, Nat.one_mul]
      have hfa3 : fa ≤ (if E = 0 then fa else d + 1) := by split <;> omega
      refine ⟨by omega, by omega, by omega, fun hq => ?_, fun hq => ?_, fun hq => ?_⟩
      · have := a6 hq
        have ht0 : t = 0 := by omega
        subst ht0
        have := a4 (by omega)
        omega
      · have hE0 : i_pc E = 0 := by omega
        have hEz : E = 0 := Classical.byContradiction fun z => by have := i_pc_p z; omega
        rw [a5 (by omega), if_pos hEz]
      · have := a6 (by omega)
        by_cases hEz : E = 0
        · rw [hEz, i_pc_0] at this
          omega
        · rw [if_neg hEz] at a2
          omega
/-- one thing, and the others by moves -/
def gh (K a b : Nat) (M : Int32) (x : Nat) : Int32 := us (fun m => lf_shl 1 (nI (gop K a b x m))) M
def good (n : Nat) (M : Int32) : Prop := ∀ i, bt M i = true → 1 ≤ i ∧ i < n
def jv (K a b : Nat) (M : Int32) : Nat × Nat × Int32 := jq (gh K a b M) 24 0 1 1 0 0
theorem b_i1 {i : Nat} : bt 1 i = true ↔ i = 0 := b_one (v := 0) (by omega)
theorem gop_0 {K a b m : Nat} (hk : gok K a b) (hm : m < a * b) : gop K a b 0 m = m := by
  obtain ⟨h1, h2, h3, h4⟩ := hk
  unfold gop
  rw [if_neg (by omega), Nat.zero_mod, Nat.zero_add, Nat.zero_div, Nat.zero_add, Nat.mod_mod]
  rw [Nat.mod_eq_of_lt (a := m / a) (Nat.div_lt_of_lt_mul hm)]
  exact Nat.mod_add_div m a
theorem gh_bt {K a b x i : Nat} {M : Int32} (hk : gok K a b) (hx : x < a * b) (hM : good (a * b) M) : bt (gh K a b M x) i = true ↔ ∃ m, bt M m = true ∧ i = gop K a b x m := by
  unfold gh
  rw [us_bt]
  constructor
  · rintro ⟨m, m1, m2⟩
    have := (g_op hk hx (hM m m1).2).1
    exact ⟨m, m1, (b_one (by have := hk.2.2.1; omega)).mp m2⟩
  · rintro ⟨m, m1, m2⟩
    have := (g_op hk hx (hM m m1).2).1
    exact ⟨m, m1, (b_one (by have := hk.2.2.1; omega)).mpr m2⟩
theorem gh_0 {K a b : Nat} {M : Int32} (hk : gok K a b) (hM : good (a * b) M) : gh K a b M 0 = M := by
  have hp0 : 0 < a * b := Nat.mul_pos hk.1 hk.2.1
  refine b_eq (fun i => ?_)
  rw [gh_bt hk hp0 hM]
  constructor
  · rintro ⟨m, m1, m2⟩
    rw [m2, gop_0 hk (hM m m1).2]
    exact m1
  · intro hi
    exact ⟨i, hi, (gop_0 hk (hM i hi).2).symm⟩
/-- far and sum of moves that reach all -/
theorem jv_all {K a b : Nat} {M : Int32} (hk : gok K a b) (hM : good (a * b) M) (hR : i_pc (jv K a b M).2.2 = a * b) : 1 + i_pc M ≤ a * b ∧ i_pc M + 2 * (a * b - 1 - i_pc M) ≤ (jv K a b M).2.1 ∧ ((jv K a b M).1 ≤ 2 → (jv K a b M).2.1 = i_pc M + 2 * (a * b - 1 - i_pc M)) ∧ (a * b = 1 + i_pc M → (jv K a b M).1 ≤ 1) ∧ ((jv K a b M).1 ≤ 1 → a * b = 1 + i_pc M) := by
  have hu : us (gh K a b M) 1 = M := by
    refine b_eq (fun i => ?_)
    rw [us_bt]
    constructor
    · rintro ⟨j, j1, j2⟩
      rw [b_i1] at j1
      subst j1
      rw [gh_0 hk hM] at j2
      exact j2
    · intro hi
      exact ⟨0, b_i1.mpr rfl, by rw [gh_0 hk hM]; exact hi⟩
  have hE : M &&& ((1 : Int32) ^^^ (-1)) = M := by
    refine b_eq (fun i => ?_)
    rw [b_andn, b_i1]
    exact ⟨fun z => z.1, fun z => ⟨z, fun y => by have := (hM i z).1; omega⟩⟩
  have e1 : jv K a b M = jq (gh K a b M) 23 1 M (1 ||| M) (if M = 0 then 0 else 1) (i_pc M) := by
    unfold jv
    rw [show (24 : Nat) = 23 + 1 from rfl, jq_s, if_neg (by decide), hu, hE, Nat.zero_add, Nat.one_mul, Nat.zero_add]
  have hp1 : i_pc ((1 : Int32) ||| M) = 1 + i_pc M := by
    rw [i_pc_dis (fun i hi z => by rw [b_i1] at hi; have := (hM i z).1; omega)]
    congr 1
  have hfa : (if M = 0 then 0 else 1) ≤ 1 := by split <;> omega
  obtain ⟨a1, a2, a3, a4, a5, a6⟩ := jq_lo (h := gh K a b M) 23 1 M (1 ||| M) (if M = 0 then 0 else 1) (i_pc M) hfa
  rw [← e1] at a1 a2 a3 a4 a5 a6
  rw [hp1, hR] at a1 a3 a4 a5 a6
  have es : a * b - (1 + i_pc M) = a * b - 1 - i_pc M := by omega
  rw [es] at a3 a4
  refine ⟨a1, a3, a4, fun z => ?_, fun z => a6 z⟩
  rw [a5 z]
  exact hfa
/-- M is better than B -/
def bet (K a b : Nat) (M B : Int32) : Prop := (jv K a b M).1 < (jv K a b B).1 ∨ ((jv K a b M).1 = (jv K a b B).1 ∧ ((jv K a b M).2.1 < (jv K a b B).2.1 ∨ ((jv K a b M).2.1 = (jv K a b B).2.1 ∧ (i_pc M < i_pc B ∨ (i_pc M = i_pc B ∧ M < B)))))
noncomputable def jd (K a b : Nat) (M B : Int32) : Int32 := @ite Int32 ((jv K a b M).2.2 = al (a * b) ∧ (B = -1 ∨ bet K a b M B)) (Classical.propDecidable _) M B
theorem jd_y {K a b : Nat} {M B : Int32} (h : (jv K a b M).2.2 = al (a * b) ∧ (B = -1 ∨ bet K a b M B)) : jd K a b M B = M := by
  unfold jd
  exact if_pos h
theorem jd_n {K a b : Nat} {M B : Int32} (h : ¬ ((jv K a b M).2.2 = al (a * b) ∧ (B = -1 ∨ bet K a b M B))) : jd K a b M B = B := by
  unfold jd
  exact if_neg h
/-- the search: sets of units in their order -/
def sg (j : Int32 → Int32 → Int32) (deg : Nat) : List Int32 → Int32 → Int32 → Int32
  | [], _, B => B
  | u :: us, m, B => sg j deg us m (if i_pc (m ||| u) ≤ deg then sg j deg us (m ||| u) (j (m ||| u) B) else B)
/-- the same, where some are passed over -/
noncomputable def sgc (j : Int32 → Int32 → Int32) (pr : Int32 → Int32 → Prop) (deg : Nat) : List Int32 → Int32 → Int32 → Int32
  | [], _, B => B
  | u :: us, m, B => sgc j pr deg us m (if i_pc (m ||| u) ≤ deg then (@ite Int32 (pr (m ||| u) B) (Classical.propDecidable _) B (sgc j pr deg us (m ||| u) (j (m ||| u) B))) else B)
theorem sgc_0 {j : Int32 → Int32 → Int32} {pr : Int32 → Int32 → Prop} {deg : Nat} {u m B : Int32} {us : List Int32} (h : ¬ i_pc (m ||| u) ≤ deg) : sgc j pr deg (u :: us) m B = sgc j pr deg us m B := by
  rw [sgc, if_neg h]
theorem sgc_1 {j : Int32 → Int32 → Int32} {pr : Int32 → Int32 → Prop} {deg : Nat} {u m B : Int32} {us : List Int32} (h : i_pc (m ||| u) ≤ deg) (hp' : pr (m ||| u) B) : sgc j pr deg (u :: us) m B = sgc j pr deg us m B := by
  rw [sgc, if_pos h, if_pos hp']
theorem sgc_2 {j : Int32 → Int32 → Int32} {pr : Int32 → Int32 → Prop} {deg : Nat} {u m B : Int32} {us : List Int32} (h : i_pc (m ||| u) ≤ deg) (hp' : ¬ pr (m ||| u) B) : sgc j pr deg (u :: us) m B = sgc j pr deg us m (sgc j pr deg us (m ||| u) (j (m ||| u) B)) := by
  rw [sgc, if_pos h, if_neg hp']
/-- nothing is better any more -/
def prn (K a b deg : Nat) (m B : Int32) : Prop := B < m ∧ ¬ B = -1 ∧ (jv K a b B).1 = 2 ∧ i_pc B = deg
def okB (K a b : Nat) (B : Int32) : Prop := B = -1 ∨ (good (a * b) B ∧ (jv K a b B).2.2 = al (a * b))
theorem jd_ok {K a b : Nat} {M B : Int32} (hM : good (a * b) M) (hB : okB K a b B) : okB K a b (jd K a b M B) := by
  by_cases c : (jv K a b M).2.2 = al (a * b) ∧ (B = -1 ∨ bet K a b M B)
  · rw [jd_y c]
    exact Or.inr ⟨hM, c.1⟩
  · rw [jd_n c]
    exact hB
theorem al_pc {n : Nat} (hn : n ≤ 24) : i_pc (al n) = n := by
  have := bl_len (al n)
  rw [bl_n (n := n) (by omega) (fun i hi => (al_in hn).mp hi), filt_sm, sm_congr (G := fun _ => 1) (fun k hk => by rw [if_pos ⟨Nat.zero_le _, (al_in hn).mpr (by omega)⟩]), sm_one] at this
  omega
theorem jd_prn {K a b deg : Nat} {m M B : Int32} (hk : gok K a b) (hB : okB K a b B) (hp' : prn K a b deg m B) (hm : m ≤ M) (hM : good (a * b) M) (hd : i_pc M ≤ deg) : jd K a b M B = B := by
  obtain ⟨p1, p2, p3, p4⟩ := hp'
  obtain ⟨hB1, hB2⟩ := hB.resolve_left p2
  have hn := hk.2.2.1
  apply jd_n
  rintro ⟨c1, c2⟩
  have c2 := c2.resolve_left p2
  have hR1 : i_pc (jv K a b M).2.2 = a * b := by rw [c1, al_pc hn]
  have hR2 : i_pc (jv K a b B).2.2 = a * b := by rw [hB2, al_pc hn]
  obtain ⟨m1, m2, m3, m4, m5⟩ := jv_all hk hM hR1
  obtain ⟨b1, b2, b3, b4, b5⟩ := jv_all hk hB1 hR2
  have hs := b3 (by omega)
  have hne : ¬ a * b = 1 + i_pc B := fun z => by have := b4 z; omega
  have hMB : B < M := fa_trans p1 hm
  have hf : ¬ (jv K a b M).1 ≤ 1 := fun z => by have := m5 z; omega
  rcases c2 with c | ⟨c, c2⟩
  · omega
  · have hs2 := m3 (by omega)
    rcases c2 with c2 | ⟨c2, c3⟩
    · omega
    · rcases c3 with c3 | ⟨c3, c4⟩
      · omega
      · exact absurd hMB (fa_of_lt c4).2.2.1
theorem or_le {n : Nat} {x y : Int32} (hn : n ≤ 24) (hx : good n x) (hy : good n y) : x ≤ x ||| y := by
  obtain ⟨p, hp', ep⟩ := wb_of32 x
  obtain ⟨q, hq, eq⟩ := wb_of32 y
  have bd : ∀ (z : Int32) (m : Nat), good n z → m < 2 ^ 32 → z = nI m → m < 2 ^ 24 := by
    intro z m hz hm e
    apply Nat.lt_pow_two_of_testBit
    intro i hi
    cases hb : m.testBit i with
    | false => rfl
    | true =>
      rw [← bt_nI hm, ← e] at hb
      have := (hz i hb).2
      omega
  have hp2 := bd x p hx hp' ep
  have hq2 := bd y q hy hq eq
  have ho : p ||| q < 2 ^ 24 := Nat.or_lt_two_pow hp2 hq2
  rw [ep, eq, fa_or]
  exact nI_le (Nat.left_le_or) (by omega)
theorem good_or {n : Nat} {x y : Int32} (hx : good n x) (hy : good n y) : good n (x ||| y) := fun i hi => by
  rcases b_or_iff.mp hi with z | z
  · exact hx i z
  · exact hy i z
theorem sg_prn {K a b deg : Nat} {m0 B : Int32} (hk : gok K a b) (hB : okB K a b B) (hp' : prn K a b deg m0 B) : ∀ (us : List Int32) (m : Int32), (∀ u, u ∈ us → good (a * b) u) → good (a * b) m → m0 ≤ m → sg (jd K a b) deg us m B = B
  | [], _, _, _, _ => rfl
  | u :: us, m, hu, hm, h0 => by
    have hu2 : ∀ u, u ∈ us → good (a * b) u := fun u h => hu u (List.mem_cons_of_mem _ h)
    have hg := good_or hm (hu u List.mem_cons_self)
    have hle : m0 ≤ m ||| u := by
      have := or_le hk.2.2.1 hm (hu u List.mem_cons_self)
      rw [fa_le] at *
      omega
    show sg (jd K a b) deg us m (if i_pc (m ||| u) ≤ deg then sg (jd K a b) deg us (m ||| u) (jd K a b (m ||| u) B) else B) = B
    by_cases c : i_pc (m ||| u) ≤ deg
    · rw [if_pos c, jd_prn hk hB hp' hle hg c, sg_prn hk hB hp' us (m ||| u) hu2 hg hle]
      exact sg_prn hk hB hp' us m hu2 hm h0
    · rw [if_neg c]
      exact sg_prn hk hB hp' us m hu2 hm h0
theorem sg_ok {K a b deg : Nat} : ∀ (us : List Int32) (m B : Int32), (∀ u, u ∈ us → good (a * b) u) → good (a * b) m → okB K a b B → okB K a b (sg (jd K a b) deg us m B)
  | [], _, _, _, _, h => h
  | u :: us, m, B, hu, hm, h => by
    have hu2 : ∀ u, u ∈ us → good (a * b) u := fun u h => hu u (List.mem_cons_of_mem _ h)
    have hg := good_or hm (hu u List.mem_cons_self)
    show okB K a b (sg (jd K a b) deg us m (if i_pc (m ||| u) ≤ deg then sg (jd K a b) deg us (m ||| u) (jd K a b (m ||| u) B) else B))
    refine sg_ok us m _ hu2 hm ?_
    by_cases c : i_pc (m ||| u) ≤ deg
    · rw [if_pos c]
      exact sg_ok us _ _ hu2 hg (jd_ok hg h)
    · rw [if_neg c]
      exact h
/-- what is passed over makes no difference -/
theorem sgc_sg {K a b deg : Nat} (hk : gok K a b) : ∀ (us : List Int32) (m B : Int32), (∀ u, u ∈ us → good (a * b) u) → good (a * b) m → okB K a b B → sgc (jd K a b) (prn K a b deg) deg us m B = sg (jd K a b) deg us m B
  | [], _, _, _, _, _ => rfl
  | u :: us, m, B, hu, hm, h => by
    have hu2 : ∀ u, u ∈ us → good (a * b) u := fun u h => hu u (List.mem_cons_of_mem _ h)
    have hg := good_or hm (hu u List.mem_cons_self)
    have es : sg (jd K a b) deg (u :: us) m B = sg (jd K a b) deg us m (if i_pc (m ||| u) ≤ deg then sg (jd K a b) deg us (m ||| u) (jd K a b (m ||| u) B) else B) := rfl
    rw [es]
    by_cases c : i_pc (m ||| u) ≤ deg
    · rw [if_pos c]
      by_cases d : prn K a b deg (m ||| u) B
      · have hle : m ||| u ≤ m ||| u := by rw [fa_le]; exact Int.le_refl _
        rw [sgc_1 c d, jd_prn hk h d hle hg c, sg_prn hk h d us (m ||| u) hu2 hg hle]
        exact sgc_sg hk us m B hu2 hm h
      · rw [sgc_2 c d, sgc_sg hk us (m ||| u) _ hu2 hg (jd_ok hg h)]
        exact sgc_sg hk us m _ hu2 hm (sg_ok us _ _ hu2 hg (jd_ok hg h))
    · rw [if_neg c, sgc_0 c]
      exact sgc_sg hk us m B hu2 hm h
/-- units: a thing and its opposite -/
def uS2 (K a b s : Nat) : Int32 := lf_shl 1 (nI s) ||| lf_shl 1 (nI (ginv K a b s))
def uLs (K a b : Nat) : Nat → List Nat := fun m => (List.range' 1 m).filter (fun s => decide (s ≤ ginv K a b s))
def uLst (K a b m : Nat) : List Int32 := (uLs K a b m).map (uS2 K a b)
def gch2 (K a b : Nat) : Bool := (List.range (a * b)).all fun m => decide (ginv K a b (ginv K a b m) = m) && (decide (m = 0) || decide (ginv K a b m ≠ 0))
def gal2 : Bool := (List.range 2).all fun K => (List.range 25).all fun a => (List.range 25).all fun b => !(decide (1 ≤ a) && decide (1 ≤ b) && decide (a * b ≤ 24) && (decide (K = 0) || decide (b = 2))) || gch2 K a b
theorem gal2_t : gal2 = true := by decide +kernel
theorem g_inv2 {K a b m : Nat} (h : gok K a b) (hm : m < a * b) : ginv K a b (ginv K a b m) = m ∧ (m ≠ 0 → ginv K a b m ≠ 0) := by
  obtain ⟨h1, h2, h3, h4⟩ := h
  have ha : a < 25 := by
    have : a * 1 ≤ a * b := Nat.mul_le_mul_left a h2
    omega
  have hb : b < 25 := by
    have : 1 * b ≤ a * b := Nat.mul_le_mul_right b h1
    omega
  have h := gal2_t
  unfold gal2 at h
  rw [List.all_eq_true] at h
  have h5 := h K (List.mem_range.mpr (by omega))
  rw [List.all_eq_true] at h5
  have h6 := h5 a (List.mem_range.mpr ha)
  rw [List.all_eq_true] at h6
  have h7 := h6 b (List.mem_range.mpr hb)
  rw [decide_eq_true h1, decide_eq_true h2, decide_eq_true h3, show (decide (K = 0) || decide (b = 2)) = true by rcases h4 with h4 | h4; rw [decide_eq_true h4]; rfl; rw [decide_eq_true h4.2, Bool.or_true]] at h7
  have h8 : gch2 K a b = true := by simpa using h7
  unfold gch2 at h8
  rw [List.all_eq_true] at h8
  have h9 := h8 m (List.mem_range.mpr hm)
  simp only [Bool.and_eq_true, Bool.or_eq_true, decide_eq_true_iff] at h9
  exact ⟨h9.1, fun z => h9.2.resolve_left z⟩
theorem uS2_bt {K a b s i : Nat} (h : gok K a b) (hs : s < a * b) : bt (uS2 K a b s) i = true ↔ i = s ∨ i = ginv K a b s := by
  have := h.2.2.1
  have := (g_inv h hs).1
  unfold uS2
  rw [b_or_iff, b_one (by omega), b_one (by omega)]
theorem uS2_good {K a b s : Nat} (h : gok K a b) (h1 : 1 ≤ s) (hs : s < a * b) : good (a * b) (uS2 K a b s) ∧ ¬ uS2 K a b s = 0 := by
  refine ⟨fun i hi => ?_, fun e => b_nothing.mp e s ((uS2_bt h hs).mpr (Or.inl rfl))⟩
  rcases (uS2_bt h hs).mp hi with z | z
  · omega
  · have g1 := (g_inv h hs).1
    have g2 := (g_inv2 h hs).2 (by omega)
    omega
theorem uS2_dis {K a b s t : Nat} (h : gok K a b) (hs : s < a * b) (ht : t < a * b) (h1 : s ≤ ginv K a b s) (h2 : t ≤ ginv K a b t) (hst : s ≠ t) : ∀ i, bt (uS2 K a b s) i = true → ¬ bt (uS2 K a b t) i = true := by
  intro i hi hj
  have s1 := (g_inv2 h hs).1
  have t1 := (g_inv2 h ht).1
  rcases (uS2_bt h hs).mp hi with z | z <;> rcases (uS2_bt h ht).mp hj with y | y
  · omega
  · have e : s = ginv K a b t := by omega
    rw [← e] at t1
    rw [t1] at h1
    omega
  · have e : t = ginv K a b s := by omega
    rw [← e] at s1
    rw [s1] at h2
    omega
  · have e : ginv K a b s = ginv K a b t := by omega
    rw [e, t1] at s1
    omega
theorem uLs_mem {K a b m s : Nat} : s ∈ uLs K a b m ↔ (1 ≤ s ∧ s < 1 + m) ∧ s ≤ ginv K a b s := by
  unfold uLs
  rw [List.mem_filter, List.mem_range'_1, decide_eq_true_iff]
theorem uLs_s {K a b m : Nat} : uLs K a b (m + 1) = if 1 + m ≤ ginv K a b (1 + m) then uLs K a b m ++ [1 + m] else uLs K a b m := by
  unfold uLs
  rw [List.range'_1_concat, List.filter_append]
  by_cases c : 1 + m ≤ ginv K a b (1 + m)
  · rw [if_pos c]
    simp [c]
  · rw [if_neg c]
    simp [c]
/-- the units: none is empty, none meets another -/
def disj (us : List Int32) : Prop := us.Pairwise (fun u v => ∀ i, bt u i = true → ¬ bt v i = true)
theorem uLst_ok {K a b : Nat} (h : gok K a b) : (∀ u, u ∈ uLst K a b (a * b - 1) → good (a * b) u ∧ ¬ u = 0) ∧ disj (uLst K a b (a * b - 1)) ∧ (uLst K a b (a * b - 1)).length ≤ 23 := by
  have hn := h.2.2.1
  have hp0 : 0 < a * b := Nat.mul_pos h.1 h.2.1
  refine ⟨fun u hu => ?_, ?_, ?_⟩
  · unfold uLst at hu
    obtain ⟨s, s1, s2⟩ := List.mem_map.mp hu
    have := uLs_mem.mp s1
    rw [← s2]
    exact uS2_good h this.1.1 (by omega)
  · unfold disj uLst
    rw [List.pairwise_map]
    have hnd : (uLs K a b (a * b - 1)).Nodup := List.Nodup.sublist List.filter_sublist List.nodup_range'
    refine List.Pairwise.imp_of_mem (fun {s t} hs ht hne => ?_) hnd
    have a1 := uLs_mem.mp hs
    have a2 := uLs_mem.mp ht
    exact uS2_dis h (by omega) (by omega) a1.2 a2.2 hne
  · unfold uLst uLs
    rw [List.length_map]
    have := List.length_filter_le (fun s => decide (s ≤ ginv K a b s)) (List.range' 1 (a * b - 1))
    rw [List.length_range'] at this
    omega
end SK
