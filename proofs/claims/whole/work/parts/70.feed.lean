/-! the tape -/
def tp_1 (a o k : Nat) (σ : hp_S) (t : Nat) (x : Int32) : hp_S := hp_wf (hp_wi σ a t x) o k (nI (t + 1))
def tp_app (a o k : Nat) : hp_S → Nat → List Int32 → hp_S
  | σ, _, [] => σ
  | σ, t, x :: l => tp_app a o k (tp_1 a o k σ t x) (t + 1) l
theorem tp_1_c {a o k t : Nat} {σ : hp_S} {x : Int32} : (tp_1 a o k σ t x).2.2.1 o k = nI (t + 1) := hp_wf_at
theorem tp_app_app {a o k : Nat} : ∀ (l l' : List Int32) (σ : hp_S) (t : Nat), tp_app a o k (tp_app a o k σ t l) (t + l.length) l' = tp_app a o k σ t (l ++ l')
  | [], _, _, _ => rfl
  | x :: l, l', σ, t => by
    have e := tp_app_app (a := a) (o := o) (k := k) l l' (tp_1 a o k σ t x) (t + 1)
    rw [show t + 1 + l.length = t + (x :: l).length by simp only [List.length_cons]; omega] at e
    exact e
theorem tp_app_n {a o k n : Nat} {l l' : List Int32} {σ : hp_S} {t : Nat} (hn : l.length = n) : tp_app a o k (tp_app a o k σ t l) (t + n) l' = tp_app a o k σ t (l ++ l') := by
  subst hn
  exact tp_app_app l l' σ t
theorem tp_app_f {a o k : Nat} : ∀ (l : List Int32) (σ : hp_S) (t : Nat), σ.2.2.1 o k = nI t → (tp_app a o k σ t l).2.2.1 o k = nI (t + l.length)
  | [], _, _, h => h
  | x :: l, σ, t, _ => by
    have e := tp_app_f (a := a) (o := o) (k := k) l (tp_1 a o k σ t x) (t + 1) hp_wf_at
    rw [show t + 1 + l.length = t + (x :: l).length by simp only [List.length_cons]; omega] at e
    exact e
theorem tp_app_fn {a o k b j : Nat} (h : ¬ (b = o ∧ j = k)) : ∀ (l : List Int32) (σ : hp_S) (t : Nat), (tp_app a o k σ t l).2.2.1 b j = σ.2.2.1 b j
  | [], _, _ => rfl
  | x :: l, σ, t => (tp_app_fn h l (tp_1 a o k σ t x) (t + 1)).trans (hp_wf_ne h)
theorem tp_app_g {a o k : Nat} : ∀ (l : List Int32) (σ : hp_S) (t : Nat), (tp_app a o k σ t l).2.2.2 = σ.2.2.2
  | [], _, _ => rfl
  | x :: l, σ, t => tp_app_g l (tp_1 a o k σ t x) (t + 1)
theorem tp_app_in {a o k b : Nat} (h : b ≠ a) : ∀ (l : List Int32) (σ : hp_S) (t : Nat), (tp_app a o k σ t l).1 b = σ.1 b
  | [], _, _ => rfl
  | x :: l, σ, t => (tp_app_in h l (tp_1 a o k σ t x) (t + 1)).trans (hp_wi_ne h)
theorem tp_app_lo {a o k j : Nat} : ∀ (l : List Int32) (σ : hp_S) (t : Nat), j < t → (tp_app a o k σ t l).1 a j = σ.1 a j
  | [], _, _, _ => rfl
  | x :: l, σ, t, h => (tp_app_lo l (tp_1 a o k σ t x) (t + 1) (by omega)).trans (hp_wi_nj (by omega))
theorem tp_app_at {a o k : Nat} : ∀ (l : List Int32) (σ : hp_S) (t j : Nat), j < l.length → some ((tp_app a o k σ t l).1 a (t + j)) = l[j]?
  | [], _, _, _, h => absurd h (Nat.not_lt_zero _)
  | x :: l, σ, t, 0, _ => by
    show some ((tp_app a o k (tp_1 a o k σ t x) (t + 1) l).1 a t) = some x
    rw [tp_app_lo l _ _ (by omega)]
    exact congrArg some hp_wi_at
  | x :: l, σ, t, j + 1, h => by
    have e := tp_app_at (a := a) (o := o) (k := k) l (tp_1 a o k σ t x) (t + 1) j (by simp only [List.length_cons] at h; omega)
    rw [show t + 1 + j = t + (j + 1) by omega] at e
    exact e
/-- four bytes of an int -/
def tp_by (v : Int32) : List Int32 := [lf_shr v 24 &&& 255, lf_shr v 16 &&& 255, lf_shr v 8 &&& 255, lf_shr v 0 &&& 255]
theorem tp_sh (v : Int32) (k : Nat) (hk : k + 8 ≤ 32) : lf_ushr v (nI k) &&& 255 = lf_shr v (nI k) &&& 255 := by
  apply b_ext
  intro i hi
  unfold lf_ushr lf_shr
  rw [b_and, b_and, b_255, b_ushr k (by omega), b_sshr k (by omega) v hi]
  by_cases h : i < 8
  · rw [if_pos (by omega)]
  · simp [h]
theorem tp_255 (x : Int32) : ∃ b : Nat, b < 256 ∧ x &&& 255 = nI b := by
  obtain ⟨j, hj, e⟩ := pk_andE x (m := 255) 8 (by decide)
  exact ⟨j, hj, e⟩
section FD
variable {σ : hp_S} {cs : Nat × Nat} {N t n : Nat} {v k : Int32}
theorem c_ap1 (h : σ.2.2.1 20 5 = nI t) (ht : t < 400) (hk : ¬ k < 0) : g74_3 N (n + 1) 20 v k (hp σ, cs) = g74_3 N n 20 v (k + (-8)) (hp (tp_1 23 20 5 σ t (lf_ushr v k &&& 255)), cs) := by
  show (if k < 0 then _ else _) = _
  rw [if_neg hk, hp_fi (a := 20) (k := 5) rfl rfl, Option.bind_some, h, if_neg (show ¬ (400 : Int32) ≤ nI t from nI_ge (b := 400) ht (by omega)), hp_fr (a := 20) (k := 1) (b := 23) rfl rfl, Option.bind_some, Option.bind_some, hp_swi (a := 23) (n := 400) rfl (in_nI ht (by omega)), Option.bind_some, nI_clamp (by omega), hp_fi (a := 20) (k := 5) rfl rfl, Option.bind_some, hp_swf (a := 20) (k := 5) rfl rfl rfl, Option.bind_some, show (hp_wi σ 23 t (lf_ushr v k &&& 255)).2.2.1 20 5 = nI t from h, nI_1]
  rfl
theorem m_ap1 (h : σ.2.2.1 72 8 = nI t) (ht : t < 400) (hk : ¬ k < 0) : g191_3 N (n + 1) 72 v k (hp σ, cs) = g191_3 N n 72 v (k + (-8)) (hp (tp_1 77 72 8 σ t (lf_shr v k &&& 255)), cs) := by
  show (if k < 0 then _ else _) = _
  rw [if_neg hk, hp_fr (a := 72) (k := 7) (b := 77) rfl rfl, Option.bind_some, hp_fi (a := 72) (k := 8) rfl rfl, Option.bind_some, h, hp_swi (a := 77) (n := 400) rfl (in_nI ht (by omega)), Option.bind_some, nI_clamp (by omega), hp_fi (a := 72) (k := 8) rfl rfl, Option.bind_some, hp_swf (a := 72) (k := 8) rfl rfl rfl, Option.bind_some, show (hp_wi σ 77 t (lf_shr v k &&& 255)).2.2.1 72 8 = nI t from h, nI_1]
  rfl
theorem c_append (h : σ.2.2.1 20 5 = nI t) (ht : t + 4 ≤ 400) (hN : iv_N N) : f74 N 20 v (hp σ, cs) = some (.inl none, (hp (tp_app 23 20 5 σ t (tp_by v)), cs)) := by
  unfold f74
  obtain ⟨q, rfl⟩ : ∃ q, N = q + 5 := ⟨N - 5, by unfold iv_N at hN; omega⟩
  rw [c_ap1 h (by omega) (by decide), c_ap1 (t := t + 1) tp_1_c (by omega) (by decide), c_ap1 (t := t + 1 + 1) tp_1_c (by omega) (by decide), c_ap1 (t := t + 1 + 1 + 1) tp_1_c (by omega) (by decide)]
  have e1 : lf_ushr v 24 &&& 255 = lf_shr v 24 &&& 255 := tp_sh v 24 (by omega)
  have e2 : lf_ushr v (24 + (-8)) &&& 255 = lf_shr v 16 &&& 255 := tp_sh v 16 (by omega)
  have e3 : lf_ushr v (24 + (-8) + (-8)) &&& 255 = lf_shr v 8 &&& 255 := tp_sh v 8 (by omega)
  have e4 : lf_ushr v (24 + (-8) + (-8) + (-8)) &&& 255 = lf_shr v 0 &&& 255 := tp_sh v 0 (by omega)
  rw [e1, e2, e3, e4]
  show (if (24 + (-8) + (-8) + (-8) + (-8) : Int32) < 0 then _ else _) = _
  rw [if_pos (by decide)]
  rfl
theorem m_append (h : σ.2.2.1 72 8 = nI t) (ht : t + 4 ≤ 400) (hN : iv_N N) : f191 N 72 v (hp σ, cs) = some (.inl none, (hp (tp_app 77 72 8 σ t (tp_by v)), cs)) := by
  unfold f191
  obtain ⟨q, rfl⟩ : ∃ q, N = q + 5 := ⟨N - 5, by unfold iv_N at hN; omega⟩
  rw [m_ap1 h (by omega) (by decide), m_ap1 (t := t + 1) tp_1_c (by omega) (by decide), m_ap1 (t := t + 1 + 1) tp_1_c (by omega) (by decide), m_ap1 (t := t + 1 + 1 + 1) tp_1_c (by omega) (by decide)]
  show (if (24 + (-8) + (-8) + (-8) + (-8) : Int32) < 0 then _ else _) = _
  rw [if_pos (by decide)]
  rfl
end FD
/-- case 3: feed -/
theorem case_feed {J : iv_J} {rd : iv_rd} : iv_case J rd g327_431 := by
  intro sc i σ cs hs hi hI
  have key : ∃ (τ : hp_S), iv J τ ∧ ∃ (v : Int32) (σ1 : hp_S), ∀ N, iv_N N → f133 N 0 (sc.2 (i + 1)) (sc.2 (i + 2)) (sc.2 (i + 3)) (sc.2 (i + 4)) (sc.2 (i + 5)) (hp σ, cs) = some (.inl (some (.int v)), (hp σ1, cs)) ∧ f190 N 72 (sc.2 (i + 1)) (sc.2 (i + 2)) (sc.2 (i + 3)) (sc.2 (i + 4)) (sc.2 (i + 5)) (hp σ1, cs) = some (.inl (some (.int v)), (hp τ, cs)) := by
    generalize sc.2 (i + 1) = a
    generalize sc.2 (i + 2) = b
    generalize sc.2 (i + 3) = c
    generalize sc.2 (i + 4) = d
    generalize sc.2 (i + 5) = e
    obtain ⟨g1, ⟨t, t1, t2, t3, t4⟩, g3, g4, g5, g6, g7⟩ := id hI
    have hr : ∀ (σ : hp_S) (cs : Nat × Nat), lf_fr (hp σ, cs) 0 11 2 = some 20 := fun σ cs => hp_fr (a := 0) (k := 2) rfl rfl
    have hq : ∀ (σ : hp_S) (cs : Nat × Nat), lf_is (hp σ, cs) 20 7 = true := fun σ cs => hp_is (a := 20) rfl
    by_cases ht : 400 < t + 20
    · refine ⟨hp_wf σ 72 0 0, hI.kept iv_k0, -1, σ, fun N hN => ⟨?_, ?_⟩⟩
      · unfold f133 f73
        rw [hr, Option.bind_some, if_pos (hq _ _), hp_fi (a := 20) (k := 5) rfl rfl, Option.bind_some, t2, show nI t + 20 = nI (t + 20) from nI_add t 20, if_pos (show (400 : Int32) < nI (t + 20) from nI_lt (a := 400) ht (by omega)), lf_ci_r, if_neg (fun q => q rfl)]
      · unfold f190
        rw [m_w0, Option.bind_some, hp_fi (a := 72) (k := 8) rfl rfl, Option.bind_some, hp_wf_ne (by decide), t3, show nI t + 20 = nI (t + 20) from nI_add t 20, if_neg (show ¬ nI (t + 20) ≤ 400 from nI_ge (a := 400) ht (by omega))]
    · have ec : ∀ N, iv_N N → f133 N 0 a b c d e (hp σ, cs) = some (.inl (some (.int (nI (t + 20)))), (hp (tp_app 23 20 5 σ t (tp_by a ++ tp_by b ++ tp_by c ++ tp_by d ++ tp_by e)), cs)) := by
        intro N hN
        unfold f133 f73
        rw [hr, Option.bind_some, if_pos (hq _ _), hp_fi (a := 20) (k := 5) rfl rfl, Option.bind_some, t2, show nI t + 20 = nI (t + 20) from nI_add t 20, if_neg (show ¬ (400 : Int32) < nI (t + 20) from nI_nlt (a := 400) (by omega) (by omega) ∘ id), lf_ci_r, if_pos (by decide), hr, Option.bind_some, if_pos (hq _ _), c_append t2 (by omega) hN, lf_cv_r, hr, Option.bind_some, if_pos (hq _ _), c_append (t := t + 4) (tp_app_f (tp_by a) σ t t2) (by omega) hN, lf_cv_r, tp_app_n (n := 4) (l := tp_by a) (l' := tp_by b) rfl, hr, Option.bind_some, if_pos (hq _ _), c_append (t := t + 8) (tp_app_f (tp_by a ++ tp_by b) σ t t2) (by omega) hN, lf_cv_r, tp_app_n (n := 8) (l := tp_by a ++ tp_by b) (l' := tp_by c) rfl, hr, Option.bind_some, if_pos (hq _ _), c_append (t := t + 12) (tp_app_f (tp_by a ++ tp_by b ++ tp_by c) σ t t2) (by omega) hN, lf_cv_r, tp_app_n (n := 12) (l := tp_by a ++ tp_by b ++ tp_by c) (l' := tp_by d) rfl, hr, Option.bind_some, if_pos (hq _ _), c_append (t := t + 16) (tp_app_f (tp_by a ++ tp_by b ++ tp_by c ++ tp_by d) σ t t2) (by omega) hN, lf_cv_r, tp_app_n (n := 16) (l := tp_by a ++ tp_by b ++ tp_by c ++ tp_by d) (l' := tp_by e) rfl, hr, Option.bind_some, hp_fi (a := 20) (k := 5) rfl rfl, Option.bind_some, tp_app_f (tp_by a ++ tp_by b ++ tp_by c ++ tp_by d ++ tp_by e) σ t t2]
        rfl
      have em : ∀ N (ρ : hp_S), iv_N N → ρ.2.2.1 72 8 = nI t → f190 N 72 a b c d e (hp ρ, cs) = some (.inl (some (.int (nI (t + 20)))), (hp (tp_app 77 72 8 (hp_wf ρ 72 0 0) t (tp_by a ++ tp_by b ++ tp_by c ++ tp_by d ++ tp_by e)), cs)) := by
        intro N ρ hN hρ
        have h8 : (hp_wf ρ 72 0 0).2.2.1 72 8 = nI t := by rw [hp_wf_ne (by decide)]; exact hρ
        unfold f190
        rw [m_w0, Option.bind_some, hp_fi (a := 72) (k := 8) rfl rfl, Option.bind_some, h8, show nI t + 20 = nI (t + 20) from nI_add t 20, if_pos (show nI (t + 20) ≤ 400 from nI_le (b := 400) (by omega) (by omega)), if_pos hp_m, m_append h8 (by omega) hN, lf_cv_r, if_pos hp_m, m_append (t := t + 4) (tp_app_f (tp_by a) _ t h8) (by omega) hN, lf_cv_r, tp_app_n (n := 4) (l := tp_by a) (l' := tp_by b) rfl, if_pos hp_m, m_append (t := t + 8) (tp_app_f (tp_by a ++ tp_by b) _ t h8) (by omega) hN, lf_cv_r, tp_app_n (n := 8) (l := tp_by a ++ tp_by b) (l' := tp_by c) rfl, if_pos hp_m, m_append (t := t + 12) (tp_app_f (tp_by a ++ tp_by b ++ tp_by c) _ t h8) (by omega) hN, lf_cv_r, tp_app_n (n := 12) (l := tp_by a ++ tp_by b ++ tp_by c) (l' := tp_by d) rfl, if_pos hp_m, m_append (t := t + 16) (tp_app_f (tp_by a ++ tp_by b ++ tp_by c ++ tp_by d) _ t h8) (by omega) hN, lf_cv_r, tp_app_n (n := 16) (l := tp_by a ++ tp_by b ++ tp_by c ++ tp_by d) (l' := tp_by e) rfl, hp_fi (a := 72) (k := 8) rfl rfl, Option.bind_some, tp_app_f (tp_by a ++ tp_by b ++ tp_by c ++ tp_by d ++ tp_by e) _ t h8]
        rfl
      generalize hl : tp_by a ++ tp_by b ++ tp_by c ++ tp_by d ++ tp_by e = l at ec em
      have hlen : l.length = 20 := by rw [← hl]; rfl
      have hby : ∀ x ∈ l, ∃ q : Nat, q < 256 ∧ x = nI q := by
        intro x hx
        have hb4 : ∀ v : Int32, ∀ x ∈ tp_by v, ∃ q : Nat, q < 256 ∧ x = nI q := by
          intro v x hx
          unfold tp_by at hx
          simp only [List.mem_cons, List.not_mem_nil, or_false] at hx
          rcases hx with rfl | rfl | rfl | rfl <;> exact tp_255 _
        rw [← hl] at hx
        simp only [List.mem_append] at hx
        rcases hx with (((h | h) | h) | h) | h <;> exact hb4 _ x h
      refine ⟨tp_app 77 72 8 (hp_wf (tp_app 23 20 5 σ t l) 72 0 0) t l, ?_, nI (t + 20), tp_app 23 20 5 σ t l, fun N hN => ⟨ec N hN, em N _ hN (by rw [tp_app_fn (by decide)]; exact t3)⟩⟩
      have ef : ∀ b k, ¬ (b = 20 ∧ k = 5) → ¬ (b = 72 ∧ (k = 8 ∨ k = 0)) → (tp_app 77 72 8 (hp_wf (tp_app 23 20 5 σ t l) 72 0 0) t l).2.2.1 b k = σ.2.2.1 b k := by
        intro b k q1 q2
        rw [tp_app_fn (by omega), hp_wf_ne (by omega), tp_app_fn (by omega)]
      have ei : ∀ a, a ≠ 77 → a ≠ 23 → (tp_app 77 72 8 (hp_wf (tp_app 23 20 5 σ t l) 72 0 0) t l).1 a = σ.1 a := by
        intro a q1 q2
        rw [tp_app_in q1]
        show (tp_app 23 20 5 σ t l).1 a = _
        rw [tp_app_in q2]
      have e23 : (tp_app 77 72 8 (hp_wf (tp_app 23 20 5 σ t l) 72 0 0) t l).1 23 = (tp_app 23 20 5 σ t l).1 23 := tp_app_in (by decide) _ _ _
      have e77 : (hp_wf (tp_app 23 20 5 σ t l) 72 0 0).1 77 = σ.1 77 := tp_app_in (a := 23) (by decide) l σ t
      refine ⟨g1.fr (fun s hs => ⟨ef _ _ (by omega) (by omega), ef _ _ (by omega) (by omega), ei _ (by omega) (by omega)⟩) (ei _ (by omega) (by omega)) (ei _ (by omega) (by omega)) (ei _ (by omega) (by omega)), ⟨t + 20, by omega, ?_, ?_, fun j hj => ?_⟩, g3.fr (ef _ _ (by omega) (by omega)) (ef _ _ (by omega) (by omega)), g4.fr (fun k _ => ef _ _ (by omega) (by omega)) (fun k _ _ => ef _ _ (by omega) (by omega)), g5.fr (ef _ _ (by omega) (by omega)) (ef _ _ (by omega) (by omega)) (ei _ (by omega) (by omega)) (ei _ (by omega) (by omega)), g6.fr (ef _ _ (by omega) (by omega)) (ef _ _ (by omega) (by omega)) (ei _ (by omega) (by omega)) (ei _ (by omega) (by omega)), by rw [iv_cs.fr (fun a q => ei a (by omega) (by omega))]; exact ⟨g7.1, by unfold iv_sw; rw [tp_app_g, show (hp_wf (tp_app 23 20 5 σ t l) 72 0 0).2.2.2 = (tp_app 23 20 5 σ t l).2.2.2 from rfl, tp_app_g]; exact g7.2⟩⟩
      · rw [tp_app_fn (by decide), hp_wf_ne (by decide), tp_app_f l σ t t2, hlen]
      · rw [tp_app_f l _ t (by rw [hp_wf_ne (by decide), tp_app_fn (by decide)]; exact t3), hlen]
      · rw [e23]
        by_cases hj2 : j < t
        · rw [tp_app_lo l _ _ hj2, tp_app_lo l _ _ hj2, e77]
          exact t4 j hj2
        · obtain ⟨u, rfl⟩ : ∃ u, j = t + u := ⟨j - t, by omega⟩
          have a1 := tp_app_at (a := 23) (o := 20) (k := 5) l σ t u (by omega)
          have a2 := tp_app_at (a := 77) (o := 72) (k := 8) l (hp_wf (tp_app 23 20 5 σ t l) 72 0 0) t u (by omega)
          refine ⟨Option.some.inj (a1.trans a2.symm), ?_⟩
          exact hby _ (List.mem_of_getElem? a1.symm)
  obtain ⟨τ, q1, v, σ1, q2⟩ := key
  refine ⟨τ, cs, q1, Nat.le_add_right _ _, Nat.le_add_right _ _, fun N hN k23 => ?_⟩
  obtain ⟨q3, q4⟩ := q2 N hN
  unfold g327_431
  simp only [iv_s1 hs hi, iv_s2 hs hi, iv_s3 hs hi, iv_s4 hs hi, iv_s5 hs hi, Option.bind_some]
  rw [if_pos hp_x, q3, lf_ci_r, if_pos hp_m, q4, lf_ci_r, if_pos rfl]
  rfl
