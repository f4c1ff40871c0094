/-- a line turned: there it goes, else it comes -/
def fl_r (f : Nat → Int32) (p q : Nat) : Nat → Int32 := fun k => if k = q then f q ^^^ lf_shl 1 (nI p) else if k = p then f p ^^^ lf_shl 1 (nI q) else f k
theorem fl_bit {f : Nat → Int32} {p q k i : Nat} (hp : p < 24) (hq : q < 24) (hne : p ≠ q) (hi : i < 32) : bt (fl_r f p q k) i = (bt (f k) i ^^ decide ((k = p ∧ i = q) ∨ (k = q ∧ i = p))) := by
  unfold fl_r
  by_cases h1 : k = q
  · subst h1
    rw [if_pos rfl, x_bit (by omega) hi]
    congr 1
    by_cases h2 : i = p
    · rw [decide_eq_true h2, decide_eq_true (Or.inr ⟨rfl, h2⟩)]
    · rw [decide_eq_false h2, decide_eq_false (by omega)]
  · rw [if_neg h1]
    by_cases h2 : k = p
    · subst h2
      rw [if_pos rfl, x_bit (by omega) hi]
      congr 1
      by_cases h3 : i = q
      · rw [decide_eq_true h3, decide_eq_true (Or.inl ⟨rfl, h3⟩)]
      · rw [decide_eq_false h3, decide_eq_false (by omega)]
    · rw [if_neg h2, decide_eq_false (by omega), Bool.xor_false]
theorem fl_wf {f : Nat → Int32} {p q m e : Nat} {n dg : Int32} (h1 : 1 ≤ m) (h2 : m ≤ 24) (h3 : n = nI m) (h4 : 1 ≤ e) (h5 : e ≤ 8) (h6 : dg = nI e) (hw : ∀ a, a < 24 → ∀ b, bt (f a) b = true → a < m ∧ b < m ∧ a ≠ b ∧ bt (f b) a = true) (hp : p < m) (hq : q < m) (hne : p ≠ q) (hd : ∀ a, a < 24 → i_pc (fl_r f p q a) ≤ e) : iv_wf n dg (fl_r f p q) := by
  refine Or.inr ⟨m, e, h1, h2, h3, h4, h5, h6, fun a ha b hb => ?_, hd⟩
  have hb32 : b < 32 := by
    rcases Nat.lt_or_ge b 32 with h | h
    · exact h
    · rw [b_big h] at hb; cases hb
  rw [fl_bit (by omega) (by omega) hne hb32] at hb
  by_cases c : (a = p ∧ b = q) ∨ (a = q ∧ b = p)
  · rw [decide_eq_true c, Bool.xor_true] at hb
    have hab : bt (f a) b = false := by cases hh : bt (f a) b with
      | false => rfl
      | true => rw [hh] at hb; cases hb
    have hba : bt (f b) a = false := by cases hh : bt (f b) a with
      | false => rfl
      | true => exact absurd (hw b (by omega) a hh).2.2.2 (by rw [hab]; decide)
    refine ⟨by omega, by omega, by omega, ?_⟩
    rw [fl_bit (by omega) (by omega) hne (by omega), hba, decide_eq_true (by omega)]
    rfl
  · rw [decide_eq_false c, Bool.xor_false] at hb
    obtain ⟨u1, u2, u3, u4⟩ := hw a ha b hb
    refine ⟨u1, u2, u3, ?_⟩
    rw [fl_bit (by omega) (by omega) hne (by omega), u4, decide_eq_false (by omega)]
    rfl
theorem hp_2_at {σ : hp_S} {a p q k : Nat} {x y : Int32} : (hp_2 σ a p q x y).1 a k = if k = q then y else if k = p then x else σ.1 a k := by
  unfold hp_2
  by_cases h : k = q
  · subst h
    rw [hp_wi_at, if_pos rfl]
  · rw [hp_wi_nj h, if_neg h]
    by_cases h2 : k = p
    · subst h2
      rw [hp_wi_at, if_pos rfl]
    · rw [hp_wi_nj h2, if_neg h2]
theorem hp_2_ne {σ : hp_S} {a b p q : Nat} {x y : Int32} (h : b ≠ a) : (hp_2 σ a p q x y).1 b = σ.1 b := by
  unfold hp_2
  rw [hp_wi_ne h, hp_wi_ne h]
section LN
variable {σ : hp_S} {cs : Nat × Nat} {N s m p q : Nat}
theorem c_full (hs : s < 8) (hp' : p < 24) : f56 N (2 + 2 * s) (nI p) (hp σ, cs) = some (.inl (some (.int (if nI (i_pc (σ.1 (3 + 2 * s) p)) < σ.2.2.1 (2 + 2 * s) 2 then 0 else 1))), (hp σ, cs)) := by
  unfold f56
  rw [c_rw hs, Option.bind_some, c_row hs hp', Option.bind_some, c_pc, lf_ci_r, c_dg hs, Option.bind_some]
  by_cases h : nI (i_pc (σ.1 (3 + 2 * s) p)) < σ.2.2.1 (2 + 2 * s) 2
  · rw [if_pos h, if_pos h]
  · rw [if_neg h, if_neg h]
end LN
/-- a call on two knots of a net: it throws; or it answers no and changes nothing; or it turns a line -/
theorem iv_turn {J : iv_J} {σ : hp_S} {cs : Nat × Nat} {rC : Nat → lf_R} {F : Nat → lf_W → lf_R} (hI : iv J σ)
    (H : ((∀ N, iv_N N → rC N = lf_thr "java/util/NoSuchElementException" (hp σ, cs)) ∧ ∃ τ, iv_kept σ τ ∧ τ.2.2.1 72 0 = 1 ∧ ∀ N, iv_N N → F N (hp σ, (cs.1 + 1, cs.2 + 6)) = some (.inl (some (.int 0)), (hp τ, (cs.1 + 1, cs.2 + 6))))
      ∨ ((∀ N, iv_N N → rC N = some (.inl (some (.int 0)), (hp σ, cs))) ∧ ∃ s, ∀ N, iv_N N → F N (hp (hp_wl σ 117 0 0), cs) = some (.inl (some (.int 0)), (hp (m_laid (hp_wl σ 117 0 0) s), cs)))
      ∨ ∃ s m p q, s < 8 ∧ 1 ≤ m ∧ m ≤ 24 ∧ p < m ∧ q < m ∧ p ≠ q ∧ σ.1 73 s = nI m ∧ (∀ e, e ≤ 8 → σ.1 74 s = nI e → ∀ a, a < 24 → i_pc (fl_r (σ.1 (3 + 2 * s)) p q a) ≤ e) ∧ (∀ N, iv_N N → rC N = some (.inl (some (.int 1)), (hp (hp_2 σ (3 + 2 * s) p q (σ.1 (3 + 2 * s) p ^^^ lf_shl 1 (nI q)) (σ.1 (3 + 2 * s) q ^^^ lf_shl 1 (nI p))), cs))) ∧
          ∀ ρ : hp_S, ρ.1 73 = σ.1 73 → ρ.1 74 = σ.1 74 → ρ.1 75 = σ.1 75 → ∀ N, iv_N N → F N (hp ρ, cs) = some (.inl (some (.int 1)), (hp (m_kp (hp_2 (m_laid ρ s) 76 p q (σ.1 (3 + 2 * s) p ^^^ lf_shl 1 (nI q)) (σ.1 (3 + 2 * s) q ^^^ lf_shl 1 (nI p))) s), cs))) :
    ∃ (τ : hp_S) (ds : Nat × Nat), iv J τ ∧ ds.1 ≤ cs.1 + 1 ∧ ds.2 ≤ cs.2 + 6 ∧ ∀ N, iv_N N → ∀ k : lf_W → lf_R, tl_Z (tc_Z [("java/util/NoSuchElementException", 1)] (rC N)) (F N) k = k (hp τ, ds) := by
  rcases H with ⟨h1, τ, k1, k2, h2⟩ | ⟨h1, s, h2⟩ | ⟨s, m, p, q, hs, m1, m2, hp', hq, hne, e2, hd, h1, h2⟩
  · refine ⟨τ, (cs.1 + 1, cs.2 + 6), hI.kept k1, Nat.le_refl _, Nat.le_refl _, fun N hN k => ?_⟩
    exact tl_Z_ok (σ := σ) (kx := 1) (b := 0) (tc_Z_thr (E := "java/util/NoSuchElementException") (q := ("java/util/NoSuchElementException", 1)) (h1 N hN) rfl) (h2 N hN) k2 (fun q => absurd q (by decide))
  · refine ⟨m_laid (hp_wl σ 117 0 0) s, cs, (hI.kept iv_kept.wl).kept m_laid_kept, Nat.le_add_right _ _, Nat.le_add_right _ _, fun N hN k => ?_⟩
    exact tl_Z_ok (σ := hp_wl σ 117 0 0) (kx := 0) (b := 0) (tc_Z_ret (σ := σ) (v := 0) (h1 N hN)) (h2 N hN) m_laid_0 (fun _ => by show (hp_wl σ 117 0 0).2.1 117 0 = _; rw [tl_wl_at]; rfl)
  · obtain ⟨u1, u2, u3, u4⟩ := hI.1 s hs
    rcases u4 with u4 | ⟨m', e, w1, w2, w3, w4, w5, w6, w7, w8⟩
    · rw [e2] at u4
      exact absurd u4 (nI_ne0 (by omega) (by omega))
    · have hmm : m = m' := (nI_eq (by omega) (by omega)).mp (e2.symm.trans w3)
      subst hmm
      generalize hx : σ.1 (3 + 2 * s) p ^^^ lf_shl 1 (nI q) = x at h1 h2
      generalize hy : σ.1 (3 + 2 * s) q ^^^ lf_shl 1 (nI p) = y at h1 h2
      have e73 : (hp_wl (hp_2 σ (3 + 2 * s) p q x y) 117 0 1).1 73 = σ.1 73 := hp_2_ne (by omega)
      have e74 : (hp_wl (hp_2 σ (3 + 2 * s) p q x y) 117 0 1).1 74 = σ.1 74 := hp_2_ne (by omega)
      have e75 : (hp_wl (hp_2 σ (3 + 2 * s) p q x y) 117 0 1).1 75 = σ.1 75 := hp_2_ne (by omega)
      refine ⟨_, cs, ?_, Nat.le_add_right _ _, Nat.le_add_right _ _, fun N hN k => tl_Z_ok (σ := hp_wl (hp_2 σ (3 + 2 * s) p q x y) 117 0 1) (kx := 0) (b := 1) (tc_Z_ret (σ := hp_2 σ (3 + 2 * s) p q x y) (v := 1) (h1 N hN)) (h2 _ e73 e74 e75 N hN) ?_ (fun _ => ?_)⟩
      · have hk2 : iv_kept (hp_wl (hp_2 σ (3 + 2 * s) p q x y) 117 0 1) (m_laid (hp_wl (hp_2 σ (3 + 2 * s) p q x y) 117 0 1) s) := m_laid_kept
        have hr1 : iv_rest σ (hp_2 σ (3 + 2 * s) p q x y) := ⟨fun a q => hp_2_ne (by omega), rfl, rfl, fun _ _ => rfl, rfl, rfl, fun _ _ => rfl, id⟩
        have hr2 : iv_rest (m_laid (hp_wl (hp_2 σ (3 + 2 * s) p q x y) 117 0 1) s) (hp_2 (m_laid (hp_wl (hp_2 σ (3 + 2 * s) p q x y) 117 0 1) s) 76 p q x y) := ⟨fun a q => hp_2_ne (by omega), rfl, rfl, fun _ _ => rfl, rfl, rfl, fun _ _ => rfl, id⟩
        have hfl : ∀ k, (if k = q then y else if k = p then x else σ.1 (3 + 2 * s) k) = fl_r (σ.1 (3 + 2 * s)) p q k := fun k => by
          unfold fl_r
          rw [hx, hy]
        refine hI.put2 (r := s) (n := σ.1 73 s) (dg := σ.1 74 s) (f := fl_r (σ.1 (3 + 2 * s)) p q) hs (hr1.tr (iv_kept.wl.rest.tr (hk2.rest.tr hr2))) (fun t ht c => ⟨?_, ?_, ?_⟩) ⟨?_, ?_, ?_⟩ ?_ ?_ (fun k hk => ?_) ?_ ?_ (fun k hk => ?_) (fl_wf w1 w2 w3 w4 w5 w6 w7 hp' hq hne (hd e w5 w6))
        · show (m_laid (hp_wl (hp_2 σ (3 + 2 * s) p q x y) 117 0 1) s).2.2.1 (2 + 2 * t) 1 = _
          rw [hk2.2.1 _ (by omega)]; rfl
        · show (m_laid (hp_wl (hp_2 σ (3 + 2 * s) p q x y) 117 0 1) s).2.2.1 (2 + 2 * t) 2 = _
          rw [hk2.2.1 _ (by omega)]; rfl
        · rw [hp_2_ne (by omega), hk2.1 _ (by omega)]
          exact hp_2_ne (by omega)
        · rw [hp_2_ne (by omega), hk2.1 _ (by omega)]; exact e73
        · rw [hp_2_ne (by omega), hk2.1 _ (by omega)]; exact e74
        · rw [hp_2_ne (by omega), hk2.1 _ (by omega)]; exact e75
        · show (m_laid (hp_wl (hp_2 σ (3 + 2 * s) p q x y) 117 0 1) s).2.2.1 (2 + 2 * s) 1 = _
          rw [hk2.2.1 _ (by omega)]; exact u1
        · show (m_laid (hp_wl (hp_2 σ (3 + 2 * s) p q x y) 117 0 1) s).2.2.1 (2 + 2 * s) 2 = _
          rw [hk2.2.1 _ (by omega)]; exact u2
        · rw [hp_2_ne (by omega), hk2.1 _ (by omega)]
          show (hp_2 σ (3 + 2 * s) p q x y).1 (3 + 2 * s) k = _
          rw [hp_2_at, hfl]
        · show (m_laid (hp_wl (hp_2 σ (3 + 2 * s) p q x y) 117 0 1) s).2.2.1 72 4 = _
          rw [m_laid_k, e73]
        · show (m_laid (hp_wl (hp_2 σ (3 + 2 * s) p q x y) 117 0 1) s).2.2.1 72 5 = _
          rw [m_laid_d, e74]
        · rw [hp_2_at, m_laid_j hk, e75, ← u3 k hk, hfl]
      · show (m_laid (hp_wl (hp_2 σ (3 + 2 * s) p q x y) 117 0 1) s).2.2.1 72 0 = 0
        exact m_laid_0
      · show (hp_wl (hp_2 σ (3 + 2 * s) p q x y) 117 0 1).2.1 117 0 = _
        rw [tl_wl_at]
        rfl
