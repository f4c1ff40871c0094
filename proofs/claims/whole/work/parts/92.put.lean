/-! a net is changed in its slot -/
/-- the class: only slot s and scratch have changed -/
def CP (σ τ : hp_S) (s : Nat) : Prop := (∀ a, kr a = true → a ≠ 3 + 2 * s → τ.1 a = σ.1 a) ∧ (∀ a k, kf (a, k) = true → a ≠ 2 + 2 * s → τ.2.2.1 a k = σ.2.2.1 a k) ∧ (iv_sw σ → iv_sw τ)
theorem CP.of {A : List Nat} {F : List (Nat × Nat)} {σ τ : hp_S} {s : Nat} (h : fr ((3 + 2 * s) :: A) ((2 + 2 * s, 1) :: (2 + 2 * s, 2) :: F) σ τ) (hA : A.all (fun a => !kr a) = true) (hF : F.all (fun q => !kf q) = true) (hS : iv_sw σ → iv_sw τ) : CP σ τ s := by
  refine ⟨fun a q1 q2 => h.r (fun r => ?_), fun a k q1 q2 => h.f (fun r => ?_), hS⟩
  · rcases List.mem_cons.mp r with r | r
    · exact q2 r
    · have := List.all_eq_true.mp hA a r
      rw [q1] at this
      cases this
  · rcases List.mem_cons.mp r with r | r
    · cases r; exact q2 rfl
    · rcases List.mem_cons.mp r with r | r
      · cases r; exact q2 rfl
      · have := List.all_eq_true.mp hF (a, k) r
        rw [q1] at this
        cases this
theorem kf_slot {s k : Nat} (hs : s < 8) : kf (2 + 2 * s, k) = true := by
  unfold kf
  rw [decide_eq_true (show (2 + 2 * s, k).1 < 18 by show 2 + 2 * s < 18; omega)]
  rfl
theorem kr_slot {s : Nat} (hs : s < 8) : kr (3 + 2 * s) = true := kr_in (by omega)
theorem CP.rest {σ τ : hp_S} {s : Nat} (h : CP σ τ s) (hs : s < 8) : iv_rest σ τ := by
  obtain ⟨h1, h2, h3⟩ := h
  refine ⟨fun a q => h1 a (kr_in (by omega)) (by omega), h2 20 5 rfl (by omega), h2 20 6 rfl (by omega), fun k q => h2 44 k ?_ (by omega), h2 53 4 rfl (by omega), h2 57 1 rfl (by omega), fun k q => h2 72 k ?_ (by omega), h3⟩
  · rcases (show k = 0 ∨ k = 1 ∨ k = 2 ∨ k = 3 ∨ k = 4 by omega) with rfl | rfl | rfl | rfl | rfl <;> rfl
  · rcases (show k = 8 ∨ k = 10 ∨ k = 45 ∨ k = 46 ∨ k = 47 ∨ k = 48 ∨ k = 49 ∨ k = 58 ∨ k = 60 by omega) with rfl | rfl | rfl | rfl | rfl | rfl | rfl | rfl | rfl <;> rfl
theorem iv_viewM {J : iv_J} {σ : hp_S} (hI : iv J σ) {s n d : Nat} {f : Nat → Int32} (hs : s < 8) (hg : GW n d f) (hv : NV σ s n d f) {σ' : hp_S} (e1 : σ'.1 73 = σ.1 73) (e2 : σ'.1 74 = σ.1 74) (e3 : σ'.1 75 = σ.1 75) : MV (m_laid σ' s) n d f ∧ ∀ N ds, iv_N N → f178 N 72 (nI s) (hp σ', ds) = some (.inl (some (.int 1)), (hp (m_laid σ' s), ds)) := by
  obtain ⟨h1, h2, h3, -⟩ := hI.1 s hs
  have q3 : σ.1 73 s = nI n := h1.symm.trans hv.1
  have q6 : σ.1 74 s = nI d := h2.symm.trans hv.2.1
  refine ⟨⟨?_, ?_, m_laid_0, fun k h => ?_⟩, fun N ds hN => ?_⟩
  · rw [m_laid_k, e1]; exact q3
  · rw [m_laid_d, e2]; exact q6
  · rw [m_laid_j h, e3, ← h3 k h]; exact hv.2.2 k h
  · exact m_lays hs (by rw [e1, q3]; exact nI_pos1 hg.1 hg.2.1) hN
/-- after it all: both have the new net -/
theorem put_iv {J : iv_J} {σ σ1 υ : hp_S} {s n' d' : Nat} {f' : Nat → Int32} {y : Int64} (hI : iv J σ) (hs : s < 8) (hg : GW n' d' f') (hc : CP σ σ1 s) (hv : NV σ1 s n' d' f') (hk : iv_kept (hp_wl σ1 117 0 y) υ) (hm : MV υ n' d' f') : iv J (m_kp υ s) := by
  have hk1 : iv_kept σ1 υ := iv_kept.wl.tr hk
  refine hI.put2 (r := s) (n := nI n') (dg := nI d') (f := f') hs ((hc.rest hs).tr hk1.rest) (fun t ht q => ⟨?_, ?_, ?_⟩) ⟨?_, ?_, ?_⟩ ?_ ?_ (fun k h => ?_) hm.1 hm.2.1 hm.2.2.2 hg.wf
  · rw [hk1.2.1 _ (by omega)]; exact hc.2.1 _ _ (kf_slot ht) (by omega)
  · rw [hk1.2.1 _ (by omega)]; exact hc.2.1 _ _ (kf_slot ht) (by omega)
  · rw [hk1.1 _ (by omega)]; exact hc.1 _ (kr_slot ht) (by omega)
  · rw [hk1.1 _ (by omega)]; exact hc.1 _ rfl (by omega)
  · rw [hk1.1 _ (by omega)]; exact hc.1 _ rfl (by omega)
  · rw [hk1.1 _ (by omega)]; exact hc.1 _ rfl (by omega)
  · rw [hk1.2.1 _ (by omega)]; exact hv.1
  · rw [hk1.2.1 _ (by omega)]; exact hv.2.1
  · rw [hk1.1 _ (by omega)]; exact hv.2.2 k h

/-- a net is asked, or changed -/
theorem putI {J : iv_J} {σ : hp_S} {cs : Nat × Nat} {N : Nat} {x : Int32} {C : lf_R} {F : lf_W → lf_R} {c : List (String × Int32)} (hI : iv J σ) (hN : iv_N N)
    (hc : c.find? (fun q => decide (q.1 = "java/util/NoSuchElementException")) = some ("java/util/NoSuchElementException", 1))
    (h0 : no_net σ x → C = lf_thr "java/util/NoSuchElementException" (hp σ, cs))
    (h0m : ∀ (σ' : hp_S) (ds : Nat × Nat) (w : lf_W), f178 N 72 x (hp σ', ds) = some (.inl (some (.int 0)), w) → F (hp σ', ds) = some (.inl (some (.int 0)), w))
    (h1 : ∀ (s n d : Nat) (f : Nat → Int32), s < 8 → x = nI s → GW n d f → NV σ s n d f →
      ((∃ (v : Int32) (σ1 : hp_S), iv_kept σ σ1 ∧ C = some (.inl (some (.int v)), (hp σ1, cs)) ∧ ∀ (σ' μ : hp_S) (ds : Nat × Nat), MV μ n d f → f178 N 72 x (hp σ', ds) = some (.inl (some (.int 1)), (hp μ, ds)) → ∃ τ, iv_kept μ τ ∧ τ.2.1 117 = μ.2.1 117 ∧ τ.2.2.1 72 0 = 0 ∧ F (hp σ', ds) = some (.inl (some (.int v)), (hp τ, ds)))
      ∨ ∃ (E : String) (y : Int32) (σ1 : hp_S), iv_kept σ σ1 ∧ ¬ y = 0 ∧ c.find? (fun q => decide (q.1 = E)) = some (E, y) ∧ C = lf_thr E (hp σ1, cs) ∧ ∀ (σ' μ : hp_S) (ds : Nat × Nat), MV μ n d f → f178 N 72 x (hp σ', ds) = some (.inl (some (.int 1)), (hp μ, ds)) → ∃ (τ : hp_S) (b : Int32), iv_kept μ τ ∧ τ.2.2.1 72 0 = y ∧ F (hp σ', ds) = some (.inl (some (.int b)), (hp τ, ds)))
      ∨ ∃ (v : Int32) (σ1 : hp_S) (n' d' : Nat) (f' : Nat → Int32), GW n' d' f' ∧ CP σ σ1 s ∧ NV σ1 s n' d' f' ∧ C = some (.inl (some (.int v)), (hp σ1, cs)) ∧ ∀ (σ' μ : hp_S) (ds : Nat × Nat), MV μ n d f → f178 N 72 x (hp σ', ds) = some (.inl (some (.int 1)), (hp μ, ds)) → ∃ υ, iv_kept μ υ ∧ υ.2.1 117 = μ.2.1 117 ∧ MV υ n' d' f' ∧ F (hp σ', ds) = some (.inl (some (.int v)), (hp (m_kp υ s), ds))) :
    ∃ (τ : hp_S) (ds : Nat × Nat), iv J τ ∧ ds.1 ≤ cs.1 + 1 ∧ ds.2 ≤ cs.2 + 6 ∧ ∀ k : lf_W → lf_R, tl_I (tc_I c C) F k = k (hp τ, ds) := by
  by_cases hp : ∃ (s n d : Nat) (f : Nat → Int32) (v : Int32) (σ1 : hp_S) (n' d' : Nat) (f' : Nat → Int32), s < 8 ∧ x = nI s ∧ GW n d f ∧ NV σ s n d f ∧ GW n' d' f' ∧ CP σ σ1 s ∧ NV σ1 s n' d' f' ∧ C = some (.inl (some (.int v)), (hp σ1, cs)) ∧ ∀ (σ' μ : hp_S) (ds : Nat × Nat), MV μ n d f → f178 N 72 x (hp σ', ds) = some (.inl (some (.int 1)), (hp μ, ds)) → ∃ υ, iv_kept μ υ ∧ υ.2.1 117 = μ.2.1 117 ∧ MV υ n' d' f' ∧ F (hp σ', ds) = some (.inl (some (.int v)), (hp (m_kp υ s), ds))
  · obtain ⟨s, n, d, f, v, σ1, n', d', f', hs, rfl, hg, hv, hg', hcp, hv', hC, hF⟩ := hp
    obtain ⟨m1, m2⟩ := iv_viewM hI hs hg hv (σ' := hp_wl σ1 117 0 v.toInt64) (hcp.1 73 rfl (by omega)) (hcp.1 74 rfl (by omega)) (hcp.1 75 rfl (by omega))
    obtain ⟨υ, b1, b2, b3, b4⟩ := hF _ _ cs m1 (m2 N cs hN)
    refine ⟨m_kp υ s, cs, put_iv hI hs hg' hcp hv' (m_laid_kept.tr b1) b3, Nat.le_add_right _ _, Nat.le_add_right _ _, fun k => ?_⟩
    refine tl_I_ok (tc_I_ret hC) b4 ?_ (fun _ => ?_)
    · show υ.2.2.1 72 0 = 0
      exact b3.2.2.1
    · show υ.2.1 117 0 = _
      rw [b2]
      show (hp_wl σ1 117 0 v.toInt64).2.1 117 0 = _
      rw [tl_wl_at]
  · refine askI hI hN hc h0 h0m (fun s n d f hs hx hg hv => ?_)
    rcases h1 s n d f hs hx hg hv with h | ⟨v, σ1, n', d', f', a1, a2, a3, a4, a5⟩
    · exact h
    · exact absurd ⟨s, n, d, f, v, σ1, n', d', f', hs, hx, hg, hv, a1, a2, a3, a4, a5⟩ hp

/-- a net is asked, or changed -/
theorem putZ {J : iv_J} {σ : hp_S} {cs : Nat × Nat} {N : Nat} {x : Int32} {C : lf_R} {F : lf_W → lf_R} {c : List (String × Int32)} (hI : iv J σ) (hN : iv_N N)
    (hc : c.find? (fun q => decide (q.1 = "java/util/NoSuchElementException")) = some ("java/util/NoSuchElementException", 1))
    (h0 : no_net σ x → C = lf_thr "java/util/NoSuchElementException" (hp σ, cs))
    (h0m : ∀ (σ' : hp_S) (ds : Nat × Nat) (w : lf_W), f178 N 72 x (hp σ', ds) = some (.inl (some (.int 0)), w) → F (hp σ', ds) = some (.inl (some (.int 0)), w))
    (h1 : ∀ (s n d : Nat) (f : Nat → Int32), s < 8 → x = nI s → GW n d f → NV σ s n d f →
      ((∃ (v : Int32) (σ1 : hp_S), iv_kept σ σ1 ∧ C = some (.inl (some (.int v)), (hp σ1, cs)) ∧ ∀ (σ' μ : hp_S) (ds : Nat × Nat), MV μ n d f → f178 N 72 x (hp σ', ds) = some (.inl (some (.int 1)), (hp μ, ds)) → ∃ τ, iv_kept μ τ ∧ τ.2.1 117 = μ.2.1 117 ∧ τ.2.2.1 72 0 = 0 ∧ F (hp σ', ds) = some (.inl (some (.int v)), (hp τ, ds)))
      ∨ ∃ (E : String) (y : Int32) (σ1 : hp_S), iv_kept σ σ1 ∧ ¬ y = 0 ∧ c.find? (fun q => decide (q.1 = E)) = some (E, y) ∧ C = lf_thr E (hp σ1, cs) ∧ ∀ (σ' μ : hp_S) (ds : Nat × Nat), MV μ n d f → f178 N 72 x (hp σ', ds) = some (.inl (some (.int 1)), (hp μ, ds)) → ∃ (τ : hp_S) (b : Int32), iv_kept μ τ ∧ τ.2.2.1 72 0 = y ∧ F (hp σ', ds) = some (.inl (some (.int b)), (hp τ, ds)))
      ∨ ∃ (v : Int32) (σ1 : hp_S) (n' d' : Nat) (f' : Nat → Int32), GW n' d' f' ∧ CP σ σ1 s ∧ NV σ1 s n' d' f' ∧ C = some (.inl (some (.int v)), (hp σ1, cs)) ∧ ∀ (σ' μ : hp_S) (ds : Nat × Nat), MV μ n d f → f178 N 72 x (hp σ', ds) = some (.inl (some (.int 1)), (hp μ, ds)) → ∃ υ, iv_kept μ υ ∧ υ.2.1 117 = μ.2.1 117 ∧ MV υ n' d' f' ∧ F (hp σ', ds) = some (.inl (some (.int v)), (hp (m_kp υ s), ds))) :
    ∃ (τ : hp_S) (ds : Nat × Nat), iv J τ ∧ ds.1 ≤ cs.1 + 1 ∧ ds.2 ≤ cs.2 + 6 ∧ ∀ k : lf_W → lf_R, tl_Z (tc_Z c C) F k = k (hp τ, ds) := by
  by_cases hp : ∃ (s n d : Nat) (f : Nat → Int32) (v : Int32) (σ1 : hp_S) (n' d' : Nat) (f' : Nat → Int32), s < 8 ∧ x = nI s ∧ GW n d f ∧ NV σ s n d f ∧ GW n' d' f' ∧ CP σ σ1 s ∧ NV σ1 s n' d' f' ∧ C = some (.inl (some (.int v)), (hp σ1, cs)) ∧ ∀ (σ' μ : hp_S) (ds : Nat × Nat), MV μ n d f → f178 N 72 x (hp σ', ds) = some (.inl (some (.int 1)), (hp μ, ds)) → ∃ υ, iv_kept μ υ ∧ υ.2.1 117 = μ.2.1 117 ∧ MV υ n' d' f' ∧ F (hp σ', ds) = some (.inl (some (.int v)), (hp (m_kp υ s), ds))
  · obtain ⟨s, n, d, f, v, σ1, n', d', f', hs, rfl, hg, hv, hg', hcp, hv', hC, hF⟩ := hp
    obtain ⟨m1, m2⟩ := iv_viewM hI hs hg hv (σ' := hp_wl σ1 117 0 (if v = 0 then 0 else 1)) (hcp.1 73 rfl (by omega)) (hcp.1 74 rfl (by omega)) (hcp.1 75 rfl (by omega))
    obtain ⟨υ, b1, b2, b3, b4⟩ := hF _ _ cs m1 (m2 N cs hN)
    refine ⟨m_kp υ s, cs, put_iv hI hs hg' hcp hv' (m_laid_kept.tr b1) b3, Nat.le_add_right _ _, Nat.le_add_right _ _, fun k => ?_⟩
    refine tl_Z_ok (tc_Z_ret hC) b4 ?_ (fun _ => ?_)
    · show υ.2.2.1 72 0 = 0
      exact b3.2.2.1
    · show υ.2.1 117 0 = _
      rw [b2]
      show (hp_wl σ1 117 0 (if v = 0 then 0 else 1)).2.1 117 0 = _
      rw [tl_wl_at]
  · refine askZ hI hN hc h0 h0m (fun s n d f hs hx hg hv => ?_)
    rcases h1 s n d f hs hx hg hv with h | ⟨v, σ1, n', d', f', a1, a2, a3, a4, a5⟩
    · exact h
    · exact absurd ⟨s, n, d, f, v, σ1, n', d', f', hs, hx, hg, hv, a1, a2, a3, a4, a5⟩ hp

