theorem hp_scp {σ : hp_S} {cs : Nat × Nat} {a b : Nat} (ha : hp_lay[a]? = some (0, 24, [], [])) (hb : hp_lay[b]? = some (0, 24, [], [])) : lf_cp (hp σ, cs) b 0 a 0 24 = some (hp (hp_fill σ a 24 (σ.1 b)), cs) := by
  unfold lf_cp
  rw [hp_ia hb, Option.bind_some, hp_ia ha, Option.bind_some, if_pos ⟨by decide, by decide, by decide, by show (0 : Int32).toNatClampNeg + (24 : Int32).toNatClampNeg ≤ 24; decide, by show (0 : Int32).toNatClampNeg + (24 : Int32).toNatClampNeg ≤ 24; decide⟩]
  congr 2
  refine hp_chg ha ?_ (fun c p hc _ => hp_c_eq (hp_fill_ne hc) rfl rfl rfl)
  show (Sum.inl (0, 24, (hp_fill σ a 24 (σ.1 b)).1 a) : pm_C) = _
  congr 3
  funext j
  show (if a = a ∧ j < 24 then σ.1 b j else σ.1 a j) = (if (0 : Int32).toNatClampNeg ≤ j ∧ j < (0 : Int32).toNatClampNeg + (24 : Int32).toNatClampNeg then σ.1 b ((0 : Int32).toNatClampNeg + (j - (0 : Int32).toNatClampNeg)) else σ.1 a j)
  rw [show (0 : Int32).toNatClampNeg = 0 by decide, show (24 : Int32).toNatClampNeg = 24 by decide]
  by_cases h : j < 24
  · rw [if_pos ⟨rfl, h⟩, if_pos ⟨by omega, by omega⟩, show 0 + (j - 0) = j by omega]
  · rw [if_neg (fun q => h q.2), if_neg (fun q => h (by omega))]
/-- the class's become, slot r from slot s -/
def c_bc (σ : hp_S) (r s : Nat) : hp_S := hp_fill (hp_wf (hp_wf σ (2 + 2 * r) 1 (σ.2.2.1 (2 + 2 * s) 1)) (2 + 2 * r) 2 (σ.2.2.1 (2 + 2 * s) 2)) (3 + 2 * r) 24 (σ.1 (3 + 2 * s))
theorem c_become {σ : hp_S} {cs : Nat × Nat} {N r s : Nat} (hr : r < 8) (hs : s < 8) : f52 N (2 + 2 * r) (2 + 2 * s) (hp σ, cs) = some (.inl none, (hp (c_bc σ r s), cs)) := by
  unfold f52
  rw [c_kn hs, Option.bind_some, hp_swf (lay_net hr) (k := 1) rfl rfl, Option.bind_some, c_dg hs, Option.bind_some, hp_wf_ne (by omega), hp_swf (lay_net hr) (k := 2) rfl rfl, Option.bind_some, c_rw hs, Option.bind_some, c_rw hr, Option.bind_some, hp_scp (lay_row hr) (lay_row hs), Option.bind_some]
  rfl
theorem c_bc_f {σ : hp_S} {r s b k : Nat} (h : ¬ (b = 2 + 2 * r ∧ (k = 1 ∨ k = 2))) : (c_bc σ r s).2.2.1 b k = σ.2.2.1 b k := by
  show (hp_wf (hp_wf σ (2 + 2 * r) 1 (σ.2.2.1 (2 + 2 * s) 1)) (2 + 2 * r) 2 (σ.2.2.1 (2 + 2 * s) 2)).2.2.1 b k = _
  rw [hp_wf_ne (by omega), hp_wf_ne (by omega)]
theorem c_bc_1 {σ : hp_S} {r s : Nat} : (c_bc σ r s).2.2.1 (2 + 2 * r) 1 = σ.2.2.1 (2 + 2 * s) 1 := by
  show (hp_wf (hp_wf σ (2 + 2 * r) 1 (σ.2.2.1 (2 + 2 * s) 1)) (2 + 2 * r) 2 (σ.2.2.1 (2 + 2 * s) 2)).2.2.1 (2 + 2 * r) 1 = _
  rw [hp_wf_ne (by omega), hp_wf_at]
theorem c_bc_2 {σ : hp_S} {r s : Nat} : (c_bc σ r s).2.2.1 (2 + 2 * r) 2 = σ.2.2.1 (2 + 2 * s) 2 := by
  show (hp_wf (hp_wf σ (2 + 2 * r) 1 (σ.2.2.1 (2 + 2 * s) 1)) (2 + 2 * r) 2 (σ.2.2.1 (2 + 2 * s) 2)).2.2.1 (2 + 2 * r) 2 = _
  rw [hp_wf_at]
theorem c_bc_i {σ : hp_S} {r s a : Nat} (h : a ≠ 3 + 2 * r) : (c_bc σ r s).1 a = σ.1 a := hp_fill_ne h
theorem c_bc_j {σ : hp_S} {r s k : Nat} (h : k < 24) : (c_bc σ r s).1 (3 + 2 * r) k = σ.1 (3 + 2 * s) k := hp_fill_at h
theorem nI_pos1 {m : Nat} (h : 1 ≤ m) (h2 : m ≤ 24) : ¬ nI m ≤ 0 := nI_nle (by omega) (by omega)
/-- the model keeps in slot r what lies in its own place, and the class has it in slot r too -/
theorem iv.put2 {J : iv_J} {σ υ : hp_S} {r : Nat} {n dg : Int32} {f : Nat → Int32} (h : iv J σ) (hr : r < 8) (hrest : iv_rest σ υ)
    (ho : ∀ t, t < 8 → t ≠ r → υ.2.2.1 (2 + 2 * t) 1 = σ.2.2.1 (2 + 2 * t) 1 ∧ υ.2.2.1 (2 + 2 * t) 2 = σ.2.2.1 (2 + 2 * t) 2 ∧ υ.1 (3 + 2 * t) = σ.1 (3 + 2 * t))
    (hm : υ.1 73 = σ.1 73 ∧ υ.1 74 = σ.1 74 ∧ υ.1 75 = σ.1 75) (h1 : υ.2.2.1 (2 + 2 * r) 1 = n) (h2 : υ.2.2.1 (2 + 2 * r) 2 = dg) (h3 : ∀ k, k < 24 → υ.1 (3 + 2 * r) k = f k) (h4 : υ.2.2.1 72 4 = n) (h5 : υ.2.2.1 72 5 = dg) (h6 : ∀ k, k < 24 → υ.1 76 k = f k) (hw : iv_wf n dg f) : iv J (m_kp υ r) := by
  refine h.put (s := r) (n := n) (dg := dg) (f := f) (hrest.tr ⟨fun a q => m_kp_ne (by omega), rfl, rfl, fun _ _ => rfl, rfl, rfl, fun _ _ => rfl, id⟩) hr (fun t ht q => ?_) h1 h2 (fun k hk => ?_) (m_kp_n.trans h4) (m_kp_d.trans h5) (fun k hk => (m_kp_j hk).trans (h6 k hk)) hw
  · obtain ⟨q1, q2, q3⟩ := ho t ht q
    obtain ⟨u1, u2, u3⟩ := m_kp_no (σ := υ) q
    exact ⟨q1, q2, (m_kp_ne (by omega)).trans q3, by rw [u1, hm.1], by rw [u2, hm.2.1], fun k hk => by rw [u3 k hk, hm.2.2]⟩
  · rw [m_kp_ne (by omega)]
    exact h3 k hk
/-- case 8: copy -/
theorem case_copy {J : iv_J} {rd : iv_rd} : iv_case J rd g327_757 := by
  intro sc i σ cs hs hi hI
  have key : ∃ (τ : hp_S) (ds : Nat × Nat), iv J τ ∧ ds.1 ≤ cs.1 + 1 ∧ ds.2 ≤ cs.2 + 6 ∧ ∀ N, iv_N N → ∀ k : lf_W → lf_R, tl_Z (tc_Z [("java/util/NoSuchElementException", 1)] (f138 N 0 (sc.2 (i + 1)) (sc.2 (i + 2)) (hp σ, cs))) (fun w => f215 N 72 (sc.2 (i + 1)) (sc.2 (i + 2)) w) k = k (hp τ, ds) := by
    generalize sc.2 (i + 1) = x
    generalize sc.2 (i + 2) = y
    rcases iv_slot hI x with h | ⟨s, m, hs8, rfl, m1, m2, e1, e2⟩
    · refine ⟨hp_wf (hp_wf σ 72 0 0) 72 0 1, (cs.1 + 1, cs.2 + 6), hI.kept (iv_k0.tr iv_k0), Nat.le_refl _, Nat.le_refl _, fun N hN k => ?_⟩
      refine tl_Z_ok (σ := σ) (kx := 1) (b := 0) (tc_Z_thr (E := "java/util/NoSuchElementException") (q := ("java/util/NoSuchElementException", 1)) ?_ rfl) ?_ hp_wf_at (fun q => absurd q (by decide))
      · unfold f138
        rw [if_pos hp_x, c_held_no h]
        rfl
      · show f215 N 72 x y (hp σ, (cs.1 + 1, cs.2 + 6)) = _
        unfold f215
        rw [if_pos hp_m, m_lays_no h, lf_ci_r, if_neg (fun q => q rfl)]
    · have hk0 : ¬ σ.2.2.1 (2 + 2 * s) 1 = 0 := by rw [e1]; exact nI_ne0 (by omega) (by omega)
      rcases pk_ix y (n := 8) (by omega) with q | q | ⟨r, hr, rfl⟩
      · refine ⟨m_laid (hp_wl σ 117 0 0) s, cs, (hI.kept iv_kept.wl).kept m_laid_kept, Nat.le_add_right _ _, Nat.le_add_right _ _, fun N hN k => ?_⟩
        refine tl_Z_ok (σ := hp_wl σ 117 0 0) (kx := 0) (b := 0) (tc_Z_ret (σ := σ) (v := 0) ?_) ?_ m_laid_0 (fun _ => by show (hp_wl σ 117 0 0).2.1 117 0 = _; rw [tl_wl_at]; rfl)
        · unfold f138
          rw [if_pos hp_x, c_held hs8 hk0, lf_cr_r, c_isS_lo q, lf_ci_r, if_neg (fun q => q rfl)]
        · show f215 N 72 (nI s) y (hp (hp_wl σ 117 0 0), cs) = _
          unfold f215
          rw [if_pos hp_m, m_lays hs8 (by show ¬ σ.1 73 s ≤ 0; rw [e2]; exact nI_pos1 m1 m2) hN, lf_ci_r, if_pos (by decide), m_isS_lo q, lf_ci_r, if_neg (fun q => q rfl)]
      · refine ⟨m_laid (hp_wl σ 117 0 0) s, cs, (hI.kept iv_kept.wl).kept m_laid_kept, Nat.le_add_right _ _, Nat.le_add_right _ _, fun N hN k => ?_⟩
        refine tl_Z_ok (σ := hp_wl σ 117 0 0) (kx := 0) (b := 0) (tc_Z_ret (σ := σ) (v := 0) ?_) ?_ m_laid_0 (fun _ => by show (hp_wl σ 117 0 0).2.1 117 0 = _; rw [tl_wl_at]; rfl)
        · unfold f138
          rw [if_pos hp_x, c_held hs8 hk0, lf_cr_r, c_isS_hi q, lf_ci_r, if_neg (fun q => q rfl)]
        · show f215 N 72 (nI s) y (hp (hp_wl σ 117 0 0), cs) = _
          unfold f215
          rw [if_pos hp_m, m_lays hs8 (by show ¬ σ.1 73 s ≤ 0; rw [e2]; exact nI_pos1 m1 m2) hN, lf_ci_r, if_pos (by decide), m_isS_hi q, lf_ci_r, if_neg (fun q => q rfl)]
      · have e73 : (hp_wl (c_bc σ r s) 117 0 1).1 73 = σ.1 73 := c_bc_i (by omega)
        have e74 : (hp_wl (c_bc σ r s) 117 0 1).1 74 = σ.1 74 := c_bc_i (by omega)
        have e75 : (hp_wl (c_bc σ r s) 117 0 1).1 75 = σ.1 75 := c_bc_i (by omega)
        refine ⟨m_kp (m_laid (hp_wl (c_bc σ r s) 117 0 1) s) r, cs, ?_, Nat.le_add_right _ _, Nat.le_add_right _ _, fun N hN k => ?_⟩
        · obtain ⟨u1, u2, u3, u4⟩ := hI.1 s hs8
          have hc : iv_rest σ (c_bc σ r s) := ⟨fun a q => c_bc_i (by omega), c_bc_f (by omega), c_bc_f (by omega), fun k _ => c_bc_f (by omega), c_bc_f (by omega), c_bc_f (by omega), fun k _ => c_bc_f (by omega), id⟩
          have hk2 : iv_kept (hp_wl (c_bc σ r s) 117 0 1) (m_laid (hp_wl (c_bc σ r s) 117 0 1) s) := m_laid_kept
          refine hI.put2 (n := σ.1 73 s) (dg := σ.1 74 s) (f := σ.1 (3 + 2 * s)) hr (hc.tr (iv_kept.wl.rest.tr hk2.rest)) (fun t ht q => ⟨?_, ?_, ?_⟩) ⟨?_, ?_, ?_⟩ ?_ ?_ (fun k hk => ?_) ?_ ?_ (fun k hk => ?_) u4
          · rw [hk2.2.1 _ (by omega)]; exact c_bc_f (by omega)
          · rw [hk2.2.1 _ (by omega)]; exact c_bc_f (by omega)
          · rw [hk2.1 _ (by omega)]; exact c_bc_i (by omega)
          · rw [hk2.1 _ (by omega)]; exact e73
          · rw [hk2.1 _ (by omega)]; exact e74
          · rw [hk2.1 _ (by omega)]; exact e75
          · rw [hk2.2.1 _ (by omega)]; exact c_bc_1.trans u1
          · rw [hk2.2.1 _ (by omega)]; exact c_bc_2.trans u2
          · rw [hk2.1 _ (by omega)]; exact c_bc_j hk
          · rw [m_laid_k, e73]
          · rw [m_laid_d, e74]
          · rw [m_laid_j hk, e75]; exact (u3 k hk).symm
        · refine tl_Z_ok (σ := hp_wl (c_bc σ r s) 117 0 1) (kx := 0) (b := 1) (tc_Z_ret (σ := c_bc σ r s) (v := 1) ?_) ?_ (by show (m_laid (hp_wl (c_bc σ r s) 117 0 1) s).2.2.1 72 0 = 0; exact m_laid_0) (fun _ => by show (hp_wl (c_bc σ r s) 117 0 1).2.1 117 0 = _; rw [tl_wl_at]; rfl)
          · unfold f138
            rw [if_pos hp_x, c_held hs8 hk0, lf_cr_r, c_isS_in hr, lf_ci_r, if_pos (by decide), c_slots, Option.bind_some, c_slot hr, Option.bind_some, if_pos (c_is hr), c_become hr hs8, lf_cv_r]
          · show f215 N 72 (nI s) (nI r) (hp (hp_wl (c_bc σ r s) 117 0 1), cs) = _
            unfold f215
            rw [if_pos hp_m, m_lays hs8 (by rw [e73, e2]; exact nI_pos1 m1 m2) hN, lf_ci_r, if_pos (by decide), m_isS_in hr, lf_ci_r, if_pos (by decide), if_pos hp_m, m_keeps hr hN, lf_cv_r]
  obtain ⟨τ, ds, q1, q2, q3, q4⟩ := key
  refine ⟨τ, ds, q1, q2, q3, fun N hN k23 => ?_⟩
  rw [← q4 N hN (k23 (nI i + 6))]
  unfold g327_757 h297 f297
  simp only [iv_s1 hs hi, iv_s2 hs hi, Option.bind_some, if_pos hp_x]
  rfl
