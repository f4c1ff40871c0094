/-! the ends of the law's cases -/
theorem lg_cmp_rf (x : Int64) : lg_cmp x x = 0 := by
  have h : ¬ x < x := by
    rw [fa_lt64]
    omega
  unfold lg_cmp
  simp [h]
theorem lf_ci_r {v : Int32} {w : lf_W} {k : Int32 → lf_W → lf_R} : lf_ci (some (.inl (some (.int v)), w)) k = k v w := rfl
theorem lf_ci_x {E : String} {w : lf_W} {k : Int32 → lf_W → lf_R} : lf_ci (some (.inr E, w)) k = some (.inr E, w) := rfl
theorem lf_cl_r {v : Int64} {w : lf_W} {k : Int64 → lf_W → lf_R} : lf_cl (some (.inl (some (.long v)), w)) k = k v w := rfl
theorem lf_cl_x {E : String} {w : lf_W} {k : Int64 → lf_W → lf_R} : lf_cl (some (.inr E, w)) k = some (.inr E, w) := rfl
theorem lf_cr_r {v : Nat} {w : lf_W} {k : Nat → lf_W → lf_R} : lf_cr (some (.inl (some (.ref v)), w)) k = k v w := rfl
theorem lf_cr_x {E : String} {w : lf_W} {k : Nat → lf_W → lf_R} : lf_cr (some (.inr E, w)) k = some (.inr E, w) := rfl
theorem lf_cv_r {w : lf_W} {k : lf_W → lf_R} : lf_cv (some (.inl none, w)) k = k w := rfl
theorem lf_nest_r {v : Option Value} {w : lf_W} : lf_nest (some (.inl v, w)) = some (.inl v, w) := rfl
theorem lw_catw_r {c : List (String × Int32)} {v : Option Value} {w : lf_W} : lw_catw c (some (.inl v, w)) = some (.inl v, w) := rfl
theorem lw_catw_x {c : List (String × Int32)} {E : String} {w : lf_W} {q : String × Int32} (he : c.find? (fun q => decide (q.1 = E)) = some q) : lw_catw c (some (.inr E, w)) = some (.inl (some (.int q.2)), w) := by
  unfold lw_catw
  simp only
  rw [he]
theorem hp_x {σ : hp_S} {cs : Nat × Nat} : lf_is (hp σ, cs) 0 11 = true := hp_is (a := 0) (ci := 11) rfl
theorem hp_m {σ : hp_S} {cs : Nat × Nat} : lf_is (hp σ, cs) 72 12 = true := hp_is (a := 72) (ci := 12) rfl
/-- an int's answer compared: what the class's helper gave, what the model answers -/
def tl_I (r : lf_R) (F k : lf_W → lf_R) : lf_R := lf_ci (lf_nest r) fun v6 w3 => if lf_is w3 72 12 = true then (lf_ci (F w3) fun v15 w9 => if lf_is w9 72 12 = true then (lf_ci (f174 0 72 w9) fun v22 w16 => if v22 = v6 then (if ¬ v6 = 0 then k w16 else ((lf_rl w16 117 0).bind fun v25 => if (lg_cmp v25 v15.toInt64) = 0 then k w16 else (some (.inl (some (.int 0)), w16)))) else (some (.inl (some (.int 0)), w16))) else none) else none
def tl_L (r : lf_R) (F k : lf_W → lf_R) : lf_R := lf_ci (lf_nest r) fun v6 w3 => if lf_is w3 72 12 = true then (lf_cl (F w3) fun v15 w9 => if lf_is w9 72 12 = true then (lf_ci (f174 0 72 w9) fun v22 w16 => if v22 = v6 then (if ¬ v6 = 0 then k w16 else ((lf_rl w16 117 0).bind fun v25 => if (lg_cmp v25 v15) = 0 then k w16 else (some (.inl (some (.int 0)), w16)))) else (some (.inl (some (.int 0)), w16))) else none) else none
def tl_Z (r : lf_R) (F k : lf_W → lf_R) : lf_R := lf_ci (lf_nest r) fun v6 w3 => if lf_is w3 72 12 = true then (lf_ci (F w3) fun v15 w9 => if lf_is w9 72 12 = true then (lf_ci (f174 0 72 w9) fun v22 w16 => if v22 = v6 then (if ¬ v6 = 0 then k w16 else ((lf_rl w16 117 0).bind fun v25 => if v15 = 0 then (if (lg_cmp v25 0) = 0 then k w16 else (some (.inl (some (.int 0)), w16))) else (if (lg_cmp v25 1) = 0 then k w16 else (some (.inl (some (.int 0)), w16))))) else (some (.inl (some (.int 0)), w16))) else none) else none
section TL
variable {r : lf_R} {F k : lf_W → lf_R} {σ τ : hp_S} {cs : Nat × Nat} {kx : Int32}
theorem tl_thrown : f174 0 72 (hp τ, cs) = some (.inl (some (.int (τ.2.2.1 72 0))), (hp τ, cs)) := by
  unfold f174
  rw [hp_fi rfl rfl]
  rfl
theorem tl_out : lf_rl (hp τ, cs) 117 0 = some (τ.2.1 117 0) := hp_rl (a := 117) (n := 1) rfl rfl
theorem tl_I_ok {b : Int32} (hr : r = some (.inl (some (.int kx)), (hp σ, cs))) (hF : F (hp σ, cs) = some (.inl (some (.int b)), (hp τ, cs))) (ht : τ.2.2.1 72 0 = kx) (hv : kx = 0 → τ.2.1 117 0 = b.toInt64) : tl_I r F k = k (hp τ, cs) := by
  unfold tl_I
  rw [hr, lf_nest_r, lf_ci_r, if_pos hp_m, hF, lf_ci_r, if_pos hp_m, tl_thrown, lf_ci_r, if_pos ht]
  by_cases h0 : kx = 0
  · rw [if_neg (fun q => q h0), tl_out, Option.bind_some, hv h0, if_pos (lg_cmp_rf _)]
  · rw [if_pos h0]
theorem tl_L_ok {b : Int64} (hr : r = some (.inl (some (.int kx)), (hp σ, cs))) (hF : F (hp σ, cs) = some (.inl (some (.long b)), (hp τ, cs))) (ht : τ.2.2.1 72 0 = kx) (hv : kx = 0 → τ.2.1 117 0 = b) : tl_L r F k = k (hp τ, cs) := by
  unfold tl_L
  rw [hr, lf_nest_r, lf_ci_r, if_pos hp_m, hF, lf_cl_r, if_pos hp_m, tl_thrown, lf_ci_r, if_pos ht]
  by_cases h0 : kx = 0
  · rw [if_neg (fun q => q h0), tl_out, Option.bind_some, hv h0, if_pos (lg_cmp_rf _)]
  · rw [if_pos h0]
theorem tl_Z_ok {b : Int32} (hr : r = some (.inl (some (.int kx)), (hp σ, cs))) (hF : F (hp σ, cs) = some (.inl (some (.int b)), (hp τ, cs))) (ht : τ.2.2.1 72 0 = kx) (hv : kx = 0 → τ.2.1 117 0 = if b = 0 then 0 else 1) : tl_Z r F k = k (hp τ, cs) := by
  unfold tl_Z
  rw [hr, lf_nest_r, lf_ci_r, if_pos hp_m, hF, lf_ci_r, if_pos hp_m, tl_thrown, lf_ci_r, if_pos ht]
  by_cases h0 : kx = 0
  · rw [if_neg (fun q => q h0), tl_out, Option.bind_some, hv h0]
    by_cases hb : b = 0
    · rw [if_pos hb, if_pos hb, if_pos (lg_cmp_rf _)]
    · rw [if_neg hb, if_neg hb, if_pos (lg_cmp_rf _)]
  · rw [if_pos h0]
/-- the class's helpers -/
def tc_I (c : List (String × Int32)) (r : lf_R) : lf_R := lw_catw c (lf_ci r fun v w => (lf_wl w 117 0 v.toInt64).bind fun w' => some (.inl (some (.int 0)), w'))
def tc_L (c : List (String × Int32)) (r : lf_R) : lf_R := lw_catw c (lf_cl r fun v w => (lf_wl w 117 0 v).bind fun w' => some (.inl (some (.int 0)), w'))
def tc_Z (c : List (String × Int32)) (r : lf_R) : lf_R := lw_catw c (lf_ci r fun v w => if v = 0 then ((lf_wl w 117 0 0).bind fun w' => some (.inl (some (.int 0)), w')) else ((lf_wl w 117 0 1).bind fun w' => some (.inl (some (.int 0)), w')))
theorem tc_wl {y : Int64} : lf_wl (hp σ, cs) 117 0 y = some (hp (hp_wl σ 117 0 y), cs) := hp_swl (a := 117) (n := 1) rfl rfl
theorem tc_I_ret {c : List (String × Int32)} {v : Int32} (h : r = some (.inl (some (.int v)), (hp σ, cs))) : tc_I c r = some (.inl (some (.int 0)), (hp (hp_wl σ 117 0 v.toInt64), cs)) := by
  unfold tc_I
  rw [h, lf_ci_r, tc_wl, Option.bind_some, lw_catw_r]
theorem tc_L_ret {c : List (String × Int32)} {v : Int64} (h : r = some (.inl (some (.long v)), (hp σ, cs))) : tc_L c r = some (.inl (some (.int 0)), (hp (hp_wl σ 117 0 v), cs)) := by
  unfold tc_L
  rw [h, lf_cl_r, tc_wl, Option.bind_some, lw_catw_r]
theorem tc_Z_ret {c : List (String × Int32)} {v : Int32} (h : r = some (.inl (some (.int v)), (hp σ, cs))) : tc_Z c r = some (.inl (some (.int 0)), (hp (hp_wl σ 117 0 (if v = 0 then 0 else 1)), cs)) := by
  unfold tc_Z
  rw [h, lf_ci_r]
  by_cases hv : v = 0
  · rw [if_pos hv, if_pos hv, tc_wl, Option.bind_some, lw_catw_r]
  · rw [if_neg hv, if_neg hv, tc_wl, Option.bind_some, lw_catw_r]
theorem tc_I_thr {c : List (String × Int32)} {E : String} {w : lf_W} {q : String × Int32} (h : r = some (.inr E, w)) (he : c.find? (fun q => decide (q.1 = E)) = some q) : tc_I c r = some (.inl (some (.int q.2)), w) := by
  unfold tc_I
  rw [h, lf_ci_x, lw_catw_x he]
theorem tc_L_thr {c : List (String × Int32)} {E : String} {w : lf_W} {q : String × Int32} (h : r = some (.inr E, w)) (he : c.find? (fun q => decide (q.1 = E)) = some q) : tc_L c r = some (.inl (some (.int q.2)), w) := by
  unfold tc_L
  rw [h, lf_cl_x, lw_catw_x he]
theorem tc_Z_thr {c : List (String × Int32)} {E : String} {w : lf_W} {q : String × Int32} (h : r = some (.inr E, w)) (he : c.find? (fun q => decide (q.1 = E)) = some q) : tc_Z c r = some (.inl (some (.int q.2)), w) := by
  unfold tc_Z
  rw [h, lf_ci_x, lw_catw_x he]
theorem iv_kept.wl {y : Int64} {a j : Nat} : iv_kept σ (hp_wl σ a j y) := ⟨fun _ _ => rfl, fun _ _ => rfl, rfl, rfl, fun _ _ => rfl, rfl, rfl, fun _ _ => rfl, id⟩
theorem tl_wl_at {y : Int64} : (hp_wl σ 117 0 y).2.1 117 0 = y := by
  show hp_up σ.2.1 117 0 y 117 0 = y
  unfold hp_up
  rw [if_pos ⟨rfl, rfl⟩]
theorem hp_wf_at {a j : Nat} {x : Int32} : (hp_wf σ a j x).2.2.1 a j = x := by
  show hp_up σ.2.2.1 a j x a j = x
  unfold hp_up
  rw [if_pos ⟨rfl, rfl⟩]
theorem hp_wf_ne {a j b l : Nat} {x : Int32} (h : ¬ (b = a ∧ l = j)) : (hp_wf σ a j x).2.2.1 b l = σ.2.2.1 b l := by
  show hp_up σ.2.2.1 a j x b l = _
  unfold hp_up
  rw [if_neg h]
end TL
/-- the script's places -/
theorem iv_s1 {sc : Nat × (Nat → Int32)} {i : Nat} (hs : sc.1 ≤ 3072) (hi : i + 6 ≤ sc.1) : lf_sc sc (nI i + 1) = some (sc.2 (i + 1)) := by rw [show nI i + 1 = nI (i + 1) from nI_add i 1]; exact iv_sc (by omega) hs
theorem iv_s2 {sc : Nat × (Nat → Int32)} {i : Nat} (hs : sc.1 ≤ 3072) (hi : i + 6 ≤ sc.1) : lf_sc sc (nI i + 2) = some (sc.2 (i + 2)) := by rw [show nI i + 2 = nI (i + 2) from nI_add i 2]; exact iv_sc (by omega) hs
theorem iv_s3 {sc : Nat × (Nat → Int32)} {i : Nat} (hs : sc.1 ≤ 3072) (hi : i + 6 ≤ sc.1) : lf_sc sc (nI i + 3) = some (sc.2 (i + 3)) := by rw [show nI i + 3 = nI (i + 3) from nI_add i 3]; exact iv_sc (by omega) hs
theorem iv_s4 {sc : Nat × (Nat → Int32)} {i : Nat} (hs : sc.1 ≤ 3072) (hi : i + 6 ≤ sc.1) : lf_sc sc (nI i + 4) = some (sc.2 (i + 4)) := by rw [show nI i + 4 = nI (i + 4) from nI_add i 4]; exact iv_sc (by omega) hs
theorem iv_s5 {sc : Nat × (Nat → Int32)} {i : Nat} (hs : sc.1 ≤ 3072) (hi : i + 6 ≤ sc.1) : lf_sc sc (nI i + 5) = some (sc.2 (i + 5)) := by rw [show nI i + 5 = nI (i + 5) from nI_add i 5]; exact iv_sc (by omega) hs
/-- case 5: fault -/
theorem case_fault {J : iv_J} {rd : iv_rd} : iv_case J rd g327_572 := by
  intro sc i σ cs hs hi hI
  refine ⟨hp_wf σ 72 0 0, cs, hI.kept (iv_kept.wm (by omega)), Nat.le_add_right _ _, Nat.le_add_right _ _, fun N hN k23 => ?_⟩
  have e1 : f135 N 0 (hp σ, cs) = some (.inl (some (.int (σ.2.2.1 20 6))), (hp σ, cs)) := by
    unfold f135
    rw [hp_fr (a := 0) (b := 20) rfl rfl, Option.bind_some, hp_fi rfl rfl]
    rfl
  have e2 : f206 N 72 (hp σ, cs) = some (.inl (some (.int (σ.2.2.1 72 10))), (hp (hp_wf σ 72 0 0), cs)) := by
    unfold f206
    rw [hp_swf rfl rfl rfl, Option.bind_some, hp_fi rfl rfl, Option.bind_some, hp_wf_ne (by decide)]
  unfold g327_572
  rw [if_pos hp_x, e1, lf_ci_r, if_pos hp_m, e2, lf_ci_r, if_pos (show σ.2.2.1 20 6 = σ.2.2.1 72 10 from hI.2.2.1)]
  rfl
