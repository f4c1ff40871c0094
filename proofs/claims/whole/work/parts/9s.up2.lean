/-! the class spreads upward, then downward -/
theorem us_congr {f g : Nat → Int32} {x : Int32} (h : ∀ j, bt x j = true → f j = g j) : us f x = us g x := b_eq (fun i => by
  rw [us_bt, us_bt]
  constructor
  · rintro ⟨j, z1, z2⟩
    exact ⟨j, z1, h j z1 ▸ z2⟩
  · rintro ⟨j, z1, z2⟩
    exact ⟨j, z1, (h j z1).symm ▸ z2⟩)
section UQ
variable {P D : Nat → Int32} {a n N : Nat} {cs : Nat × Nat}
/-- r is the greatest of b0 and what F has on the places where p holds -/
def uM (p : Nat → Prop) (F : Nat → Nat) (b0 r : Nat) : Prop := b0 ≤ r ∧ (∀ w, p w → F w ≤ r) ∧ (r = b0 ∨ ∃ w, p w ∧ r = F w)
theorem uM_eq {p : Nat → Prop} {F : Nat → Nat} {b0 r s : Nat} (h : uM p F b0 r) (k : uM p F b0 s) : r = s := by
  obtain ⟨h1, h2, h3⟩ := h
  obtain ⟨k1, k2, k3⟩ := k
  have q1 : r ≤ s := by
    rcases h3 with z | ⟨w, z1, z2⟩
    · omega
    · have := k2 w z1; omega
  have q2 : s ≤ r := by
    rcases k3 with z | ⟨w, z1, z2⟩
    · omega
    · have := h2 w z1; omega
  omega
theorem c_spr (hn : n ≤ 24) (hN : iv_N N) (hP : ∀ j i, bt (P j) i = true → i < n) (hD : ∀ j i, bt (D j) i = true → i < n) (hAll : ∀ w, w < n → bt (uS P D a 48) w = true) {b0 c0 : Nat} (hb0 : b0 ≤ 48) (hc0 : c0 ≤ 100000) : ∀ (m t u : Nat) (x2 x3 x4 x5 : Int32) (σ : hp_S) (r : Nat), t + m = 48 → m + 1 < u → uI P D a t x2 x3 x4 x5 → (∀ i, bt x2 i = true → i < n) → (∀ i, bt x3 i = true → i < n) → (¬ (x4 ||| x5) = 0 → t + 1 ≤ i_pc x2 + i_pc x3) → (∀ k, k < n → σ.1 70 k = P k) → (∀ k, k < n → σ.1 71 k = D k) → σ.2.2.1 61 13 = nI r → σ.2.2.1 61 14 = nI (c0 + sm (fun w => if bt (uS P D a t) w = true then fsw P D a w else 0) n) → uM (fun w => bt (uS P D a t) w = true) (fsw P D a) b0 r → ∃ (τ : hp_S) (r' : Nat), fr [] [(61, 13), (61, 14)] σ τ ∧ τ.2.2.1 61 13 = nI r' ∧ τ.2.2.1 61 14 = nI (c0 + sm (fsw P D a) n) ∧ uM (fun w => w < n) (fsw P D a) b0 r' ∧ g128_15 N u 61 x2 x3 x4 x5 (nI (t + 1)) (hp σ, cs) = some (.inl none, (hp τ, cs)) := by
  intro m
  have stop : ∀ (t : Nat) (x2 x3 x4 x5 : Int32) (r : Nat), t ≤ 48 → uI P D a t x2 x3 x4 x5 → (∀ i, bt x2 i = true → i < n) → (∀ i, bt x3 i = true → i < n) → (x4 ||| x5) = 0 → uM (fun w => bt (uS P D a t) w = true) (fsw P D a) b0 r → sm (fun w => if bt (uS P D a t) w = true then fsw P D a w else 0) n = sm (fsw P D a) n ∧ uM (fun w => w < n) (fsw P D a) b0 r := by
    intro t x2 x3 x4 x5 r ht h h2 h3 h0 hr
    have z := b_nothing.mp h0
    have st := uI_still h (fun i q => z i (b_or_iff.mpr (Or.inl q))) (fun i q => z i (b_or_iff.mpr (Or.inr q))) (48 - t)
    rw [show t + (48 - t) = 48 by omega] at st
    have all : ∀ w, bt (uS P D a t) w = true ↔ w < n := fun w => ⟨fun q => by
      rcases (h.2.1 w).mpr q with y | y
      · exact h2 w y
      · exact h3 w y, fun q => (st w).2 (hAll w q)⟩
    refine ⟨sm_congr (fun k hk => if_pos ((all k).mpr hk)), hr.1, fun w hw => hr.2.1 w ((all w).mpr hw), ?_⟩
    rcases hr.2.2 with y | ⟨w, y1, y2⟩
    · exact Or.inl y
    · exact Or.inr ⟨w, (all w).mp y1, y2⟩
  have pcb : ∀ x : Int32, (∀ i, bt x i = true → i < n) → i_pc x ≤ 24 := fun x h => i_pc_max (by omega) (fun i hi => by have := h i hi; omega)
  induction m with
  | zero =>
    intro t u x2 x3 x4 x5 σ r ht hu h h2 h3 hpc e70 e71 e13 e14 hr
    obtain ⟨u, rfl⟩ : ∃ q, u = q + 1 := ⟨u - 1, by omega⟩
    have h0 : (x4 ||| x5) = 0 := by
      apply Classical.byContradiction
      intro z
      have := hpc z
      have := pcb x2 h2
      have := pcb x3 h3
      omega
    obtain ⟨s1, s2⟩ := stop t x2 x3 x4 x5 r (by omega) h h2 h3 h0 hr
    refine ⟨σ, r, fr.rf, e13, by rw [e14, s1], s2, ?_⟩
    unfold g128_15
    rw [if_pos (show (48 : Int32) < nI (t + 1) from nI_lt (a := 48) (by omega) (by omega))]
  | succ m ih =>
    intro t u x2 x3 x4 x5 σ r ht hu h h2 h3 hpc e70 e71 e13 e14 hr
    obtain ⟨u, rfl⟩ : ∃ q, u = q + 1 := ⟨u - 1, by omega⟩
    by_cases h0 : (x4 ||| x5) = 0
    · obtain ⟨s1, s2⟩ := stop t x2 x3 x4 x5 r (by omega) h h2 h3 h0 hr
      refine ⟨σ, r, fr.rf, e13, by rw [e14, s1], s2, ?_⟩
      unfold g128_15
      rw [if_neg (show ¬ (48 : Int32) < nI (t + 1) from nI_nlt (a := 48) (by omega) (by omega)), if_pos h0]
    have b4 : ∀ i, bt x4 i = true → i < n := fun i z => h2 i (h.2.2.1 i z)
    have b5 : ∀ i, bt x5 i = true → i < n := fun i z => by
      rcases h.2.2.2.1 i z with y | y
      · exact h2 i y
      · exact h3 i y
    have b45 : ∀ i, bt (x4 ||| x5) i = true → i < n := fun i z => by
      rcases b_or_iff.mp z with z | z
      · exact b4 i z
      · exact b5 i z
    have f1 := c_union (σ := σ) (cs := cs) (f := σ.1 71) (N := N) (r := 71) (n0 := 24) rfl (by omega) (fun _ _ => rfl) hN (x := x4 ||| x5) (fun i z => by have := b45 i z; omega)
    have f2 := c_union (σ := σ) (cs := cs) (f := σ.1 70) (N := N) (r := 70) (n0 := 24) rfl (by omega) (fun _ _ => rfl) hN (x := x4) (fun i z => by have := b4 i z; omega)
    rw [us_congr (fun j z => e71 j (b45 j z))] at f1
    rw [us_congr (fun j z => e70 j (b4 j z))] at f2
    have hnu : ∀ i, bt (nuE (us P x4) x2) i = true ↔ (∃ k, bt x4 k = true ∧ bt (P k) i = true) ∧ ¬ bt x2 i = true := fun i => by
      unfold nuE
      rw [b_andn, us_bt]
    have hnd : ∀ i, bt (ndE (us D (x4 ||| x5)) x2 x3 (nuE (us P x4) x2)) i = true ↔ ((∃ k, (bt x4 k = true ∨ bt x5 k = true) ∧ bt (D k) i = true) ∧ ¬ (bt x2 i = true ∨ bt (nuE (us P x4) x2) i = true)) ∧ ¬ bt x3 i = true := fun i => by
      unfold ndE
      rw [b_andn, b_andn, us_bt, b_or_iff]
      simp only [b_or_iff]
    obtain ⟨s1, s2⟩ := uI_step h hnu hnd
    generalize hgu : nuE (us P x4) x2 = nu at *
    generalize hgd : ndE (us D (x4 ||| x5)) x2 x3 nu = nd at *
    have hfr : ∀ i, bt (frE nu nd x2 x3) i = true ↔ bt (uS P D a (t + 1)) i = true ∧ ¬ bt (uS P D a t) i = true := fun i => by
      rw [← s2 i]
      unfold frE
      rw [b_andn, b_or_iff, b_or_iff]
    have bnu : ∀ i, bt nu i = true → i < n := fun i z => by
      obtain ⟨⟨k, _, k2⟩, -⟩ := (hnu i).mp z
      exact hP k i k2
    have bnd : ∀ i, bt nd i = true → i < n := fun i z => by
      obtain ⟨⟨⟨k, _, k2⟩, -⟩, -⟩ := (hnd i).mp z
      exact hD k i k2
    have bfr : ∀ i, bt (frE nu nd x2 x3) i = true → i < n := fun i z => by
      unfold frE at z
      rcases b_or_iff.mp (b_andn.mp z).1 with y | y
      · exact bnu i y
      · exact bnd i y
    have ssum := sm_new (P := P) (D := D) (a := a) hn (by omega) hfr bfr
    have h2' : ∀ i, bt (x2 ||| nu) i = true → i < n := fun i z => by
      rcases b_or_iff.mp z with z | z
      · exact h2 i z
      · exact bnu i z
    have h3' : ∀ i, bt (x3 ||| nd) i = true → i < n := fun i z => by
      rcases b_or_iff.mp z with z | z
      · exact h3 i z
      · exact bnd i z
    have pcs : ¬ (nu ||| nd) = 0 → t + 1 + 1 ≤ i_pc (x2 ||| nu) + i_pc (x3 ||| nd) := by
      intro z
      have q0 := hpc h0
      have q1 : i_pc x2 ≤ i_pc (x2 ||| nu) := i_pc_le (fun i y => b_or_iff.mpr (Or.inl y))
      have q2 : i_pc x3 ≤ i_pc (x3 ||| nd) := i_pc_le (fun i y => b_or_iff.mpr (Or.inl y))
      obtain ⟨i, hi⟩ : ∃ i, bt (nu ||| nd) i = true := Classical.byContradiction (fun y => z (b_nothing.mpr (fun i q => y ⟨i, q⟩)))
      rcases b_or_iff.mp hi with y | y
      · have : i_pc x2 < i_pc (x2 ||| nu) := i_pc_lt (fun i y => b_or_iff.mpr (Or.inl y)) (i := i) (by simpa using ((hnu i).mp y).2) (b_or_iff.mpr (Or.inr y))
        omega
      · have : i_pc x3 < i_pc (x3 ||| nd) := i_pc_lt (fun i y => b_or_iff.mpr (Or.inl y)) (i := i) (by simpa using ((hnd i).mp y).2) (b_or_iff.mpr (Or.inr y))
        omega
    have fle : ∀ w, bt (uS P D a (t + 1)) w = true → fsw P D a w ≤ t + 1 := fun w z => (fsw_iff (by omega)).mp z
    have hr48 : r ≤ 48 := by
      rcases hr.2.2 with z | ⟨w, z1, z2⟩
      · omega
      · have : fsw P D a w ≤ t := (fsw_iff (by omega)).mp z1
        omega
    have ssle : sm (fun w => if bt (uS P D a t) w = true then fsw P D a w else 0) n ≤ 24 * 48 := by
      refine Nat.le_trans (sm_le (G := fun _ => 48) (fun k hk => ?_)) (by rw [sm_c]; exact Nat.mul_le_mul_right 48 hn)
      by_cases c : bt (uS P D a t) k = true
      · rw [if_pos c]
        have : fsw P D a k ≤ t := (fsw_iff (by omega)).mp c
        omega
      · rw [if_neg c]; omega
    have pcf := pcb _ bfr
    obtain ⟨r1, hr1, er1⟩ : ∃ r1, uM (fun w => bt (uS P D a (t + 1)) w = true) (fsw P D a) b0 r1 ∧ (if frE nu nd x2 x3 = 0 then nI r else lf_max (nI r) (nI (t + 1))) = nI r1 := by
      by_cases c : frE nu nd x2 x3 = 0
      · refine ⟨r, ⟨hr.1, fun w z => ?_, ?_⟩, if_pos c⟩
        · by_cases y : bt (uS P D a t) w = true
          · exact hr.2.1 w y
          · exact absurd ((hfr w).mpr ⟨z, y⟩) (b_nothing.mp c w)
        · rcases hr.2.2 with z | ⟨w, z1, z2⟩
          · exact Or.inl z
          · exact Or.inr ⟨w, uS_s.mpr (Or.inl z1), z2⟩
      · obtain ⟨i, hi⟩ : ∃ i, bt (frE nu nd x2 x3) i = true := Classical.byContradiction (fun y => c (b_nothing.mpr (fun i q => y ⟨i, q⟩)))
        obtain ⟨i1, i2⟩ := (hfr i).mp hi
        have i3 := fle i i1
        have i4 : ¬ fsw P D a i ≤ t := fun z => i2 ((fsw_iff (by omega)).mpr z)
        refine ⟨if r < t + 1 then t + 1 else r, ⟨?_, fun w z => ?_, ?_⟩, by rw [if_neg c, max_nI (by omega) (by omega)]⟩
        · have := hr.1
          split <;> omega
        · have := fle w z
          split <;> omega
        · by_cases y : r < t + 1
          · rw [if_pos y]
            exact Or.inr ⟨i, i1, by omega⟩
          · rw [if_neg y]
            rcases hr.2.2 with z | ⟨w, z1, z2⟩
            · exact Or.inl z
            · exact Or.inr ⟨w, uS_s.mpr (Or.inl z1), z2⟩
    obtain ⟨τ, r', t1, t2, t3, t4, t5⟩ := ih (t + 1) u (x2 ||| nu) (x3 ||| nd) nu nd (hp_wf (hp_wf σ 61 14 (nI (c0 + sm (fun w => if bt (uS P D a (t + 1)) w = true then fsw P D a w else 0) n))) 61 13 (nI r1)) r1 (by omega) (by omega) s1 h2' h3' pcs e70 e71 hp_wf_at (by rw [hp_wf_ne (by decide), hp_wf_at]) hr1
    refine ⟨τ, r', ((fr.wf (by decide)).tr (fr.wf (by decide))).tr t1, t2, t3, t4, ?_⟩
    rw [← t5]
    have pre : g128_15 N (u + 1) 61 x2 x3 x4 x5 (nI (t + 1)) (hp σ, cs) = if frE nu nd x2 x3 = 0 then g128_137 N (g128_15 N u) 61 (x2 ||| nu) (x3 ||| nd) nu nd (nI (t + 1)) (nI r) 61 (hp (hp_wf σ 61 14 (nI (c0 + sm (fun w => if bt (uS P D a (t + 1)) w = true then fsw P D a w else 0) n))), cs) else g128_137 N (g128_15 N u) 61 (x2 ||| nu) (x3 ||| nd) nu nd (nI (t + 1)) (lf_max (nI r) (nI (t + 1))) 61 (hp (hp_wf σ 61 14 (nI (c0 + sm (fun w => if bt (uS P D a (t + 1)) w = true then fsw P D a w else 0) n))), cs) := by
      rw [g128_15]
      rw [if_neg (show ¬ (48 : Int32) < nI (t + 1) from nI_nlt (a := 48) (by omega) (by omega)), if_neg h0, r61_12, f1, lf_nest_r, lf_ci_r, r61_11, f2, lf_nest_r, lf_ci_r, i61_14, e14]
      rw [show us P x4 &&& (x2 ^^^ (-1)) = nu from hgu, show us D (x4 ||| x5) &&& ((x2 ||| nu) ^^^ (-1)) &&& (x3 ^^^ (-1)) = nd from hgd, show (nu ||| nd) &&& ((x2 ||| x3) ^^^ (-1)) = frE nu nd x2 x3 from rfl, c_pc, lf_ci_r, pk_mul, nI_add, w61_14, Nat.add_assoc, ← ssum, i61_13, hp_wf_ne (by decide), e13, i61_13, hp_wf_ne (by decide), e13]
    rw [pre, ← er1]
    by_cases c : frE nu nd x2 x3 = 0
    · rw [if_pos c, if_pos c]
      unfold g128_137
      rw [w61_13, nI_1]
    · rw [if_neg c, if_neg c]
      unfold g128_137
      rw [w61_13, nI_1]
end UQ
