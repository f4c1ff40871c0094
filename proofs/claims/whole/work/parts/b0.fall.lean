/-! falls -/
theorem lq_nd {f : Nat → Int32} {n : Nat} : ∀ (m a : Nat), a + m = n → (lq f n a m).Nodup
  | 0, _, _ => List.nodup_nil
  | m + 1, a, h => by
    show ((hl f n a).map (fun b => (a, b)) ++ lq f n (a + 1) m).Nodup
    rw [List.nodup_append]
    refine ⟨?_, lq_nd m (a + 1) (by omega), fun p hp q hq e => ?_⟩
    · have h1 : (hl f n a).Nodup := List.Nodup.sublist List.filter_sublist List.nodup_range'
      exact List.Pairwise.map _ (fun x y hxy e => hxy (Prod.mk.inj e).2) h1
    · obtain ⟨b, hb, rfl⟩ := List.mem_map.mp hp
      have := lq_mem m (a + 1) (by omega) hq
      rw [← e] at this
      have := this.1
      (try dsimp only at this)
      omega
theorem lp_ne {f : Nat → Int32} {n i j : Nat} (hij : i < j) (hj : j < (lq f n 0 n).length) : lp (lq f n 0 n) i ≠ lp (lq f n 0 n) j := by
  have h := List.pairwise_iff_getElem.mp (lq_nd (f := f) n 0 (Nat.zero_add n)) i j (by omega) hj hij
  have e1 := lp_get (L := lq f n 0 n) (i := i) (by omega)
  have e2 := lp_get (L := lq f n 0 n) (i := j) hj
  rw [List.getElem?_eq_getElem (by omega)] at e1 e2
  rw [← Option.some.inj e1, ← Option.some.inj e2]
  exact h
/-- FAR and one more, or 101 -/
def gv (f : Nat → Int32) (A : Int32) : Nat := (if dS f A 23 = 0 then gF f A else 100) + 1
theorem gv_le {f : Nat → Int32} {A : Int32} : gv f A ≤ 101 := by
  have := gF_le (f := f) (A := A)
  unfold gv
  split <;> omega
def iB (b : Nat) : Int32 := if b = 0 then -1 else nI (b - 1)
theorem iB_s (b : Nat) : iB (b + 1) = nI b := by unfold iB; rw [if_neg (by omega)]; rfl
theorem iB_le {b c : Nat} (hb : b ≤ 101) (hc : c ≤ 100) : (nI c ≤ iB b) = (c + 1 ≤ b) := by
  unfold iB
  by_cases h : b = 0
  · rw [if_pos h]
    apply propext
    constructor
    · intro q
      rw [fa_le, nI_toInt (by omega)] at q
      have : (-1 : Int32).toInt = -1 := rfl
      rw [this] at q
      omega
    · intro q; omega
  · rw [if_neg h, q_le (by omega) (by omega)]
    exact propext ⟨fun q => by omega, fun q => by omega⟩
theorem iB_lt {b c : Nat} (hb : b ≤ 101) (hc : c ≤ 100) : (iB b < nI c) = (b < c + 1) := by
  unfold iB
  by_cases h : b = 0
  · rw [if_pos h]
    apply propext
    constructor
    · intro q; omega
    · intro q
      rw [fa_lt, nI_toInt (by omega)]
      have : (-1 : Int32).toInt = -1 := rfl
      rw [this]
      omega
  · rw [if_neg h, q_lt (by omega) (by omega)]
    exact propext ⟨fun q => by omega, fun q => by omega⟩
abbrev fcf : Type := Int32 × (Nat → Int32)
/-- one thing falls -/
def fp (k : Nat) (L : List (Nat × Nat)) (i : Nat) (c : fcf) : fcf := if k = 1 then (c.1 ^^^ lf_shl 1 (nI i), c.2) else (c.1, fl_r c.2 (lp L i).1 (lp L i).2)
def fcg (k : Nat) (L : List (Nat × Nat)) (c : fcf) (i j : Nat) : fcf := if i = j then fp k L i c else fp k L j (fp k L i c)
def vv (k : Nat) (L : List (Nat × Nat)) (c : fcf) (i j : Nat) : Nat := gv (fcg k L c i j).2 (fcg k L c i j).1
abbrev fq : Type := Nat × Nat × Nat
def fb (v : Nat → Nat → Nat) (i j : Nat) (q : fq) : fq := if q.1 < v i j then (v i j, i, j) else q
def fin (v : Nat → Nat → Nat) (i : Nat) : Nat → Nat → fq → fq
  | 0, _, q => q
  | m + 1, j, q => fin v i m (j + 1) (fb v i j q)
def fbd (v : Nat → Nat → Nat) (M T i : Nat) (q : fq) : fq := if M = 1 then fb v i i q else fin v i (T - (i + 1)) (i + 1) q
def fout (v : Nat → Nat → Nat) (M T : Nat) : Nat → Nat → fq → fq
  | 0, _, q => q
  | m + 1, i, q => fout v M T m (i + 1) (fbd v M T i q)
section FP
variable {v : Nat → Nat → Nat} {i : Nat}
theorem fb_le (hv : ∀ i j, v i j ≤ 101) {j : Nat} {q : fq} (h : q.1 ≤ 101) : (fb v i j q).1 ≤ 101 := by
  unfold fb
  split
  · exact hv i j
  · exact h
theorem fin_le (hv : ∀ i j, v i j ≤ 101) : ∀ (m j : Nat) (q : fq), q.1 ≤ 101 → (fin v i m j q).1 ≤ 101
  | 0, _, _, h => h
  | m + 1, j, q, h => fin_le hv m (j + 1) _ (fb_le hv h)
theorem fb_top (hv : ∀ i j, v i j ≤ 101) {j : Nat} {q : fq} (h : q.1 = 101) : fb v i j q = q := by
  unfold fb
  rw [if_neg (by have := hv i j; omega)]
theorem fin_top (hv : ∀ i j, v i j ≤ 101) : ∀ (m j : Nat) (q : fq), q.1 = 101 → fin v i m j q = q
  | 0, _, _, _ => rfl
  | m + 1, j, q, h => by
    show fin v i m (j + 1) (fb v i j q) = q
    rw [fb_top hv h]
    exact fin_top hv m (j + 1) q h
theorem fbd_top (hv : ∀ i j, v i j ≤ 101) {M T i : Nat} {q : fq} (h : q.1 = 101) : fbd v M T i q = q := by
  unfold fbd
  split
  · exact fb_top hv h
  · exact fin_top hv _ _ q h
theorem fout_top (hv : ∀ i j, v i j ≤ 101) {M T : Nat} : ∀ (m i : Nat) (q : fq), q.1 = 101 → fout v M T m i q = q
  | 0, _, _, _ => rfl
  | m + 1, i, q, h => by
    show fout v M T m (i + 1) (fbd v M T i q) = q
    rw [fbd_top hv h]
    exact fout_top hv m (i + 1) q h
theorem fbd_le (hv : ∀ i j, v i j ≤ 101) {M T i : Nat} {q : fq} (h : q.1 ≤ 101) : (fbd v M T i q).1 ≤ 101 := by
  unfold fbd
  split
  · exact fb_le hv h
  · exact fin_le hv _ _ q h
theorem fb_pos (hv : ∀ i j, 1 ≤ v i j) {j : Nat} {q : fq} : 1 ≤ (fb v i j q).1 := by
  unfold fb
  by_cases c : q.1 < v i j
  · rw [if_pos c]; exact hv i j
  · rw [if_neg c]; have := hv i j; omega
theorem fb_mono {j : Nat} {q : fq} : q.1 ≤ (fb v i j q).1 := by
  unfold fb
  by_cases c : q.1 < v i j
  · rw [if_pos c]; exact Nat.le_of_lt c
  · rw [if_neg c]; exact Nat.le_refl _
theorem fin_mono : ∀ (m j : Nat) (q : fq), q.1 ≤ (fin v i m j q).1
  | 0, _, _ => Nat.le_refl _
  | m + 1, j, q => Nat.le_trans fb_mono (fin_mono m (j + 1) (fb v i j q))
theorem fbd_mono {M T i : Nat} {q : fq} : q.1 ≤ (fbd v M T i q).1 := by
  unfold fbd
  split
  · exact fb_mono
  · exact fin_mono _ _ q
theorem fout_mono {M T : Nat} : ∀ (m i : Nat) (q : fq), q.1 ≤ (fout v M T m i q).1
  | 0, _, _ => Nat.le_refl _
  | m + 1, i, q => Nat.le_trans fbd_mono (fout_mono m (i + 1) (fbd v M T i q))
/-- something is found -/
theorem fout_pos (hv : ∀ i j, 1 ≤ v i j) {M T : Nat} (h1 : 1 ≤ M) (h2 : M ≤ 2) (hT : M ≤ T) (q : fq) : 1 ≤ (fout v M T T 0 q).1 := by
  obtain ⟨T', rfl⟩ : ∃ t, T = t + 1 := ⟨T - 1, by omega⟩
  show 1 ≤ (fout v M (T' + 1) T' 1 (fbd v M (T' + 1) 0 q)).1
  refine Nat.le_trans ?_ (fout_mono T' 1 _)
  unfold fbd
  by_cases c : M = 1
  · rw [if_pos c]; exact fb_pos hv
  · rw [if_neg c]
    obtain ⟨t, rfl⟩ : ∃ t, T' = t + 1 := ⟨T' - 1, by omega⟩
    show 1 ≤ (fin v 0 t 2 (fb v 0 1 q)).1
    exact Nat.le_trans (fb_pos hv) (fin_mono t 2 _)
end FP
theorem hp_scp2 {σ : hp_S} {cs : Nat × Nat} : lf_cp (hp σ, cs) 55 0 56 0 2 = some (hp (hp_fill σ 56 2 (σ.1 55)), cs) := by
  have ha : hp_lay[56]? = some (0, 2, [], []) := rfl
  have hb : hp_lay[55]? = some (0, 2, [], []) := rfl
  unfold lf_cp
  rw [hp_ia hb, Option.bind_some, hp_ia ha, Option.bind_some, if_pos ⟨by decide, by decide, by decide, by show (0 : Int32).toNatClampNeg + (2 : Int32).toNatClampNeg ≤ 2; decide, by show (0 : Int32).toNatClampNeg + (2 : Int32).toNatClampNeg ≤ 2; decide⟩]
  congr 2
  refine hp_chg ha ?_ (fun c p hc _ => hp_c_eq (hp_fill_ne hc) rfl rfl rfl)
  show (Sum.inl (0, 2, (hp_fill σ 56 2 (σ.1 55)).1 56) : pm_C) = _
  congr 3
  funext j
  show (if 56 = 56 ∧ j < 2 then σ.1 55 j else σ.1 56 j) = (if (0 : Int32).toNatClampNeg ≤ j ∧ j < (0 : Int32).toNatClampNeg + (2 : Int32).toNatClampNeg then σ.1 55 ((0 : Int32).toNatClampNeg + (j - (0 : Int32).toNatClampNeg)) else σ.1 56 j)
  rw [show (0 : Int32).toNatClampNeg = 0 by decide, show (2 : Int32).toNatClampNeg = 2 by decide]
  by_cases h : j < 2
  · rw [if_pos ⟨rfl, h⟩, if_pos ⟨by omega, by omega⟩, show 0 + (j - 0) = j by omega]
  · rw [if_neg (fun q => h q.2), if_neg (fun q => h (by omega))]
theorem fr.fill {A : List Nat} {F : List (Nat × Nat)} {σ : hp_S} {a m : Nat} {g : Nat → Int32} (h : a ∈ A) : fr A F σ (hp_fill σ a m g) := ⟨fun b hb => ⟨hp_fill_ne (fun q => hb (q ▸ h)), rfl⟩, fun _ _ _ => ⟨rfl, rfl⟩⟩
theorem a54x {σ : hp_S} {cs : Nat × Nat} {L : List (Nat × Nat)} {i : Nat} {g : Int32 → lf_R} (h : lnC σ 54 L) (hi : i < L.length ∧ L.length ≤ 96) : (lf_ri (hp σ, cs) 54 (nI i)).bind g = g (nI (32 * (lp L i).1 + (lp L i).2)) := by rw [a54 (by omega), h i (lp L i).1 (lp L i).2 (lp_get hi.1)]
section FL
variable {cs : Nat × Nat} {N n d s : Nat}
abbrev fA : List Nat := [30, 31, 55, 56]
abbrev fF : List (Nat × Nat) := [(29, 0), (29, 1), (29, 3), (29, 4), (53, 8), (53, 9)]
/-- what the class holds of the best choice -/
def CQ (M : Nat) (σ : hp_S) (q : fq) : Prop := σ.2.2.1 53 9 = iB q.1 ∧ (q.1 ≠ 0 → (1 ≤ M → σ.1 56 0 = nI q.2.1) ∧ (M = 2 → σ.1 56 1 = nI q.2.2))
/-- where the class stands -/
def CC (k M T s : Nat) (L : List (Nat × Nat)) (σ : hp_S) (c : fcf) : Prop := σ.2.2.1 53 5 = nI k ∧ σ.2.2.1 53 6 = nI M ∧ σ.2.2.1 53 7 = nI T ∧ σ.2.2.1 53 8 = c.1 ∧ (∀ j, j < 24 → σ.1 (3 + 2 * s) j = c.2 j) ∧ lnC σ 54 L ∧ σ.2.2.2 29 0 = σ.2.2.2 29 1
theorem CC.fr {k M T : Nat} {L : List (Nat × Nat)} {σ τ : hp_S} {c : fcf} (h : CC k M T s L σ c) (hs : s < 8) (w : fr fA fF σ τ) (h8 : τ.2.2.1 53 8 = c.1) (hsw : τ.2.2.2 29 0 = τ.2.2.2 29 1) : CC k M T s L τ c := by
  refine ⟨by rw [w.f (by decide)]; exact h.1, by rw [w.f (by decide)]; exact h.2.1, by rw [w.f (by decide)]; exact h.2.2.1, h8, fun j hj => by rw [w.r (by simp; omega)]; exact h.2.2.2.2.1 j hj, fun i a b z => by rw [w.r (by decide)]; exact h.2.2.2.2.2.1 i a b z, hsw⟩
/-- judge -/
theorem c_jdg {k M T i j : Nat} {L : List (Nat × Nat)} {σ : hp_S} {c : fcf} {q : fq} {v : Nat → Nat → Nat} (hs : s < 8) (hN : iv_N N) (hA : ∀ i, bt c.1 i = true → i < 24) (hA0 : ¬ c.1 = 0) (h : CC k M T s L σ c) (hq : q.1 ≤ 101) (hQ : CQ M σ q) (hv : v i j = gv c.2 c.1) (h0 : 1 ≤ M → σ.1 55 0 = nI i) (h1 : M = 2 → σ.1 55 1 = nI j) : ∃ τ, fr fA fF σ τ ∧ CC k M T s L τ c ∧ τ.1 55 = σ.1 55 ∧ CQ M τ (fb v i j q) ∧ f20 N 53 (2 + 2 * s) (hp σ, cs) = some (.inl none, (hp τ, cs)) := by
  obtain ⟨τ, p, t1, t2, t3, t4, t5, t6⟩ := c_price (σ := σ) (cs := cs) (N := N) (r := 3 + 2 * s) (f := c.2) (A := c.1) (L := 2000000) (lay_row hs) (by omega) hA hA0 hN (by omega) h.2.2.2.2.1 h.2.2.2.2.2.2
  have hp9 := t3 (by have := gPr_max (f := c.2) (A := c.1); omega)
  rw [hp9.1] at t6
  have w1 : fr fA fF σ τ := t1.wk (fun _ z => by simp at z; rcases z with z | z <;> simp [z]) (fun _ z => by simp at z; rcases z with z | z | z | z <;> simp [z])
  have hC := h.fr hs w1 (by rw [t1.f (by decide)]; exact h.2.2.2.1) t2
  have t6' : f107 N 29 (3 + 2 * s) c.1 2000000 (hp σ, cs) = some (.inl (some (.int (nI (gPr c.2 c.1)))), (hp τ, cs)) := t6
  have e9 : τ.2.2.1 53 9 = iB q.1 := by rw [t1.f (by decide)]; exact hQ.1
  have r55 : τ.1 55 = σ.1 55 := t1.r (by decide)
  have r56 : τ.1 56 = σ.1 56 := t1.r (by decide)
  have pre : f20 N 53 (2 + 2 * s) (hp σ, cs) = g20_44 N 53 (nI (v i j - 1)) (hp τ, cs) := by
    unfold f20 g20_27
    rw [r53_0, sN_r hs, i53_8, h.2.2.2.1, o29, t6', lf_ci_r, hv]
    by_cases g : dS c.2 c.1 23 = 0
    · have := gPr_joined g
      rw [if_pos (show ¬ nI (gPr c.2 c.1) = 1000000 from by rw [show (1000000 : Int32) = nI 1000000 from rfl, q_eq (by omega) (by omega)]; omega), if_pos rfl, r53_0, i29_3, (hp9.2 g).1]
      unfold gv
      rw [if_pos g, Nat.add_sub_cancel]
    · rw [if_neg (show ¬ ¬ nI (gPr c.2 c.1) = 1000000 from fun z => z (by unfold gPr; rw [if_neg g]; rfl)), if_neg (by decide)]
      unfold gv
      rw [if_neg g]
      rfl
  have hv1 : 1 ≤ v i j := by rw [hv]; unfold gv; omega
  have hv2 : v i j ≤ 101 := by rw [hv]; exact gv_le
  have iff1 : (nI (v i j - 1) ≤ iB q.1) = (v i j ≤ q.1) := by
    rw [iB_le hq (by omega)]
    exact propext ⟨fun z => by omega, fun z => by omega⟩
  by_cases g : q.1 < v i j
  · have efb : fb v i j q = (v i j, i, j) := by unfold fb; rw [if_pos g]
    refine ⟨hp_fill (hp_wf τ 53 9 (nI (v i j - 1))) 56 2 (τ.1 55), w1.tr ((fr.wf (by decide)).tr (fr.fill (by decide))), hC.fr hs ((fr.wf (by decide)).tr (fr.fill (by decide))) hC.2.2.2.1 hC.2.2.2.2.2.2, ?_, ?_, ?_⟩
    · show (hp_fill (hp_wf τ 53 9 (nI (v i j - 1))) 56 2 (τ.1 55)).1 55 = _
      rw [hp_fill_ne (by decide)]
      exact r55
    · rw [efb]
      refine ⟨?_, fun _ => ⟨fun z => ?_, fun z => ?_⟩⟩
      · show (hp_wf τ 53 9 (nI (v i j - 1))).2.2.1 53 9 = _
        rw [hp_wf_at]
        unfold iB
        rw [if_neg (by show ¬ v i j = 0; omega)]
      · rw [hp_fill_at (by omega), r55]; exact h0 z
      · rw [hp_fill_at (by omega), r55]; exact h1 z
    · rw [pre]
      unfold g20_44
      rw [i53_9, e9, if_neg (by rw [iff1]; omega), w53_9, r53_2, r53_3, hp_scp2]
      rfl
  · have efb : fb v i j q = q := by unfold fb; rw [if_neg g]
    refine ⟨τ, w1, hC, r55, ?_, ?_⟩
    · rw [efb]
      exact ⟨e9, fun z => ⟨fun y => by rw [r56]; exact (hQ.2 z).1 y, fun y => by rw [r56]; exact (hQ.2 z).2 y⟩⟩
    · rw [pre]
      unfold g20_44
      rw [i53_9, e9, if_pos (by rw [iff1]; omega)]
/-- flip, something, flip back -/
theorem c_both {k M T i : Nat} {L : List (Nat × Nat)} {σ : hp_S} {c : fcf} {q q' : fq} (hs : s < 8) (hk : k = 0 ∨ k = 1) (hL : k = 0 → (i < L.length ∧ L.length ≤ 96) ∧ (lp L i).1 < 24 ∧ (lp L i).2 < 24 ∧ (lp L i).1 ≠ (lp L i).2) (h : CC k M T s L σ c) (hQ : CQ M σ q) {R : Nat → Int32 → Prop} (h55 : ∀ j, R j (σ.1 55 j)) {self : lf_W → lf_R} {K : lf_W → lf_R}
    (hin : ∀ σ1, CC k M T s L σ1 (fp k L i c) → CQ M σ1 q → (∀ j, R j (σ1.1 55 j)) → ∃ σ2, fr fA fF σ1 σ2 ∧ CC k M T s L σ2 (fp k L i c) ∧ CQ M σ2 q' ∧ (∀ j, R j (σ2.1 55 j)) ∧ self (hp σ1, cs) = some (.inl none, (hp σ2, cs))) :
    ∃ τ, fr fA fF σ τ ∧ CC k M T s L τ c ∧ CQ M τ q' ∧ (∀ j, R j (τ.1 55 j)) ∧ (lf_cv (f19 N 53 (2 + 2 * s) (nI i) (hp σ, cs)) fun w11 => if lf_is w11 53 1 = true then (lf_cv (self w11) fun w17 => if lf_is w17 53 1 = true then (lf_cv (f19 N 53 (2 + 2 * s) (nI i) w17) fun w23 => K w23) else none) else none) = K (hp τ, cs) := by
  rcases hk with rfl | rfl
  · obtain ⟨l1, l2, l3, l4⟩ := hL rfl
    have efp : fp 0 L i c = (c.1, fl_r c.2 (lp L i).1 (lp L i).2) := rfl
    have flip : ∀ (σ' : hp_S) (c' : fcf), CC 0 M T s L σ' c' → f19 N 53 (2 + 2 * s) (nI i) (hp σ', cs) = some (.inl none, (hp (fl2 σ' (3 + 2 * s) (lp L i).1 (lp L i).2), cs)) := by
      intro σ' c' h'
      unfold f19
      rw [i53_5, h'.1, if_pos (by rfl), r53_1, a54x h'.2.2.2.2.2.1 l1, r53_1, a54x h'.2.2.2.2.2.1 l1, (lf_rem32 l2 l3).1, (lf_rem32 l2 l3).2, sN_o hs, c_flip2 hs l2 l3 l4, lf_cv_r]
    have hC1 : CC 0 M T s L (fl2 σ (3 + 2 * s) (lp L i).1 (lp L i).2) (fp 0 L i c) := by
      rw [efp]
      refine ⟨h.1, h.2.1, h.2.2.1, h.2.2.2.1, fun j hj => by rw [fl2_at]; exact fl_congr l2 l3 h.2.2.2.2.1 j hj, fun i' a b z => ?_, h.2.2.2.2.2.2⟩
      rw [(fl2_fr (A := [3 + 2 * s]) (F := []) (σ := σ) (by simp)).r (by simp; omega)]
      exact h.2.2.2.2.2.1 i' a b z
    have e56 : (fl2 σ (3 + 2 * s) (lp L i).1 (lp L i).2).1 56 = σ.1 56 := (fl2_fr (A := [3 + 2 * s]) (F := []) (σ := σ) (by simp)).r (by simp; omega)
    have e55 : (fl2 σ (3 + 2 * s) (lp L i).1 (lp L i).2).1 55 = σ.1 55 := (fl2_fr (A := [3 + 2 * s]) (F := []) (σ := σ) (by simp)).r (by simp; omega)
    obtain ⟨σ2, b1, b2, b3, b4, b5⟩ := hin _ hC1 ⟨hQ.1, fun z => ⟨fun y => by rw [e56]; exact (hQ.2 z).1 y, fun y => by rw [e56]; exact (hQ.2 z).2 y⟩⟩ (fun j => by rw [e55]; exact h55 j)
    have w1 : fr fA fF σ (fl2 σ2 (3 + 2 * s) (lp L i).1 (lp L i).2) := fl2_back l4 (by simp; omega) b1
    have g56 : (fl2 σ2 (3 + 2 * s) (lp L i).1 (lp L i).2).1 56 = σ2.1 56 := (fl2_fr (A := [3 + 2 * s]) (F := []) (σ := σ2) (by simp)).r (by simp; omega)
    have g55 : (fl2 σ2 (3 + 2 * s) (lp L i).1 (lp L i).2).1 55 = σ2.1 55 := (fl2_fr (A := [3 + 2 * s]) (F := []) (σ := σ2) (by simp)).r (by simp; omega)
    refine ⟨fl2 σ2 (3 + 2 * s) (lp L i).1 (lp L i).2, w1, h.fr hs w1 b2.2.2.2.1 b2.2.2.2.2.2.2, ⟨b3.1, fun z => ⟨fun y => by rw [g56]; exact (b3.2 z).1 y, fun y => by rw [g56]; exact (b3.2 z).2 y⟩⟩, fun j => by rw [g55]; exact b4 j, ?_⟩
    rw [flip σ c h, lf_cv_r, o53, b5, lf_cv_r, o53, flip σ2 _ b2, lf_cv_r]
  · have efp : fp 1 L i c = (c.1 ^^^ lf_shl 1 (nI i), c.2) := rfl
    have flip : ∀ (σ' : hp_S) (c' : fcf), CC 1 M T s L σ' c' → f19 N 53 (2 + 2 * s) (nI i) (hp σ', cs) = some (.inl none, (hp (hp_wf σ' 53 8 (c'.1 ^^^ lf_shl 1 (nI i))), cs)) := by
      intro σ' c' h'
      unfold f19
      rw [i53_5, h'.1, if_neg (by decide), i53_8, h'.2.2.2.1, w53_8]
    have wf8 : ∀ (σ' : hp_S) (x : Int32), fr fA fF σ' (hp_wf σ' 53 8 x) := fun σ' x => fr.wf (by decide)
    have cc8 : ∀ (σ' : hp_S) (c' : fcf) (x : Int32), CC 1 M T s L σ' c' → CC 1 M T s L (hp_wf σ' 53 8 x) (x, c'.2) := fun σ' c' x h' => ⟨by rw [hp_wf_ne (by decide)]; exact h'.1, by rw [hp_wf_ne (by decide)]; exact h'.2.1, by rw [hp_wf_ne (by decide)]; exact h'.2.2.1, hp_wf_at, h'.2.2.2.2.1, h'.2.2.2.2.2.1, h'.2.2.2.2.2.2⟩
    obtain ⟨σ2, b1, b2, b3, b4, b5⟩ := hin (hp_wf σ 53 8 (c.1 ^^^ lf_shl 1 (nI i))) (by rw [efp]; exact cc8 σ c _ h) ⟨by rw [hp_wf_ne (by decide)]; exact hQ.1, hQ.2⟩ h55
    have eback : (fp 1 L i c).1 ^^^ lf_shl 1 (nI i) = c.1 := by rw [efp]; exact xx _ _
    refine ⟨hp_wf σ2 53 8 ((fp 1 L i c).1 ^^^ lf_shl 1 (nI i)), ((wf8 σ _).tr b1).tr (wf8 σ2 _), ?_, ⟨by rw [hp_wf_ne (by decide)]; exact b3.1, b3.2⟩, b4, ?_⟩
    · have := cc8 σ2 _ ((fp 1 L i c).1 ^^^ lf_shl 1 (nI i)) b2
      rw [eback] at this ⊢
      rw [efp] at this
      exact this
    · rw [flip σ c h, lf_cv_r, o53, b5, lf_cv_r, o53, flip σ2 _ b2, lf_cv_r]
end FL
