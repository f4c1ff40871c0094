section FW
variable {cs : Nat × Nat} {N n d s : Nat} {f : Nat → Int32}
def vFa (k M : Nat) (L : List (Nat × Nat)) (c : fcf) : Nat → Nat → Nat := fun i j => if M = 0 then gv c.2 c.1 else vv k L c i j
theorem vFa_le {k M : Nat} {L : List (Nat × Nat)} {c : fcf} (i j : Nat) : vFa k M L c i j ≤ 101 := by
  unfold vFa vv
  split <;> exact gv_le
theorem vFa_1 {k M : Nat} {L : List (Nat × Nat)} {c : fcf} (i j : Nat) : 1 ≤ vFa k M L c i j := by
  unfold vFa vv gv
  split <;> omega
theorem al_okA (h1 : 1 ≤ n) (hn : n ≤ 24) : okA (al n, f) := ⟨fun i hi => by have := (al_in hn).mp hi; omega, al_0 h1 hn⟩
theorem al_x {i j : Nat} (hn : n ≤ 24) (hi : i < n) : bt (al n ^^^ lf_shl 1 (nI i)) j = true ↔ j < n ∧ j ≠ i := by
  rw [b_xor]
  have h1 := al_in (n := n) (i := j) hn
  have h2 := b_one (v := i) (i := j) (by omega)
  by_cases c : j = i
  · have e1 := h1.mpr (show j < n by omega)
    have e2 := h2.mpr c
    rw [e1, e2]
    exact ⟨fun q => absurd q (by decide), fun q => absurd c q.2⟩
  · have e2 : bt (lf_shl 1 (nI i)) j = false := by
      cases z : bt (lf_shl 1 (nI i)) j with
      | false => rfl
      | true => exact absurd (h2.mp z) c
    rw [e2, Bool.xor_false, h1]
    exact ⟨fun q => ⟨q, c⟩, fun q => q.1⟩
theorem al_xx {i j l : Nat} (hn : n ≤ 24) (hi : i < n) (hj : j < n) (hij : i ≠ j) : bt (al n ^^^ lf_shl 1 (nI i) ^^^ lf_shl 1 (nI j)) l = true ↔ l < n ∧ l ≠ i ∧ l ≠ j := by
  rw [b_xor]
  have h1 := al_x (n := n) (j := l) hn hi
  have h2 := b_one (v := j) (i := l) (by omega)
  by_cases c : l = j
  · have e1 := h1.mpr ⟨by omega, by omega⟩
    have e2 := h2.mpr c
    rw [e1, e2]
    exact ⟨fun q => absurd q (by decide), fun q => absurd c q.2.2⟩
  · have e2 : bt (lf_shl 1 (nI j)) l = false := by
      cases z : bt (lf_shl 1 (nI j)) l with
      | false => rfl
      | true => exact absurd (h2.mp z) c
    rw [e2, Bool.xor_false, h1]
    exact ⟨fun q => ⟨q.1, q.2, c⟩, fun q => ⟨q.1, q.2.1⟩⟩
theorem ex_bit {A : Int32} {l : Nat} (h : bt A l = true) : ¬ A = 0 := by
  intro q
  rw [q, b_0] at h
  cases h
theorem okAx1 {k i : Nat} {L : List (Nat × Nat)} (h1 : 1 ≤ n) (hn : n ≤ 24) (hk : k = 0 ∨ k = 1) (hi : k = 1 → i < n ∧ 1 ≤ n - 1) : okA (fp k L i (al n, f)) := by
  rcases hk with rfl | rfl
  · exact al_okA h1 hn
  · obtain ⟨i1, i2⟩ := hi rfl
    refine ⟨fun j hj => ?_, ?_⟩
    · have := ((al_x hn i1).mp hj).1
      omega
    · by_cases c : i = 0
      · exact ex_bit ((al_x (n := n) (j := 1) hn i1).mpr ⟨by omega, by omega⟩)
      · exact ex_bit ((al_x (n := n) (j := 0) hn i1).mpr ⟨by omega, by omega⟩)
theorem okAx2 {k i j : Nat} {L : List (Nat × Nat)} (h1 : 1 ≤ n) (hn : n ≤ 24) (hk : k = 0 ∨ k = 1) (hij : i < j) (hi : k = 1 → j < n ∧ 2 ≤ n - 1) : okA (fp k L j (fp k L i (al n, f))) := by
  rcases hk with rfl | rfl
  · exact al_okA h1 hn
  · obtain ⟨i1, i2⟩ := hi rfl
    have hx := fun l => al_xx (n := n) (i := i) (j := j) (l := l) hn (by omega) i1 (by omega)
    refine ⟨fun l hl => ?_, ?_⟩
    · have := ((hx l).mp hl).1
      omega
    · by_cases c : i = 0
      · by_cases c2 : j = 1
        · exact ex_bit ((hx 2).mpr ⟨by omega, by omega, by omega⟩)
        · exact ex_bit ((hx 1).mpr ⟨by omega, by omega, by omega⟩)
      · exact ex_bit ((hx 0).mpr ⟨by omega, by omega, by omega⟩)
abbrev wA : List Nat := [30, 31, 54, 55, 56]
abbrev wF : List (Nat × Nat) := [(29, 0), (29, 1), (29, 3), (29, 4), (53, 4), (53, 5), (53, 6), (53, 7), (53, 8), (53, 9)]
theorem ok_lines (hg : GW n d f) : ∀ i, i < (lq f n 0 n).length → (lp (lq f n 0 n) i).1 < 24 ∧ (lp (lq f n 0 n) i).2 < 24 ∧ (lp (lq f n 0 n) i).1 ≠ (lp (lq f n 0 n) i).2 := by
  intro i hi
  have e1 : (lq f n 0 n)[i]? = some ((lp (lq f n 0 n) i).1, (lp (lq f n 0 n) i).2) := lp_get hi
  obtain ⟨u1, u2, u3, u4, u5⟩ := lq_get hg.2.1 e1
  exact ⟨u3, u4, by omega⟩
theorem c_w51 {k M T : Nat} {L : List (Nat × Nat)} {σ : hp_S} (hs : s < 8) (hg : GW n d f) (hN : iv_N N) (hk : k = 0 ∨ k = 1) (hM : M ≤ 2) (hT : okT k T L) (hT9 : T ≤ 100) (hM0 : k = 1 → T = n ∧ M ≤ n - 1) (hv : NV σ s n d f) (hL : lnC σ 54 L) (hsw : σ.2.2.2 29 0 = σ.2.2.2 29 1) : ∃ τ, fr wA wF σ τ ∧ τ.2.2.2 29 0 = τ.2.2.2 29 1 ∧ τ.2.2.1 53 4 = nI M ∧ CQ M τ (fres (vFa k M L (al n, f)) M T) ∧ g17_51 N 53 (2 + 2 * s) (nI k) (nI M) (nI T) 53 (hp σ, cs) = some (.inl (some (.int (iB (fres (vFa k M L (al n, f)) M T).1))), (hp τ, cs)) := by
  have h1 := hg.1
  have hn := hg.2.1
  have hfit : pm_fit 1 (.int (nI k)) = true := by rcases hk with rfl | rfl <;> rfl
  have w5 : fr wA wF σ (hp_wf (hp_wf (hp_wf (hp_wf (hp_wf σ 53 7 (nI T)) 53 5 (nI k)) 53 6 (nI M)) 53 8 (al n)) 53 9 (-1)) := (fr.wf (by decide)).tr ((fr.wf (by decide)).tr ((fr.wf (by decide)).tr ((fr.wf (by decide)).tr (fr.wf (by decide)))))
  have hC : CC k M T s L (hp_wf (hp_wf (hp_wf (hp_wf (hp_wf σ 53 7 (nI T)) 53 5 (nI k)) 53 6 (nI M)) 53 8 (al n)) 53 9 (-1)) (al n, f) := by
    refine ⟨?_, ?_, ?_, ?_, hv.2.2, hL, hsw⟩
    · rw [hp_wf_ne (by decide), hp_wf_ne (by decide), hp_wf_ne (by decide), hp_wf_at]
    · rw [hp_wf_ne (by decide), hp_wf_ne (by decide), hp_wf_at]
    · rw [hp_wf_ne (by decide), hp_wf_ne (by decide), hp_wf_ne (by decide), hp_wf_ne (by decide), hp_wf_at]
    · rw [hp_wf_ne (by decide), hp_wf_at]
  obtain ⟨τ, q1, q2, q3, q4⟩ := c_chF (N := N) (cs := cs) (v := vFa k M L (al n, f)) hs hN hk hM hT hT9 (fun i j => vFa_le i j) (fun z => ⟨al_okA h1 hn, by unfold vFa; rw [if_pos z]⟩) (fun z i hi => ⟨okAx1 h1 hn hk (fun y => by obtain ⟨y1, y2⟩ := hM0 y; omega), by unfold vFa vv fcg; rw [if_neg (by omega), if_pos rfl]⟩) (fun z i j hij hj => ⟨okAx2 h1 hn hk hij (fun y => by obtain ⟨y1, y2⟩ := hM0 y; omega), by unfold vFa vv fcg; rw [if_neg (by omega), if_neg (by omega)]⟩) hC ⟨hp_wf_at, fun z => absurd rfl z⟩
  have w6 : fr wA wF σ τ := w5.tr (q1.wk (fun _ z => by simp at z; rcases z with z | z | z | z <;> simp [z]) (fun _ z => by simp at z; rcases z with z | z | z | z | z | z <;> simp [z]))
  refine ⟨hp_wf τ 53 4 (nI M), w6.tr (fr.wf (by decide)), q2.2.2.2.2.2.2, hp_wf_at, ⟨by rw [hp_wf_ne (by decide)]; exact q3.1, q3.2⟩, ?_⟩
  unfold g17_51
  rw [w53_7, w53_5 hfit, w53_6, sN_o hs, c_all hs (n := n) (by rw [hp_wf_ne (by omega), hp_wf_ne (by omega), hp_wf_ne (by omega)]; exact hv.1), lf_ci_r, w53_8, w53_9, o53, q4, lf_cv_r, w53_4, i53_9, hp_wf_ne (by decide), q3.1]
/-- worst -/
theorem c_worst {k M : Nat} {σ : hp_S} (hs : s < 8) (hg : GW n d f) (hN : iv_N N) (hk : k = 0 ∨ k = 1) (hM : M ≤ 2) (hv : NV σ s n d f) (hsw : σ.2.2.2 29 0 = σ.2.2.2 29 1) : ((if k = 0 then (lq f n 0 n).length else n - 1) < M → ∃ τ, fr [54] [(53, 7)] σ τ ∧ f17 N 53 (2 + 2 * s) (nI k) (nI M) (hp σ, cs) = some (.inl (some (.int (-1))), (hp τ, cs))) ∧ (¬ (if k = 0 then (lq f n 0 n).length else n - 1) < M → ∃ τ, fr wA wF σ τ ∧ τ.2.2.2 29 0 = τ.2.2.2 29 1 ∧ τ.2.2.1 53 4 = nI M ∧ CQ M τ (fres (vFa k M (lq f n 0 n) (al n, f)) M (if k = 0 then (lq f n 0 n).length else n)) ∧ f17 N 53 (2 + 2 * s) (nI k) (nI M) (hp σ, cs) = some (.inl (some (.int (iB (fres (vFa k M (lq f n 0 n) (al n, f)) M (if k = 0 then (lq f n 0 n).length else n)).1))), (hp τ, cs))) := by
  have h1 := hg.1
  have hn := hg.2.1
  have h96 := hg.l96
  rcases hk with rfl | rfl
  · obtain ⟨σ1, q1, q2, q3⟩ := c_list (σ := σ) (cs := cs) (N := N) (f := f) (r := 54) rfl (by omega) hs hn hN (fun a ha b hb => hg.bn ha hb) hv.1 hv.2.2 h96
    have pre : f17 N 53 (2 + 2 * s) (nI 0) (nI M) (hp σ, cs) = g17_22 N 53 (2 + 2 * s) (nI 0) (nI M) (nI (lq f n 0 n).length) 53 (hp σ1, cs) := by
      unfold f17
      rw [if_pos (by rfl), r53_1, sN_o hs, q3, lf_ci_r]
    rw [if_pos rfl, if_pos rfl]
    constructor
    · intro h
      refine ⟨hp_wf σ1 53 7 (nI (lq f n 0 n).length), (q1.wk (fun _ z => z) (fun _ z => absurd z List.not_mem_nil)).tr (fr.wf (by decide)), ?_⟩
      rw [pre]
      unfold g17_22
      rw [w53_7, i53_7, hp_wf_at, if_neg (nI_ge h (by omega))]
    · intro h
      obtain ⟨τ, t1, t2, t3, t4, t5⟩ := c_w51 (N := N) (cs := cs) (k := 0) (M := M) (T := (lq f n 0 n).length) (L := lq f n 0 n) (σ := hp_wf σ1 53 7 (nI (lq f n 0 n).length)) hs hg hN (Or.inl rfl) hM (fun _ => ⟨rfl, h96, ok_lines hg⟩) (by omega) (fun z => absurd z (by decide)) ⟨by rw [hp_wf_ne (by omega), q1.f List.not_mem_nil]; exact hv.1, by rw [hp_wf_ne (by omega), q1.f List.not_mem_nil]; exact hv.2.1, fun j hj => by show σ1.1 _ _ = _; rw [q1.r (by simp; omega)]; exact hv.2.2 j hj⟩ q2 (by show σ1.2.2.2 29 0 = σ1.2.2.2 29 1; rw [q1.g List.not_mem_nil, q1.g List.not_mem_nil]; exact hsw)
      refine ⟨τ, ((q1.wk (fun _ z => by simp at z; simp [z]) (fun _ z => absurd z List.not_mem_nil)).tr (fr.wf (by decide))).tr t1, t2, t3, t4, ?_⟩
      rw [pre]
      unfold g17_22
      rw [w53_7, i53_7, hp_wf_at, if_pos (nI_le (by omega) (by omega)), if_pos (by rfl), i53_7, hp_wf_at]
      exact t5
  · have e1 : nI n - 1 = nI (n - 1) := pk_sub (b := 1) h1
    have pre : f17 N 53 (2 + 2 * s) (nI 1) (nI M) (hp σ, cs) = g17_22 N 53 (2 + 2 * s) (nI 1) (nI M) (nI (n - 1)) 53 (hp σ, cs) := by
      unfold f17
      rw [if_neg (by decide), sN_1 hs, hv.1, e1]
    rw [if_neg (by decide), if_neg (by decide)]
    constructor
    · intro h
      refine ⟨hp_wf σ 53 7 (nI (n - 1)), fr.wf (by decide), ?_⟩
      rw [pre]
      unfold g17_22
      rw [w53_7, i53_7, hp_wf_at, if_neg (nI_ge h (by omega))]
    · intro h
      have hv' : NV (hp_wf σ 53 7 (nI (n - 1))) s n d f := ⟨by rw [hp_wf_ne (by omega)]; exact hv.1, by rw [hp_wf_ne (by omega)]; exact hv.2.1, hv.2.2⟩
      obtain ⟨τ, t1, t2, t3, t4, t5⟩ := c_w51 (N := N) (cs := cs) (k := 1) (M := M) (T := n) (L := []) (σ := hp_wf σ 53 7 (nI (n - 1))) hs hg hN (Or.inr rfl) hM (fun z => absurd z (by decide)) (by omega) (fun _ => ⟨rfl, by omega⟩) hv' (fun i a b z => by cases z) hsw
      refine ⟨τ, (fr.wf (by decide)).tr t1, t2, t3, t4, ?_⟩
      rw [pre]
      unfold g17_22
      rw [w53_7, i53_7, hp_wf_at, if_pos (nI_le (by omega) (by omega)), if_neg (by decide), sN_1 hs, hv'.1]
      exact t5
end FW
