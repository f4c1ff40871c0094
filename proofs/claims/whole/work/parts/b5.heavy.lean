/-! heavy: the first line with the greatest load; the worst pattern, given what a line's pattern is -/
section HV
variable {cs : Nat × Nat} {N n d s : Nat} {f : Nat → Int32}
theorem gL_le {a b : Nat} (hn : n ≤ 24) (hw : gw f n) (hJ : dS f (al n) 23 = 0) : gL f n a b ≤ 576 := by
  have h : gL f n a b ≤ sm (fun _ => n) n := sm_le (fun t ht => by
    by_cases c : hq f (al n) a t = b
    · rw [if_pos c]
      have : sm (fun s => ct f (al n) a t (gd f (al n) s t) s) n ≤ sm (fun _ => 1) n := sm_le (fun s hs => ct_le hn hw hJ ht _ s hs rfl)
      rw [sm_c] at this
      omega
    · rw [if_neg c]; exact Nat.zero_le _)
  rw [sm_c] at h
  have : n * n ≤ 24 * 24 := Nat.mul_le_mul hn hn
  omega
theorem gL_pos {a b : Nat} (hn : n ≤ 24) (hw : gw f n) (hJ : dS f (al n) 23 = 0) (ha : a < n) (hab : bt (f a) b = true) : 1 ≤ gL f n a b := by
  obtain ⟨-, hb, hne, -⟩ := hw a (by omega) b hab
  obtain ⟨-, h2, -, h4⟩ := hop_ok hn hw hJ ha hb hne
  have h5 := gd_step (f := f) (A := al n) (v := a) (c := b) (t := b) (by omega) (by omega) hab ((al_in hn).mpr hb)
  have h6 := gd_self (f := f) (A := al n) (a := b) (by omega)
  have h7 : hq f (al n) a b = b := gd_0 (by omega) (show gd f (al n) (hq f (al n) a b) b = 0 by omega)
  have e1 : gd f (al n) a b = 0 + 1 := by omega
  have h8 := sm_ge (F := fun t => if hq f (al n) a t = b then sm (fun s => ct f (al n) a t (gd f (al n) s t) s) n else 0) (k := b) hb
  have h9 := sm_ge (F := fun s => ct f (al n) a b (gd f (al n) s b) s) (k := a) ha
  have h10 : 1 ≤ ct f (al n) a b (gd f (al n) a b) a := by
    rw [e1]
    show 1 ≤ (if a = a then 1 else 0) + _
    rw [if_pos rfl]
    omega
  have h8' : (if hq f (al n) a b = b then sm (fun s => ct f (al n) a b (gd f (al n) s b) s) n else 0) ≤ gL f n a b := h8
  rw [if_pos h7] at h8'
  have h9' : ct f (al n) a b (gd f (al n) a b) a ≤ sm (fun s => ct f (al n) a b (gd f (al n) s b) s) n := h9
  omega
abbrev hvq : Type := Nat × Int32
def hvs (f : Nat → Int32) (n a b : Nat) (q : hvq) : hvq := if q.1 < gL f n a b then (gL f n a b, nI (32 * a + b)) else q
def hvi (f : Nat → Int32) (n a : Nat) : List Nat → hvq → hvq
  | [], q => q
  | b :: l, q => hvi f n a l (hvs f n a b q)
def hvo (f : Nat → Int32) (n : Nat) : Nat → Nat → hvq → hvq
  | 0, _, q => q
  | m + 1, a, q => hvo f n m (a + 1) (hvi f n a (bl (f a)) q)
def hvk (q : hvq) : Prop := q.1 ≤ 576 ∧ ((q.2 = -1 ∧ q.1 = 0) ∨ (¬ q.2 = -1 ∧ 1 ≤ q.1))
theorem hvs_ok {a b : Nat} {q : hvq} (hn : n ≤ 24) (hw : gw f n) (hJ : dS f (al n) 23 = 0) (ha : a < 24) (hb : b < 24) (h : hvk q) : hvk (hvs f n a b q) := by
  unfold hvs
  by_cases c : q.1 < gL f n a b
  · rw [if_pos c]
    refine ⟨gL_le hn hw hJ, Or.inr ⟨?_, ?_⟩⟩
    · show ¬ nI (32 * a + b) = -1
      rw [q_ne1 (by omega)]
      exact id
    · show 1 ≤ gL f n a b
      omega
  · rw [if_neg c]; exact h
/-- the class -/
theorem c_hv1 {a : Nat} (hs : s < 8) (hg : GW n d f) (hN : iv_N N) (hJ : dS f (al n) 23 = 0) (ha : a < n) {k20 : Nat → Nat → Int32 → lf_W → lf_R} : ∀ (l : List Nat) (u : Nat) (x : Int32) (q : hvq) (σ : hp_S), bl x = l → l.length < u → (∀ b, b ∈ l → b < n) → hvk q → NV σ s n d f → (∀ x t, x < n → t < n → σ.1 62 (24 * x + t) = hnx f (al n) x t) → (∀ y r, y < n → r < n → σ.1 63 (24 * y + r) = thr f n y r n) → σ.2.2.1 61 7 = nI q.1 → σ.2.2.1 61 6 = q.2 → ∃ τ, fr [] [(61, 6), (61, 7)] σ τ ∧ hvk (hvi f n a l q) ∧ τ.2.2.1 61 7 = nI (hvi f n a l q).1 ∧ τ.2.2.1 61 6 = (hvi f n a l q).2 ∧ g119_35 N k20 u 61 (2 + 2 * s) (nI a) x (hp σ, cs) = k20 61 (2 + 2 * s) (nI (a + 1)) (hp τ, cs) := by
  have h1 := hg.1
  have hn := hg.2.1
  have hw := hg.2.2.2.2.1
  intro l
  induction l with
  | nil =>
    intro u x q σ hl hu hb hq hv h62 h63 e7 e6
    obtain ⟨u, rfl⟩ : ∃ q, u = q + 1 := ⟨u - 1, by omega⟩
    have hx0 : x = 0 := by
      apply Classical.byContradiction
      intro z
      obtain ⟨l, -, -, -, e, -⟩ := bl_low z
      rw [e] at hl
      cases hl
    refine ⟨σ, fr.rf, hq, e7, e6, ?_⟩
    unfold g119_35
    rw [if_pos hx0, nI_1]
  | cons b l ih =>
    intro u x q σ hl hu hb hq hv h62 h63 e7 e6
    obtain ⟨u, rfl⟩ : ∃ q, u = q + 1 := ⟨u - 1, by rw [List.length_cons] at hu; omega⟩
    rw [List.length_cons] at hu
    have hx0 : ¬ x = 0 := by
      intro z
      rw [z, bl_0] at hl
      cases hl
    obtain ⟨l', l1, l2, l3, e, el⟩ := bl_low hx0
    rw [e] at hl
    obtain ⟨e1, e2⟩ := List.cons.inj hl
    subst e1
    have hbn := hb l' List.mem_cons_self
    have hle := gL_le (f := f) (n := n) (a := a) (b := l') hn hw hJ
    have hq5 := hq.1
    have hok := hvs_ok (f := f) (n := n) (a := a) (b := l') hn hw hJ (by omega) (by omega) hq
    unfold g119_35 g119_84
    rw [if_neg hx0, (el N _).1, lf_nest_r, lf_ci_r, sN_1 hs, hv.1, o61, c_along h1 hn hw hJ hN ha hbn h62 h63, lf_ci_r, i61_7, e7]
    by_cases c : q.1 < gL f n a l'
    · have ehv : hvs f n a l' q = (gL f n a l', nI (32 * a + l')) := by unfold hvs; rw [if_pos c]
      have w1 : fr [] [(61, 6), (61, 7)] σ (hp_wf (hp_wf σ 61 7 (nI (gL f n a l'))) 61 6 (nI (32 * a + l'))) := (fr.wf (by decide)).tr (fr.wf (by decide))
      obtain ⟨τ, q1, q2, q3, q4, q5⟩ := ih u (x &&& (x - 1)) (gL f n a l', nI (32 * a + l')) (hp_wf (hp_wf σ 61 7 (nI (gL f n a l'))) 61 6 (nI (32 * a + l'))) e2 (by omega) (fun c hc => hb c (List.mem_cons_of_mem _ hc)) (by rw [← ehv]; exact hok) (hv.fr w1 List.not_mem_nil (by simp <;> omega) (by simp <;> omega)) h62 h63 (by rw [hp_wf_ne (by decide), hp_wf_at]) hp_wf_at
      have ei : hvi f n a (l' :: l) q = hvi f n a l (gL f n a l', nI (32 * a + l')) := by
        show hvi f n a l (hvs f n a l' q) = _
        rw [ehv]
      refine ⟨τ, w1.tr q1, by rw [ei]; exact q2, by rw [ei]; exact q3, by rw [ei]; exact q4, ?_⟩
      rw [if_neg (nI_ge c (by omega)), w61_7, show (32 : Int32) = nI 32 from rfl, pk_mul, nI_add, w61_6]
      exact q5
    · have ehv : hvs f n a l' q = q := by unfold hvs; rw [if_neg c]
      obtain ⟨τ, q1, q2, q3, q4, q5⟩ := ih u (x &&& (x - 1)) q σ e2 (by omega) (fun c hc => hb c (List.mem_cons_of_mem _ hc)) hq hv h62 h63 e7 e6
      have ei : hvi f n a (l' :: l) q = hvi f n a l q := by
        show hvi f n a l (hvs f n a l' q) = _
        rw [ehv]
      refine ⟨τ, q1, by rw [ei]; exact q2, by rw [ei]; exact q3, by rw [ei]; exact q4, ?_⟩
      rw [if_pos (nI_le (by omega) (by omega))]
      exact q5
theorem c_hv2 (hs : s < 8) (hg : GW n d f) (hN : iv_N N) (hJ : dS f (al n) 23 = 0) : ∀ (m a u : Nat) (q : hvq) (σ : hp_S), a + m = n → m < u → hvk q → NV σ s n d f → (∀ x t, x < n → t < n → σ.1 62 (24 * x + t) = hnx f (al n) x t) → (∀ y r, y < n → r < n → σ.1 63 (24 * y + r) = thr f n y r n) → σ.2.2.1 61 7 = nI q.1 → σ.2.2.1 61 6 = q.2 → ∃ τ, fr [] [(61, 6), (61, 7)] σ τ ∧ τ.2.2.1 61 7 = nI (hvo f n m a q).1 ∧ τ.2.2.1 61 6 = (hvo f n m a q).2 ∧ g119_20 N u 61 (2 + 2 * s) (nI a) (hp σ, cs) = some (.inl none, (hp τ, cs)) := by
  have hn := hg.2.1
  have hw := hg.2.2.2.2.1
  intro m
  induction m with
  | zero =>
    intro a u q σ ha hu hq hv h62 h63 e7 e6
    obtain ⟨u, rfl⟩ : ∃ q, u = q + 1 := ⟨u - 1, by omega⟩
    refine ⟨σ, fr.rf, e7, e6, ?_⟩
    unfold g119_20
    rw [sN_1 hs, hv.1, if_pos (nI_le (by omega) (by omega))]
  | succ m ih =>
    intro a u q σ ha hu hq hv h62 h63 e7 e6
    obtain ⟨u, rfl⟩ : ∃ q, u = q + 1 := ⟨u - 1, by omega⟩
    obtain ⟨τ, q1, q2, q3, q4, q5⟩ := c_hv1 (N := N) (cs := cs) (a := a) (k20 := g119_20 N u) hs hg hN hJ (by omega) (bl (f a)) N (f a) q σ rfl (by have := bl_le (f a); unfold iv_N at hN; omega) (fun b hb => (hw a (by omega) b (bl_mem.mp hb)).2.1) hq hv h62 h63 e7 e6
    obtain ⟨υ, p1, p2, p3, p4⟩ := ih (a + 1) u _ τ (by omega) (by omega) q2 (hv.fr q1 List.not_mem_nil (by simp <;> omega) (by simp <;> omega)) (fun x t hx ht => by rw [q1.r List.not_mem_nil]; exact h62 x t hx ht) (fun x t hx ht => by rw [q1.r List.not_mem_nil]; exact h63 x t hx ht) q3 q4
    refine ⟨υ, q1.tr p1, p2, p3, ?_⟩
    unfold g119_20
    rw [sN_1 hs, hv.1, if_neg (nI_ge (by omega) (by omega)), sN_r hs, sN_ri hs (by omega), hv.2.2 a (by omega), q5]
    exact p4
/-- findHeaviest -/
theorem c_heaviest {σ : hp_S} (hs : s < 8) (hg : GW n d f) (hN : iv_N N) (hJ : dS f (al n) 23 = 0) (hv : NV σ s n d f) (h62 : ∀ x t, x < n → t < n → σ.1 62 (24 * x + t) = hnx f (al n) x t) : ∃ τ, fr [63] [(61, 6), (61, 7)] σ τ ∧ τ.2.2.1 61 7 = nI (hvo f n n 0 (0, -1)).1 ∧ τ.2.2.1 61 6 = (hvo f n n 0 (0, -1)).2 ∧ f119 N 61 (2 + 2 * s) (hp σ, cs) = some (.inl none, (hp τ, cs)) := by
  have h1 := hg.1
  have hn := hg.2.1
  have hw := hg.2.2.2.2.1
  have w0 : fr [] [(61, 6), (61, 7)] σ (hp_wf (hp_wf σ 61 6 (-1)) 61 7 0) := (fr.wf (by decide)).tr (fr.wf (by decide))
  have hv0 := hv.fr w0 List.not_mem_nil (by simp <;> omega) (by simp <;> omega)
  obtain ⟨σ1, a1, a2, a3⟩ := c_track (σ := hp_wf (hp_wf σ 61 6 (-1)) 61 7 0) (cs := cs) (N := N) h1 hn hw hJ hN h62
  obtain ⟨τ, q1, q2, q3, q4⟩ := c_hv2 (N := N) (cs := cs) hs hg hN hJ n 0 N (0, -1) σ1 (by omega) (by unfold iv_N at hN; omega) ⟨by show 0 ≤ 576; omega, Or.inl ⟨rfl, rfl⟩⟩ (hv0.fr a1 (by simp; omega) List.not_mem_nil List.not_mem_nil) (fun x t hx ht => by rw [a1.r (by decide)]; exact h62 x t hx ht) a2 (by rw [a1.f List.not_mem_nil, hp_wf_at]; rfl) (by rw [a1.f List.not_mem_nil, hp_wf_ne (by decide), hp_wf_at])
  refine ⟨τ, ((w0.wk (fun _ z => absurd z List.not_mem_nil) (fun _ z => z)).tr (a1.wk (fun _ z => z) (fun _ z => absurd z List.not_mem_nil))).tr (q1.wk (fun _ z => absurd z List.not_mem_nil) (fun _ z => z)), q2, q3, ?_⟩
  unfold f119
  rw [w61_6, w61_7, sN_1 hs, hv0.1, o61, a3, lf_cv_r]
  exact q4
end HV
