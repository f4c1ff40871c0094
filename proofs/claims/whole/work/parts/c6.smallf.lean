/-! small nets: what both must come to; the class's gather -/
section SMF
variable {cs : Nat × Nat} {N n x y z d k : Nat} {σ τ : hp_S} {P : Nat → Prop}
theorem lt_tr (h1 : ltY n x y) (h2 : ltY n y z) : ltY n x z := by
  unfold ltY at *
  omega
theorem lt_tot : ltY n x y ∨ x = y ∨ ltY n y x := by
  unfold ltY
  omega
theorem lt_irr : ¬ ltY n x x := by
  unfold ltY
  omega
/-- the best below b -/
def BSo (P : Nat → Prop) (n b : Nat) (o : Option Nat) : Prop := (o = none ∧ ∀ x, x < b → ¬ P x) ∨ ∃ m, o = some m ∧ m < b ∧ P m ∧ ∀ x, x < b → P x → m = x ∨ ltY n m x
theorem BSo_y {b : Nat} {o : Option Nat} (h : BSo P n b o) (hp' : P b) : BSo P n (b + 1) (pkY n o b) := by
  rcases h with ⟨h1, h2⟩ | ⟨m, h1, h2, h3, h4⟩
  · subst h1
    refine Or.inr ⟨b, rfl, by omega, hp', fun x hx hpx => ?_⟩
    rcases Nat.lt_or_ge x b with c | c
    · exact absurd hpx (h2 x c)
    · exact Or.inl (by omega)
  · subst h1
    have e : pkY n (some m) b = @ite (Option Nat) (ltY n b m) (Classical.propDecidable _) (some b) (some m) := rfl
    rw [e]
    by_cases c : ltY n b m
    · rw [if_pos c]
      refine Or.inr ⟨b, rfl, by omega, hp', fun x hx hpx => ?_⟩
      by_cases g : x = b
      · exact Or.inl g.symm
      · rcases h4 x (by omega) hpx with w | w
        · subst w; exact Or.inr c
        · exact Or.inr (lt_tr c w)
    · rw [if_neg c]
      refine Or.inr ⟨m, rfl, by omega, h3, fun x hx hpx => ?_⟩
      by_cases g : x = b
      · subst g
        rcases lt_tot (n := n) (x := x) (y := m) with w | w | w
        · exact absurd w c
        · exact Or.inl w.symm
        · exact Or.inr w
      · exact h4 x (by omega) hpx
theorem BSo_n {b : Nat} {o : Option Nat} (h : BSo P n b o) (hp' : ¬ P b) : BSo P n (b + 1) o := by
  rcases h with ⟨h1, h2⟩ | ⟨m, h1, h2, h3, h4⟩
  · refine Or.inl ⟨h1, fun x hx => ?_⟩
    by_cases g : x = b
    · rw [g]; exact hp'
    · exact h2 x (by omega)
  · refine Or.inr ⟨m, h1, by omega, h3, fun x hx hpx => ?_⟩
    by_cases g : x = b
    · rw [g] at hpx; exact absurd hpx hp'
    · exact h4 x (by omega) hpx
theorem BSo_one {b : Nat} {o o' : Option Nat} (h : BSo P n b o) (h' : BSo P n b o') : o = o' := by
  rcases h with ⟨h1, h2⟩ | ⟨m, h1, h2, h3, h4⟩
  · rcases h' with ⟨g1, g2⟩ | ⟨m', g1, g2, g3, g4⟩
    · rw [h1, g1]
    · exact absurd g3 (h2 m' g2)
  · rcases h' with ⟨g1, g2⟩ | ⟨m', g1, g2, g3, g4⟩
    · exact absurd h3 (g2 m h2)
    · rw [h1, g1]
      rcases h4 m' g2 g3 with w | w
      · rw [w]
      · rcases g4 m h2 h3 with v | v
        · rw [v]
        · exact absurd (lt_tr w v) lt_irr
theorem BSo_all {o : Option Nat} (hn : n ≤ 6) (h : BSo (fun m => mnY n m ∧ wtY n d k m) n (2 ^ ppY n) o) : BSo (wtY n d k) n (2 ^ ppY n) o := by
  rcases h with ⟨h1, h2⟩ | ⟨m, h1, h2, h3, h4⟩
  · refine Or.inl ⟨h1, fun x hx hw => ?_⟩
    obtain ⟨y, y1, y2, y3, y4⟩ := mn_ex hx
    exact h2 y y1 ⟨y2, (wt_eq hn y3).mpr hw⟩
  · refine Or.inr ⟨m, h1, h2, h3.2, fun x hx hw => ?_⟩
    obtain ⟨y, y1, y2, y3, y4⟩ := mn_ex hx
    have hpc := pcY_eq hn y1 hx y3
    rcases h4 y y1 ⟨y2, (wt_eq hn y3).mpr hw⟩ with w | w
    · subst w
      by_cases g : m = x
      · exact Or.inl g
      · exact Or.inr (Or.inr ⟨hpc.symm, by omega⟩)
    · refine Or.inr ?_
      unfold ltY at w ⊢
      omega
/-- what is gathered below b -/
theorem fold_kl : ∀ b, ∃ o, BSo (fun m => mnY n m ∧ wtY n d k m) n b o ∧ (klY n b).foldl (stG n d k) (0, 0, none) = (sm (fun m => @ite Nat (mnY n m ∧ wtY n d k m) (Classical.propDecidable _) (ctY (eqY n m) (2 ^ ppY n)) 0) b, ctY (fun m => mnY n m ∧ wtY n d k m) b, o)
  | 0 => ⟨none, Or.inl ⟨rfl, fun x hx => absurd hx (Nat.not_lt_zero _)⟩, rfl⟩
  | b + 1 => by
    obtain ⟨o, o1, o2⟩ := fold_kl b
    have es : ∀ c, sm (fun m => @ite Nat (mnY n m ∧ wtY n d k m) (Classical.propDecidable _) (ctY (eqY n m) (2 ^ ppY n)) 0) (b + 1) = sm (fun m => @ite Nat (mnY n m ∧ wtY n d k m) (Classical.propDecidable _) (ctY (eqY n m) (2 ^ ppY n)) 0) b + c ↔ @ite Nat (mnY n b ∧ wtY n d k b) (Classical.propDecidable _) (ctY (eqY n b) (2 ^ ppY n)) 0 = c := fun c => by
      show sm _ b + _ = _ ↔ _
      exact Nat.add_left_cancel_iff
    by_cases c : mnY n b
    · have ek : klY n (b + 1) = klY n b ++ [b] := by
        unfold klY
        rw [pkL_s, if_pos (mnB_i.mpr c)]
      rw [ek, List.foldl_append, o2]
      by_cases e : wtY n d k b
      · refine ⟨pkY n o b, BSo_y o1 ⟨c, e⟩, ?_⟩
        show stG n d k (_, _, o) b = _
        unfold stG
        rw [if_pos e, (es (ctY (eqY n b) (2 ^ ppY n))).mpr (if_pos ⟨c, e⟩), (ctY_s (P := fun m => mnY n m ∧ wtY n d k m) (m := b)).1 ⟨c, e⟩]
      · refine ⟨o, BSo_n o1 (fun z => e z.2), ?_⟩
        show stG n d k (_, _, o) b = _
        unfold stG
        rw [if_neg e, (es 0).mpr (if_neg (fun z => e z.2)), Nat.add_zero, (ctY_s (P := fun m => mnY n m ∧ wtY n d k m) (m := b)).2 (fun z => e z.2)]
    · have ek : klY n (b + 1) = klY n b := by
        unfold klY
        rw [pkL_s, if_neg (fun z => c (mnB_i.mp z))]
      refine ⟨o, BSo_n o1 (fun z => c z.1), ?_⟩
      rw [ek, o2, (es 0).mpr (if_neg (fun z => c z.1)), Nat.add_zero, (ctY_s (P := fun m => mnY n m ∧ wtY n d k m) (m := b)).2 (fun z => c z.1)]
theorem fold_all (hn : n ≤ 6) : ∃ o, BSo (wtY n d k) n (2 ^ ppY n) o ∧ (klY n (2 ^ ppY n)).foldl (stG n d k) (0, 0, none) = (ctY (wtY n d k) (2 ^ ppY n), ctY (fun m => mnY n m ∧ wtY n d k m) (2 ^ ppY n), o) := by
  obtain ⟨o, o1, o2⟩ := fold_kl (n := n) (d := d) (k := k) (2 ^ ppY n)
  exact ⟨o, BSo_all hn o1, by rw [o2, ← ctY_kinds hn]⟩
/-- what the class keeps of kinds -/
def jK (c : Nat → Nat → Int32) (n : Nat) : Prop := c 47 n = 0 ∨ (c 47 n = nI (klY n (2 ^ ppY n)).length ∧ KDy (c 45) (c 46) n (klY n (2 ^ ppY n)))
theorem kl_pos (hn : n ≤ 6) : 1 ≤ (klY n (2 ^ ppY n)).length ∧ (klY n (2 ^ ppY n)).length ≤ 156 := by
  constructor
  · have : 0 ∈ klY n (2 ^ ppY n) := by
      unfold klY
      rw [pkL_mem]
      exact ⟨Nat.two_pow_pos _, mnB_i.mpr (fun y _ _ => Nat.zero_le y)⟩
    cases hL : klY n (2 ^ ppY n) with
    | nil => rw [hL] at this; cases this
    | cons a l => rw [List.length_cons]; omega
  · rw [kl_len]
    exact kinds_156 hn
/-- gather -/
theorem c_gath (hn1 : 1 ≤ n) (hn : n ≤ 6) (hN : iv_N N) (hk : k < 2 ^ 31) (hd : d ≤ 8) (hJ : jK σ.1 n) : ∃ τ o, fr [45, 46, 47, 48, 49, 50, 51, 52] [(44, 0), (44, 1), (44, 2), (44, 3), (44, 4), (44, 10)] σ τ ∧ BSo (wtY n d k) n (2 ^ ppY n) o ∧ τ.2.2.1 44 0 = 1 ∧ τ.2.2.1 44 1 = nI (ctY (wtY n d k) (2 ^ ppY n)) ∧ τ.2.2.1 44 2 = nI (ctY (fun m => mnY n m ∧ wtY n d k m) (2 ^ ppY n)) ∧ τ.2.2.1 44 3 = oI1 n o ∧ τ.2.2.1 44 4 = oI2 o ∧ (∀ m, 1 ≤ m → m ≤ 6 → jK σ.1 m → jK τ.1 m) ∧ f93 N 44 (nI n) (nI d) (nI k) (hp σ, cs) = some (.inl none, (hp τ, cs)) := by
  obtain ⟨l1, l2⟩ := kl_pos hn
  have main : ∀ ρ : hp_S, ρ.1 47 n = nI (klY n (2 ^ ppY n)).length → KDy (ρ.1 45) (ρ.1 46) n (klY n (2 ^ ppY n)) → ∃ τ o, fr [50] [(44, 0), (44, 1), (44, 2), (44, 3), (44, 4)] ρ τ ∧ BSo (wtY n d k) n (2 ^ ppY n) o ∧ τ.2.2.1 44 0 = 1 ∧ τ.2.2.1 44 1 = nI (ctY (wtY n d k) (2 ^ ppY n)) ∧ τ.2.2.1 44 2 = nI (ctY (fun m => mnY n m ∧ wtY n d k m) (2 ^ ppY n)) ∧ τ.2.2.1 44 3 = oI1 n o ∧ τ.2.2.1 44 4 = oI2 o ∧ g93_14 N 44 (nI n) (nI d) (nI k) (hp ρ, cs) = some (.inl none, (hp τ, cs)) := by
    intro ρ h47 hK
    have w0 : fr [50] [(44, 0), (44, 1), (44, 2), (44, 3), (44, 4)] ρ (hp_wf (hp_wf (hp_wf (hp_wf ρ 44 1 0) 44 2 0) 44 3 (-1)) 44 4 (-1)) := (((fr.wf (by decide)).tr (fr.wf (by decide))).tr (fr.wf (by decide))).tr (fr.wf (by decide))
    obtain ⟨τ, q1, q2, q3, q4⟩ := c_g41 (N := N) (cs := cs) (d := d) (k := k) (L := klY n (2 ^ ppY n)) hn1 hn hN hk hd (fun y hy => by unfold klY at hy; exact (pkL_mem.mp hy).1) l2 (klY n (2 ^ ppY n)).length 0 N (0, 0, none) (hp_wf (hp_wf (hp_wf (hp_wf ρ 44 1 0) 44 2 0) 44 3 (-1)) 44 4 (-1)) (by omega) (by unfold iv_N at hN; omega) (by rw [w0.r (by decide)]; exact h47) (fun i hi => by rw [w0.r (by decide), w0.r (by decide)]; exact hK i hi) (fun m hm => by cases hm) ⟨by rw [hp_wf_ne (by decide), hp_wf_ne (by decide), hp_wf_ne (by decide), hp_wf_at]; rfl, by rw [hp_wf_ne (by decide), hp_wf_ne (by decide), hp_wf_at]; rfl, by rw [hp_wf_ne (by decide), hp_wf_at]; rfl, hp_wf_at⟩
    obtain ⟨o, o1, o2⟩ := fold_all (n := n) (d := d) (k := k) hn
    rw [List.drop_zero, o2] at q3
    obtain ⟨g1, g2, g3, g4⟩ := q3
    refine ⟨τ, o, w0.tr q1, o1, q2, g1, g2, g3, g4, ?_⟩
    have e0 : nI n * 156 = nI (156 * n + 0) := by
      have := ix_156 n 0
      rw [show nI 0 = 0 from rfl, Int32.add_zero] at this
      exact this
    unfold g93_14
    rw [w44_1, w44_2, w44_3, w44_4, e0]
    exact q4
  rcases hJ with hJ | ⟨h47, hK⟩
  · obtain ⟨ρ, a1, a2, a3, a4, a5, a6⟩ := c_sort (N := N) (cs := cs) (σ := σ) hn1 hn hN
    obtain ⟨τ, o, q1, q2, q3, q4, q5, q6, q7, q8⟩ := main ρ a2 a4
    refine ⟨τ, o, (a1.wk (fun _ z => by simp at z; rcases z with z | z | z | z | z | z | z <;> simp [z]) (fun _ z => by simp at z; simp [z])).tr (q1.wk (fun _ z => by simp at z; simp [z]) (fun _ z => by simp at z; rcases z with z | z | z | z | z <;> simp [z])), q2, q3, q4, q5, q6, q7, fun m m1 m2 hm => ?_, ?_⟩
    · unfold jK
      rw [q1.r (by decide), q1.r (by decide), q1.r (by decide)]
      by_cases c : m = n
      · subst c
        exact Or.inr ⟨a2, a4⟩
      · rw [a3 m c]
        rcases hm with hm | ⟨g1, g2⟩
        · exact Or.inl hm
        · refine Or.inr ⟨g1, fun i hi => ?_⟩
          have l156 := (kl_pos (n := m) m2).2
          obtain ⟨e1, e2⟩ := a5 (156 * m + i) (by omega)
          rw [e1, e2]
          exact g2 i hi
    · unfold f93
      rw [r44_7, a47 (by omega), hJ, if_neg (fun z => z rfl), o44, a6, lf_cv_r]
      exact q8
  · obtain ⟨τ, o, q1, q2, q3, q4, q5, q6, q7, q8⟩ := main σ h47 hK
    refine ⟨τ, o, q1.wk (fun _ z => by simp at z; simp [z]) (fun _ z => by simp at z; rcases z with z | z | z | z | z <;> simp [z]), q2, q3, q4, q5, q6, q7, fun m m1 m2 hm => ?_, ?_⟩
    · unfold jK
      rw [q1.r (by decide), q1.r (by decide), q1.r (by decide)]
      exact hm
    · unfold f93
      rw [r44_7, a47 (by omega), h47, if_pos (nI_ne0 (by omega) (by omega))]
      exact q8
end SMF
