/-! lines a b, c d become a c, b d -/
def swx (f : Nat → Int32) (a b c d : Nat) : Nat → Int32 := fl_r (fl_r (fl_r (fl_r f a b) c d) a c) b d
def swb (f : Nat → Int32) (a b c d : Nat) : Bool := decide (a ≠ c) && decide (a ≠ d) && decide (b ≠ c) && decide (b ≠ d) && !bt (f a) c && !bt (f b) d
def swm (a b c d k : Nat) : Int32 := if k = a then lf_shl 1 (nI b) ||| lf_shl 1 (nI c) else if k = b then lf_shl 1 (nI a) ||| lf_shl 1 (nI d) else if k = c then lf_shl 1 (nI d) ||| lf_shl 1 (nI a) else if k = d then lf_shl 1 (nI c) ||| lf_shl 1 (nI b) else 0
/-- four knots, no two the same -/
def d4 (a b c d : Nat) : Prop := a < 24 ∧ b < 24 ∧ c < 24 ∧ d < 24 ∧ a ≠ b ∧ c ≠ d ∧ a ≠ c ∧ a ≠ d ∧ b ≠ c ∧ b ≠ d
theorem or_xor {x : Int32} {p q : Nat} (hp : p < 32) (hq : q < 32) (h : p ≠ q) : x ^^^ (lf_shl 1 (nI p) ||| lf_shl 1 (nI q)) = x ^^^ lf_shl 1 (nI p) ^^^ lf_shl 1 (nI q) := by
  apply b_ext
  intro i hi
  rw [b_xor, b_or, b_xor, b_xor, one_bit hp hi, one_bit hq hi]
  by_cases e1 : i = p
  · rw [decide_eq_true e1, decide_eq_false (by omega)]
    cases bt x i <;> rfl
  · rw [decide_eq_false e1]
    cases bt x i <;> cases decide (i = q) <;> rfl
theorem swx_row {f : Nat → Int32} {a b c d : Nat} (h : d4 a b c d) (k : Nat) : swx f a b c d k = f k ^^^ swm a b c d k := by
  obtain ⟨h1, h2, h3, h4, h5, h6, h7, h8, h9, h10⟩ := h
  have e : ∀ (g : Nat → Int32) (p q k : Nat), fl_r g p q k = if k = q then g q ^^^ lf_shl 1 (nI p) else if k = p then g p ^^^ lf_shl 1 (nI q) else g k := fun _ _ _ _ => rfl
  unfold swx swm
  by_cases ka : k = a
  · subst ka
    rw [if_pos rfl, or_xor (by omega) (by omega) h9, e _ b d, if_neg h8, if_neg h5, e _ k c, if_neg h7, if_pos rfl, e _ c d, if_neg h8, if_neg h7, e _ k b, if_neg h5, if_pos rfl]
  · rw [if_neg ka]
    by_cases kb : k = b
    · subst kb
      rw [if_pos rfl, or_xor (by omega) (by omega) h8, e _ k d, if_neg h10, if_pos rfl, e _ a c, if_neg h9, if_neg ka, e _ c d, if_neg h10, if_neg h9, e _ a k, if_pos rfl]
    · rw [if_neg kb]
      by_cases kc : k = c
      · subst kc
        rw [if_pos rfl, or_xor (by omega) (by omega) (fun q => h8 q.symm), e _ b d, if_neg h6, if_neg kb, e _ a k, if_pos rfl, e _ k d, if_neg h6, if_pos rfl, e _ a b, if_neg kb, if_neg ka]
      · rw [if_neg kc]
        by_cases kd : k = d
        · subst kd
          rw [if_pos rfl, or_xor (by omega) (by omega) (fun q => h9 q.symm), e _ b k, if_pos rfl, e _ a c, if_neg kc, if_neg ka, e _ c k, if_pos rfl, e _ a b, if_neg kb, if_neg ka]
        · rw [if_neg kd, e _ b d, if_neg kd, if_neg kb, e _ a c, if_neg kc, if_neg ka, e _ c d, if_neg kd, if_neg kc, e _ a b, if_neg kb, if_neg ka, Int32.xor_zero]
theorem swx_swx {f : Nat → Int32} {a b c d : Nat} (h : d4 a b c d) (k : Nat) : swx (swx f a b c d) a b c d k = f k := by
  rw [swx_row h, swx_row h, xx]
theorem swx_congr {f g : Nat → Int32} {a b c d : Nat} (h : d4 a b c d) (e : ∀ k, k < 24 → f k = g k) : ∀ k, k < 24 → swx f a b c d k = swx g a b c d k := fun k hk => by rw [swx_row h, swx_row h, e k hk]
theorem swb_iff {f : Nat → Int32} {a b c d : Nat} : swb f a b c d = true ↔ a ≠ c ∧ a ≠ d ∧ b ≠ c ∧ b ≠ d ∧ bt (f a) c = false ∧ bt (f b) d = false := by
  unfold swb
  simp only [Bool.and_eq_true, decide_eq_true_iff, Bool.not_eq_true', and_assoc]
/-- nets stay nets -/
theorem swx_gw {f : Nat → Int32} {n a b c d : Nat} (hn : n ≤ 24) (hw : gw f n) (h : d4 a b c d) (ha : a < n) (hb : b < n) (hc : c < n) (hd : d < n) : gw (swx f a b c d) n := by
  obtain ⟨h1, h2, h3, h4, h5, h6, h7, h8, h9, h10⟩ := h
  exact gw_fl hn (gw_fl hn (gw_fl hn (gw_fl hn hw ha hb h5) hc hd h6) ha hc h7) hb hd h10
theorem pc_sw {x : Int32} {p q : Nat} (hp : p < 32) (hq : q < 32) (h : p ≠ q) (h1 : bt x p = true) (h2 : bt x q = false) : i_pc (x ^^^ (lf_shl 1 (nI p) ||| lf_shl 1 (nI q))) = i_pc x := by
  rw [or_xor hp hq h]
  have e1 := i_pc_off hp h1
  have e2 := i_pc_on (x := x ^^^ lf_shl 1 (nI p)) hq (by
    rw [x_bit hp hq, h2, decide_eq_false (fun q => h q.symm)]
    rfl)
  omega
theorem swx_GW {f : Nat → Int32} {n e a b c d : Nat} (hg : GW n e f) (h : d4 a b c d) (hl1 : bt (f a) b = true) (hl2 : bt (f c) d = true) (h1 : bt (f a) c = false) (h2 : bt (f b) d = false) : GW n e (swx f a b c d) := by
  obtain ⟨g1, g2, g3, g4, g5, g6⟩ := hg
  have h' := h
  obtain ⟨q1, q2, q3, q4, q5, q6, q7, q8, q9, q10⟩ := h
  obtain ⟨la, lb, -, lba⟩ := g5 a q1 b hl1
  obtain ⟨lc, ld, -, ldc⟩ := g5 c q3 d hl2
  have s1 : bt (f c) a = false := by
    cases e : bt (f c) a with
    | false => rfl
    | true => rw [(g5 c q3 a e).2.2.2] at h1; cases h1
  have s2 : bt (f d) b = false := by
    cases e : bt (f d) b with
    | false => rfl
    | true => rw [(g5 d q4 b e).2.2.2] at h2; cases h2
  refine ⟨g1, g2, g3, g4, swx_gw g2 g5 h' la lb lc ld, fun k hk => ?_⟩
  rw [swx_row h']
  unfold swm
  by_cases ka : k = a
  · rw [if_pos ka, ka, pc_sw (by omega) (by omega) q9 hl1 h1]; exact g6 a q1
  · rw [if_neg ka]
    by_cases kb : k = b
    · rw [if_pos kb, kb, pc_sw (by omega) (by omega) q8 lba h2]; exact g6 b q2
    · rw [if_neg kb]
      by_cases kc : k = c
      · rw [if_pos kc, kc, pc_sw (by omega) (by omega) (fun q => q8 q.symm) hl2 s1]; exact g6 c q3
      · rw [if_neg kc]
        by_cases kd : k = d
        · rw [if_pos kd, kd, pc_sw (by omega) (by omega) (fun q => q9 q.symm) ldc s2]; exact g6 d q4
        · rw [if_neg kd, Int32.xor_zero]; exact g6 k hk
/-- the class's rows turned -/
def tl4 (σ : hp_S) (r a b c d : Nat) : hp_S := hp_wi (hp_wi (hp_wi (hp_wi σ r a (σ.1 r a ^^^ swm a b c d a)) r b (σ.1 r b ^^^ swm a b c d b)) r c (σ.1 r c ^^^ swm a b c d c)) r d (σ.1 r d ^^^ swm a b c d d)
theorem tl4_at {σ : hp_S} {r a b c d : Nat} (h : d4 a b c d) (k : Nat) : (tl4 σ r a b c d).1 r k = swx (σ.1 r) a b c d k := by
  obtain ⟨h1, h2, h3, h4, h5, h6, h7, h8, h9, h10⟩ := id h
  rw [swx_row h]
  unfold tl4
  by_cases kd : k = d
  · rw [kd, hp_wi_at]
  · rw [hp_wi_nj kd]
    by_cases kc : k = c
    · rw [kc, hp_wi_at]
    · rw [hp_wi_nj kc]
      by_cases kb : k = b
      · rw [kb, hp_wi_at]
      · rw [hp_wi_nj kb]
        by_cases ka : k = a
        · rw [ka, hp_wi_at]
        · rw [hp_wi_nj ka]
          unfold swm
          rw [if_neg ka, if_neg kb, if_neg kc, if_neg kd, Int32.xor_zero]
theorem tl4_fr {A : List Nat} {F : List (Nat × Nat)} {σ : hp_S} {r a b c d : Nat} (h : r ∈ A) : fr A F σ (tl4 σ r a b c d) := (((fr.wi h).tr (fr.wi h)).tr (fr.wi h)).tr (fr.wi h)
theorem tl4_ne {σ : hp_S} {r a b c d x : Nat} (h : x ≠ r) : (tl4 σ r a b c d).1 x = σ.1 x := by
  unfold tl4
  rw [hp_wi_ne h, hp_wi_ne h, hp_wi_ne h, hp_wi_ne h]
theorem tl4_back {A : List Nat} {F : List (Nat × Nat)} {σ τ : hp_S} {r a b c d : Nat} (hd : d4 a b c d) (hr : r ∉ A) (h : fr A F (tl4 σ r a b c d) τ) : fr A F σ (tl4 τ r a b c d) := by
  refine ⟨fun x hx => ?_, fun x k hx => h.2 x k hx⟩
  by_cases e : x = r
  · subst e
    refine ⟨funext fun k => ?_, (h.1 x hx).2⟩
    rw [tl4_at hd]
    have e1 : τ.1 x = swx (σ.1 x) a b c d := by
      rw [(h.1 x hx).1]
      funext j
      exact tl4_at hd j
    rw [e1, swx_swx hd]
  · have h2 := h.1 x hx
    exact ⟨by rw [tl4_ne e, h2.1, tl4_ne e], h2.2⟩
section SW
variable {σ : hp_S} {cs : Nat × Nat} {N r a b c d : Nat} {f : Nat → Int32}
theorem c_turn4 (hr : hp_lay[r]? = some (0, 24, [], [])) (h : d4 a b c d) : f2 N r (nI a) (nI b) (nI c) (nI d) (hp σ, cs) = some (.inl none, (hp (tl4 σ r a b c d), cs)) := by
  obtain ⟨h1, h2, h3, h4, h5, h6, h7, h8, h9, h10⟩ := h
  have rd : ∀ (σ : hp_S) (j : Nat) (g : Int32 → lf_R), j < 24 → (lf_ri (hp σ, cs) r (nI j)).bind g = g (σ.1 r j) := fun σ j g hj => by rw [hp_ri hr (in_nI hj (by omega)), Option.bind_some, nI_clamp (by omega)]
  have wr : ∀ (σ : hp_S) (j : Nat) (x : Int32) (g : lf_W → lf_R), j < 24 → (lf_wi (hp σ, cs) r (nI j) x).bind g = g (hp (hp_wi σ r j x), cs) := fun σ j x g hj => by rw [hp_swi hr (in_nI hj (by omega)), Option.bind_some, nI_clamp (by omega)]
  have m1 : swm a b c d a = lf_shl 1 (nI b) ||| lf_shl 1 (nI c) := by unfold swm; rw [if_pos rfl]
  have m2 : swm a b c d b = lf_shl 1 (nI a) ||| lf_shl 1 (nI d) := by unfold swm; rw [if_neg (fun q => h5 q.symm), if_pos rfl]
  have m3 : swm a b c d c = lf_shl 1 (nI d) ||| lf_shl 1 (nI a) := by unfold swm; rw [if_neg (fun q => h7 q.symm), if_neg (fun q => h9 q.symm), if_pos rfl]
  have m4 : swm a b c d d = lf_shl 1 (nI c) ||| lf_shl 1 (nI b) := by unfold swm; rw [if_neg (fun q => h8 q.symm), if_neg (fun q => h10 q.symm), if_neg (fun q => h6 q.symm), if_pos rfl]
  unfold f2 tl4
  rw [rd σ a _ h1, wr σ a _ _ h1, rd _ b _ h2, wr _ b _ _ h2, rd _ c _ h3, wr _ c _ _ h3, rd _ d _ h4, wr _ d _ _ h4, m1, m2, m3, m4]
  rw [hp_wi_nj (fun q => h6 q.symm), hp_wi_nj (fun q => h10 q.symm), hp_wi_nj (fun q => h8 q.symm), hp_wi_nj (fun q => h9 q.symm), hp_wi_nj (fun q => h7 q.symm), hp_wi_nj (fun q => h5 q.symm)]
theorem lf_rem32 {a b : Nat} (ha : a < 24) (hb : b < 24) : nI (32 * a + b) / 32 = nI a ∧ lf_rem (nI (32 * a + b)) 32 = nI b := by
  constructor
  · rw [show (32 : Int32) = nI 32 from rfl, pk_div (by omega) (by omega) (by omega), show (32 * a + b) / 32 = a by omega]
  · unfold lf_rem
    rw [show (32 : Int32) = nI 32 from rfl, pk_rem (by omega) (by omega) (by omega), show (32 * a + b) % 32 = b by omega]
theorem swb_d4 (ha : a < 24) (hb : b < 24) (hc : c < 24) (hd : d < 24) (hab : a ≠ b) (hcd : c ≠ d) (h : swb f a b c d = true) : d4 a b c d := by
  obtain ⟨h1, h2, h3, h4, -, -⟩ := swb_iff.mp h
  exact ⟨ha, hb, hc, hd, hab, hcd, h1, h2, h3, h4⟩
theorem c_sw44 (hr : hp_lay[r]? = some (0, 24, [], [])) (ef : ∀ k, k < 24 → σ.1 r k = f k) (ha : a < 24) (hb : b < 24) (hc : c < 24) (hd : d < 24) (hab : a ≠ b) (hcd : c ≠ d) : (swb f a b c d = true → g1_44 N r (nI a) (nI b) (nI c) (nI d) (hp σ, cs) = some (.inl (some (.int 1)), (hp (tl4 σ r a b c d), cs))) ∧ (swb f a b c d = false → g1_44 N r (nI a) (nI b) (nI c) (nI d) (hp σ, cs) = some (.inl (some (.int 0)), (hp σ, cs))) := by
  have ne : ∀ {p q : Nat}, p < 24 → q < 24 → p ≠ q → ¬ nI p = nI q := fun hp hq h => by rw [q_eq (by omega) (by omega)]; exact h
  have rd : ∀ (j : Nat) (g : Int32 → lf_R), j < 24 → (lf_ri (hp σ, cs) r (nI j)).bind g = g (f j) := fun j g hj => by rw [hp_ri hr (in_nI hj (by omega)), Option.bind_some, nI_clamp (by omega), ef j hj]
  constructor
  · intro h
    have h4 := swb_d4 ha hb hc hd hab hcd h
    obtain ⟨h1, h2, h3, h5, h6, h7⟩ := swb_iff.mp h
    unfold g1_44
    rw [if_neg (ne ha hc h1), if_neg (ne ha hd h2), if_neg (ne hb hc h3), if_pos (ne hb hd h5), rd a _ ha, sh_bit (by omega), if_neg (show ¬ bt (f a) c = true by rw [h6]; decide), if_neg (fun q => q rfl), rd b _ hb, sh_bit (by omega), if_neg (show ¬ bt (f b) d = true by rw [h7]; decide), if_pos rfl, c_turn4 hr h4, lf_cv_r]
  · intro h
    unfold g1_44
    by_cases h1 : a = c
    · rw [if_pos (by rw [h1])]
    rw [if_neg (ne ha hc h1)]
    by_cases h2 : a = d
    · rw [if_pos (by rw [h2])]
    rw [if_neg (ne ha hd h2)]
    by_cases h3 : b = c
    · rw [if_pos (by rw [h3])]
    rw [if_neg (ne hb hc h3)]
    by_cases h5 : b = d
    · rw [if_neg (fun q => q (by rw [h5]))]
    rw [if_pos (ne hb hd h5), rd a _ ha, sh_bit (by omega)]
    by_cases h6 : bt (f a) c = true
    · rw [if_pos h6, if_pos (by decide)]
    rw [if_neg h6, if_neg (fun q => q rfl), rd b _ hb, sh_bit (by omega)]
    by_cases h7 : bt (f b) d = true
    · rw [if_pos h7, if_neg (by decide)]
    · exfalso
      have : swb f a b c d = true := swb_iff.mpr ⟨h1, h2, h3, h5, ts_nt h6, ts_nt h7⟩
      rw [h] at this
      cases this
/-- swap; z: crossed -/
def cx (z : Int32) (c d : Nat) : Nat × Nat := if z = 0 then (c, d) else (d, c)
theorem c_swap {z : Int32} (hr : hp_lay[r]? = some (0, 24, [], [])) (ef : ∀ k, k < 24 → σ.1 r k = f k) (ha : a < 24) (hb : b < 24) (hc : c < 24) (hd : d < 24) (hab : a ≠ b) (hcd : c ≠ d) : (swb f a b (cx z c d).1 (cx z c d).2 = true → f1 N r (nI (32 * a + b)) (nI (32 * c + d)) z (hp σ, cs) = some (.inl (some (.int 1)), (hp (tl4 σ r a b (cx z c d).1 (cx z c d).2), cs))) ∧ (swb f a b (cx z c d).1 (cx z c d).2 = false → f1 N r (nI (32 * a + b)) (nI (32 * c + d)) z (hp σ, cs) = some (.inl (some (.int 0)), (hp σ, cs))) := by
  unfold f1 g1_27 cx
  rw [(lf_rem32 ha hb).1, (lf_rem32 ha hb).2, (lf_rem32 hc hd).1, (lf_rem32 hc hd).2]
  by_cases hz : z = 0
  · simp only [if_pos hz]
    exact c_sw44 hr ef ha hb hc hd hab hcd
  · simp only [if_neg hz]
    exact c_sw44 hr ef ha hb hd hc hab (fun q => hcd q.symm)
theorem c_unswap {z : Int32} (hr : hp_lay[r]? = some (0, 24, [], [])) (ha : a < 24) (hb : b < 24) (hc : c < 24) (hd : d < 24) (h : d4 a b (cx z c d).1 (cx z c d).2) : f3 N r (nI (32 * a + b)) (nI (32 * c + d)) z (hp σ, cs) = some (.inl none, (hp (tl4 σ r a b (cx z c d).1 (cx z c d).2), cs)) := by
  unfold f3 g3_32 g3_43
  unfold cx at h ⊢
  rw [(lf_rem32 ha hb).1, (lf_rem32 ha hb).2, (lf_rem32 hc hd).1, (lf_rem32 hc hd).2]
  by_cases hz : z = 0
  · simp only [if_pos hz] at h ⊢
    rw [c_turn4 hr h, lf_cv_r]
  · simp only [if_neg hz] at h ⊢
    rw [c_turn4 hr h, lf_cv_r]
/-- the model -/
theorem fl_other {p q k i : Nat} (hp' : p < 24) (hq : q < 24) (hne : p ≠ q) (hi : i < 24) (h : ¬ ((k = p ∧ i = q) ∨ (k = q ∧ i = p))) : bt (fl_r f p q k) i = bt (f k) i := by
  rw [fl_bit hp' hq hne (by omega), decide_eq_false h, Bool.xor_false]
theorem m_sw4 (ef : ∀ k, k < 24 → σ.1 76 k = f k) (h : d4 a b c d) (hl1 : bt (f a) b = true ∧ bt (f b) a = true) (hl2 : bt (f c) d = true ∧ bt (f d) c = true) (h1 : bt (f a) c = false ∧ bt (f c) a = false) (h2 : bt (f b) d = false ∧ bt (f d) b = false) : ∃ τ, fr [76] [] σ τ ∧ (∀ k, k < 24 → τ.1 76 k = swx f a b c d k) ∧ ∀ g : lf_W → lf_R, (lf_cv (f184 N 72 (nI a) (nI b) (hp σ, cs)) fun w21 => if lf_is w21 72 12 = true then (lf_cv (f184 N 72 (nI c) (nI d) w21) fun w27 => if lf_is w27 72 12 = true then (lf_cv (f183 N 72 (nI a) (nI c) w27) fun w33 => if lf_is w33 72 12 = true then (lf_cv (f183 N 72 (nI b) (nI d) w33) fun w39 => g w39) else none) else none) else none) = g (hp τ, cs) := by
  obtain ⟨q1, q2, q3, q4, q5, q6, q7, q8, q9, q10⟩ := h
  obtain ⟨s1, a1, a2, a3⟩ := m_parts2 (σ := σ) (cs := cs) (N := N) q1 q2 q5 ef hl1.1 hl1.2
  obtain ⟨s2, b1, b2, b3⟩ := m_parts2 (σ := s1) (cs := cs) (N := N) q3 q4 q6 a2 (by rw [fl_other q1 q2 q5 q4 (by omega)]; exact hl2.1) (by rw [fl_other q1 q2 q5 q3 (by omega)]; exact hl2.2)
  obtain ⟨s3, c1, c2, c3⟩ := m_joins2 (σ := s2) (cs := cs) (N := N) q1 q3 q7 b2 (by rw [fl_other q3 q4 q6 q3 (by omega), fl_other q1 q2 q5 q3 (by omega)]; exact h1.1) (by rw [fl_other q3 q4 q6 q1 (by omega), fl_other q1 q2 q5 q1 (by omega)]; exact h1.2)
  obtain ⟨s4, d1, d2, d3⟩ := m_joins2 (σ := s3) (cs := cs) (N := N) q2 q4 q10 c2 (by rw [fl_other q1 q3 q7 q4 (by omega), fl_other q3 q4 q6 q4 (by omega), fl_other q1 q2 q5 q4 (by omega)]; exact h2.1) (by rw [fl_other q1 q3 q7 q2 (by omega), fl_other q3 q4 q6 q2 (by omega), fl_other q1 q2 q5 q2 (by omega)]; exact h2.2)
  refine ⟨s4, ((a1.tr b1).tr c1).tr d1, d2, fun g => ?_⟩
  rw [a3, lf_cv_r, o72, b3, lf_cv_r, o72, c3, lf_cv_r, o72, d3, lf_cv_r]
theorem m_chg {L : List (Nat × Nat)} {n i j : Nat} {z : Int32} (hn : n ≤ 24) (hw : gw f n) (ef : ∀ k, k < 24 → σ.1 76 k = f k) (hL : lnM σ L) (h96 : L.length ≤ 96) (hi : L[i]? = some (a, b)) (hj : L[j]? = some (c, d)) (hab : a ≠ b) (hcd : c ≠ d) (h1 : bt (f a) b = true) (h2 : bt (f c) d = true) (ha : a < 24) (hb : b < 24) (hc : c < 24) (hd : d < 24) : (swb f a b (cx z c d).1 (cx z c d).2 = true → ∃ τ, fr [76] [] σ τ ∧ (∀ k, k < 24 → τ.1 76 k = swx f a b (cx z c d).1 (cx z c d).2 k) ∧ f237 N 72 (nI i) (nI j) z (hp σ, cs) = some (.inl (some (.int 1)), (hp τ, cs))) ∧ (swb f a b (cx z c d).1 (cx z c d).2 = false → f237 N 72 (nI i) (nI j) z (hp σ, cs) = some (.inl (some (.int 0)), (hp σ, cs))) := by
  have hi9 : i < 96 := by have := (List.getElem?_eq_some_iff.mp hi).1; omega
  have hj9 : j < 96 := by have := (List.getElem?_eq_some_iff.mp hj).1; omega
  have key : ∀ c d : Nat, c < 24 → d < 24 → c ≠ d → bt (f c) d = true → (swb f a b c d = true → ∃ τ, fr [76] [] σ τ ∧ (∀ k, k < 24 → τ.1 76 k = swx f a b c d k) ∧ g237_56 N 72 (nI a) (nI b) (nI c) (nI d) (hp σ, cs) = some (.inl (some (.int 1)), (hp τ, cs))) ∧ (swb f a b c d = false → g237_56 N 72 (nI a) (nI b) (nI c) (nI d) (hp σ, cs) = some (.inl (some (.int 0)), (hp σ, cs))) := by
    intro c d hc hd hcd h2
    have ne : ∀ {p q : Nat}, p < 24 → q < 24 → p ≠ q → ¬ nI p = nI q := fun hp hq h => by rw [q_eq (by omega) (by omega)]; exact h
    have sy : ∀ {p q : Nat}, p < 24 → q < 24 → bt (f p) q = false → bt (f q) p = false := by
      intro p q hp hq h
      cases e : bt (f q) p with
      | false => rfl
      | true => rw [(hw q hq p e).2.2.2] at h; cases h
    constructor
    · intro h
      have h4 := swb_d4 ha hb hc hd hab hcd h
      obtain ⟨e1, e2, e3, e5, e6, e7⟩ := swb_iff.mp h
      obtain ⟨τ, t1, t2, t3⟩ := m_sw4 (σ := σ) (cs := cs) (N := N) ef h4 ⟨h1, (hw a ha b h1).2.2.2⟩ ⟨h2, (hw c hc d h2).2.2.2⟩ ⟨e6, sy ha hc e6⟩ ⟨e7, sy hb hd e7⟩
      refine ⟨τ, t1, t2, ?_⟩
      unfold g237_56
      rw [if_neg (ne ha hc e1), if_neg (ne ha hd e2), if_neg (ne hb hc e3), if_neg (ne hb hd e5), o72, m_joined ha hc, ef a ha, if_neg (show ¬ bt (f a) c = true by rw [e6]; decide), lf_ci_r, if_neg (fun q => q rfl), o72, m_joined hb hd, ef b hb, if_neg (show ¬ bt (f b) d = true by rw [e7]; decide), lf_ci_r, if_pos rfl, o72]
      exact t3 _
    · intro h
      unfold g237_56
      by_cases e1 : a = c
      · rw [if_pos (by rw [e1])]
      rw [if_neg (ne ha hc e1)]
      by_cases e2 : a = d
      · rw [if_pos (by rw [e2])]
      rw [if_neg (ne ha hd e2)]
      by_cases e3 : b = c
      · rw [if_pos (by rw [e3])]
      rw [if_neg (ne hb hc e3)]
      by_cases e5 : b = d
      · rw [if_pos (by rw [e5])]
      rw [if_neg (ne hb hd e5), o72, m_joined ha hc, ef a ha]
      by_cases e6 : bt (f a) c = true
      · rw [if_pos e6, lf_ci_r, if_pos (by decide)]
      rw [if_neg e6, lf_ci_r, if_neg (fun q => q rfl), o72, m_joined hb hd, ef b hb]
      by_cases e7 : bt (f b) d = true
      · rw [if_pos e7, lf_ci_r, if_neg (by decide)]
      · exfalso
        have : swb f a b c d = true := swb_iff.mpr ⟨e1, e2, e3, e5, ts_nt e6, ts_nt e7⟩
        rw [h] at this
        cases this
  have pre : f237 N 72 (nI i) (nI j) z (hp σ, cs) = g237_56 N 72 (nI a) (nI b) (nI (cx z c d).1) (nI (cx z c d).2) (hp σ, cs) := by
    unfold f237 g237_35 cx
    by_cases hz : z = 0
    · simp only [if_pos hz]
      rw [r72_21, a79 hi9, r72_22, a80 hi9, r72_21, a79 hj9, r72_22, a80 hj9, (hL.2 i a b hi).1, (hL.2 i a b hi).2, (hL.2 j c d hj).1, (hL.2 j c d hj).2]
    · simp only [if_neg hz]
      rw [r72_21, a79 hi9, r72_22, a80 hi9, r72_22, a80 hj9, r72_21, a79 hj9, (hL.2 i a b hi).1, (hL.2 i a b hi).2, (hL.2 j c d hj).1, (hL.2 j c d hj).2]
  rw [pre]
  unfold cx
  by_cases hz : z = 0
  · rw [if_pos hz]; exact key c d hc hd hcd h2
  · rw [if_neg hz]; exact key d c hd hc (fun q => hcd q.symm) (hw c hc d h2).2.2.2
end SW
