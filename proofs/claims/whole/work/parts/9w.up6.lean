/-! the model spreads over 48 places -/
section UW
variable {f : Nat → Int32} {n v a t N : Nat} {cs : Nat × Nat}
def vC (σ : hp_S) (f : Nat → Int32) (n v : Nat) : Prop := σ.2.2.1 72 4 = nI n ∧ (∀ k, k < 24 → σ.1 76 k = f k) ∧ ∀ u, u < n → σ.1 81 (24 * v + u) = nI (gd f (al n) v u)
/-- all that stays -/
def vH (f : Nat → Int32) (n v a : Nat) : Prop := n ≤ 24 ∧ gw f n ∧ v < n ∧ a < n ∧ ∀ x, x < n → gd f (al n) v x < 24
theorem vC.fr {σ τ : hp_S} (h : vC σ f n v) (k : fr [114] [] σ τ) : vC τ f n v := ⟨by rw [k.f List.not_mem_nil]; exact h.1, fun j hj => by rw [k.r (by decide)]; exact h.2.1 j hj, fun u hu => by rw [k.r (by decide)]; exact h.2.2 u hu⟩
theorem m_isUp {σ : hp_S} (h : vH f n v a) (hc : vC σ f n v) {u w : Nat} (hu : u < n) (hw : w < n) (hb : bt (f u) w = true) : f280 N 72 (nI v) (nI u) (nI w) (hp σ, cs) = some (.inl (some (.int (if bt (uPr f n v u) w = true then 1 else 0))), (hp σ, cs)) := by
  obtain ⟨hn, hgw, hv, ha, hlt⟩ := h
  have l1 := hlt u hu
  have l2 := hlt w hw
  have ei : ∀ x, (24 : Int32) * nI v + nI x = nI (24 * v + x) := fun x => by rw [show (24 : Int32) = nI 24 from rfl, pk_mul, nI_add]
  unfold f280 g280_45
  rw [r72_23, ei, a81 (by omega), r72_23, ei, a81 (by omega), hc.2.2 u hu, hc.2.2 w hw]
  by_cases c1 : gd f (al n) v w < gd f (al n) v u
  · rw [if_pos (nI_lt c1 (by omega)), if_pos ((uP_bt hv hn hu l1).mpr ⟨hb, Or.inl c1⟩)]
  rw [if_neg (nI_nlt (by omega) (by omega))]
  by_cases c2 : gd f (al n) v w = gd f (al n) v u
  · rw [if_neg (fun z => z (by rw [c2]))]
    by_cases c3 : w < u
    · rw [if_neg (nI_ge c3 (by omega)), if_pos ((uP_bt hv hn hu l1).mpr ⟨hb, Or.inr ⟨c2, c3⟩⟩)]
    · rw [if_pos (nI_le (by omega) (by omega)), if_neg (fun z => by have := ((uP_bt hv hn hu l1).mp z).2; omega)]
  · rw [if_pos (show ¬ nI (gd f (al n) v w) = nI (gd f (al n) v u) by rw [q_eq (by omega) (by omega)]; exact c2), if_neg (fun z => by have := ((uP_bt hv hn hu l1).mp z).2; omega)]
theorem uPD {u w : Nat} (h : vH f n v a) (hu : u < n) : (bt (uPr f n v u) w = true → bt (f u) w = true) ∧ (bt (uDr f n v u) w = true ↔ bt (f u) w = true ∧ ¬ bt (uPr f n v u) w = true) := by
  obtain ⟨hn, hgw, hv, ha, hlt⟩ := h
  have l1 := hlt u hu
  refine ⟨fun z => ((uP_bt hv hn hu l1).mp z).1, ?_⟩
  rw [uD_bt hv hn hu l1, uP_bt hv hn hu l1]
  constructor
  · rintro ⟨z1, z2⟩
    exact ⟨z1, fun y => z2 y.2⟩
  · rintro ⟨z1, z2⟩
    exact ⟨z1, fun y => z2 ⟨z1, y⟩⟩
/-- one place -/
theorem m_set {σ : hp_S} {x y : Nat} {x1 x3 x6 x7 : Int32} {k33 : Nat → Int32 → Int32 → Int32 → lf_W → lf_R} {k42 : Nat → Int32 → Int32 → Int32 → Int32 → lf_W → lf_R} {k74 : Nat → Int32 → Int32 → Int32 → Int32 → Int32 → Int32 → lf_W → lf_R} (h : vH f n v a) (ht : t ≤ 47) (hx : x < 48) (hy : y < 48) (hxt : rB (uPr f n v) (uDr f n v) a t x = true) (he : eB (uPr f n v) (uDr f n v) x y = true) (hL : vL σ (uPr f n v) (uDr f n v) a t) (hF : vF σ (uPr f n v) (uDr f n v) a t x3) : ∃ (τ : hp_S) (x3' : Int32), fr [114] [] σ τ ∧ vL τ (uPr f n v) (uDr f n v) a t ∧ vF τ (uPr f n v) (uDr f n v) a t x3' ∧ vK σ τ ∧ ¬ τ.1 114 y = -1 ∧ g281_137 N k33 k42 k74 72 x1 x3 (nI t) (nI x) x6 x7 (nI y) (hp σ, cs) = k74 72 x1 x3' (nI t) (nI x) x6 (x7 + 1) (hp τ, cs) := by
  obtain ⟨hn, hgw, hv, ha, hlt⟩ := h
  have hs : rB (uPr f n v) (uDr f n v) a (t + 1) y = true := (rB_s ha hn (fun j i z => uP_in hgw hn z) (fun j i z => uD_in hgw hn z)).mpr (Or.inr ⟨x, hx, hxt, he⟩)
  by_cases c : σ.1 114 y = -1
  · have hny : ¬ rB (uPr f n v) (uDr f n v) a t y = true := by
      intro z
      have e := (hL y hy).1 z
      have l : fB (uPr f n v) (uDr f n v) a y ≤ t := (fB_iff ha hn (fun j i z => uP_in hgw hn z) (fun j i z => uD_in hgw hn z) (by omega)).mp z
      rw [c] at e
      exact absurd e.symm (by rw [q_ne1 (by omega)]; exact id)
    refine ⟨hp_wi σ 114 y (nI (t + 1)), 1, fr.wi (by decide), fun z hz => ⟨fun q => ?_, fun q => ?_⟩, ⟨Or.inr rfl, fun q => absurd q (by decide), fun _ => ⟨y, hy, hny, hs⟩⟩, fun z hz q => ?_, ?_, ?_⟩
    · by_cases e : z = y
      · exact absurd (e ▸ q) hny
      · rw [hp_wi_nj e]; exact (hL z hz).1 q
    · by_cases e : z = y
      · rw [e, hp_wi_at]; exact Or.inr ⟨rfl, hs⟩
      · rw [hp_wi_nj e]; exact (hL z hz).2 q
    · by_cases e : z = y
      · rw [e, hp_wi_at, q_ne1 (by omega)]; exact id
      · rw [hp_wi_nj e]; exact q
    · rw [hp_wi_at, q_ne1 (by omega)]; exact id
    · unfold g281_137 g281_164
      rw [r72_72, a114 hy, if_pos c, r72_72, nI_1, b114 hy]
  · refine ⟨σ, x3, fr.rf, hL, hF, fun _ _ q => q, c, ?_⟩
    unfold g281_137 g281_164
    rw [r72_72, a114 hy, if_neg c]
theorem m_vW {x : Nat} {k33 : Nat → Int32 → Int32 → Int32 → lf_W → lf_R} {k42 : Nat → Int32 → Int32 → Int32 → Int32 → lf_W → lf_R} (h : vH f n v a) (ht : t ≤ 47) (hx : x < 48) (hxn : x % 24 < n) (hxt : rB (uPr f n v) (uDr f n v) a t x = true) : ∀ (m w u : Nat) (x3 : Int32) (σ : hp_S), w + m = n → m < u → vC σ f n v → vL σ (uPr f n v) (uDr f n v) a t → vF σ (uPr f n v) (uDr f n v) a t x3 → ∃ (τ : hp_S) (x3' : Int32), fr [114] [] σ τ ∧ vL τ (uPr f n v) (uDr f n v) a t ∧ vF τ (uPr f n v) (uDr f n v) a t x3' ∧ vK σ τ ∧ (∀ w' y, w ≤ w' → (y = w' ∨ y = w' + 24) → w' < n → eB (uPr f n v) (uDr f n v) x y = true → ¬ τ.1 114 y = -1) ∧ g281_74 N k33 k42 u 72 (nI v) x3 (nI t) (nI x) (nI (x % 24)) (nI w) (hp σ, cs) = k42 72 (nI v) x3' (nI t) (nI (x + 1)) (hp τ, cs) := by
  have hn := h.1
  have eW : ∀ w, w < 24 → eB (uPr f n v) (uDr f n v) x w = (decide (x < 24) && bt (uPr f n v (x % 24)) w) := fun w hw => by
    unfold eB
    by_cases c : x < 24
    · rw [if_pos c, if_pos hw, decide_eq_true c, Bool.true_and, Nat.mod_eq_of_lt c]
    · rw [if_neg c, if_pos hw, decide_eq_false c, Bool.false_and]
  have eD : ∀ w, w < 24 → eB (uPr f n v) (uDr f n v) x (w + 24) = bt (uDr f n v (x % 24)) w := fun w hw => by
    unfold eB
    by_cases c : x < 24
    · rw [if_pos c, if_neg (by omega), show w + 24 - 24 = w by omega, Nat.mod_eq_of_lt c]
    · rw [if_neg c, if_neg (by omega), show w + 24 - 24 = w by omega, show x % 24 = x - 24 by omega]
  intro m
  induction m with
  | zero =>
    intro w u x3 σ hw hu hc hL hF
    obtain ⟨u, rfl⟩ : ∃ q, u = q + 1 := ⟨u - 1, by omega⟩
    refine ⟨σ, x3, fr.rf, hL, hF, fun _ _ q => q, fun w' y q1 q2 q3 => by omega, ?_⟩
    unfold g281_74 g281_170
    rw [i72_4, hc.1, if_pos (nI_le (by omega) (by omega)), nI_1]
  | succ m ih =>
    intro w u x3 σ hw hu hc hL hF
    obtain ⟨u, rfl⟩ : ∃ q, u = q + 1 := ⟨u - 1, by omega⟩
    have hwn : w < n := by omega
    obtain ⟨hp1, hp2⟩ := uPD (w := w) h hxn
    have step : ∃ (τ : hp_S) (x3' : Int32), fr [114] [] σ τ ∧ vL τ (uPr f n v) (uDr f n v) a t ∧ vF τ (uPr f n v) (uDr f n v) a t x3' ∧ vK σ τ ∧ (∀ y, (y = w ∨ y = w + 24) → eB (uPr f n v) (uDr f n v) x y = true → ¬ τ.1 114 y = -1) ∧ g281_74 N k33 k42 (u + 1) 72 (nI v) x3 (nI t) (nI x) (nI (x % 24)) (nI w) (hp σ, cs) = g281_74 N k33 k42 u 72 (nI v) x3' (nI t) (nI x) (nI (x % 24)) (nI w + 1) (hp τ, cs) := by
      have pre : g281_74 N k33 k42 (u + 1) 72 (nI v) x3 (nI t) (nI x) (nI (x % 24)) (nI w) (hp σ, cs) = lf_ci (some (.inl (some (.int (if bt (f (x % 24)) w = true then 1 else 0))), (hp σ, cs))) fun v10 w4 => if ¬ v10 = 0 then (if lf_is w4 72 12 = true then (lf_ci (f280 N 72 (nI v) (nI (x % 24)) (nI w) w4) fun v18 w12 => if v18 = 0 then (g281_123 N k33 k42 (g281_74 N k33 k42 u) 72 (nI v) x3 (nI t) (nI x) (nI (x % 24)) (nI w) v18 (nI w + 24) w12) else (g281_123 N k33 k42 (g281_74 N k33 k42 u) 72 (nI v) x3 (nI t) (nI x) (nI (x % 24)) (nI w) v18 (nI w) w12)) else none) else (g281_164 N k33 k42 (g281_74 N k33 k42 u) 72 (nI v) x3 (nI t) (nI x) (nI (x % 24)) (nI w) w4) := by
        rw [g281_74]
        rw [i72_4, hc.1, if_neg (nI_ge hwn (by omega)), o72, m_joined (by omega) (by omega), hc.2.1 _ (by omega)]
      by_cases c1 : bt (f (x % 24)) w = true
      · have e2 := m_isUp (cs := cs) (N := N) h hc hxn hwn c1
        rw [pre, if_pos c1, lf_ci_r, if_pos (by decide), o72, e2, lf_ci_r]
        by_cases c2 : bt (uPr f n v (x % 24)) w = true
        · have nd : eB (uPr f n v) (uDr f n v) x (w + 24) = false := by
            rw [eD w (by omega)]
            cases z : bt (uDr f n v (x % 24)) w with
            | false => rfl
            | true => exact absurd c2 (hp2.mp z).2
          rw [if_pos c2, if_neg (by decide)]
          by_cases c3 : x < 24
          · obtain ⟨τ, x3', t1, t2, t3, t4, t5, t6⟩ := m_set (cs := cs) (N := N) (x1 := nI v) (x6 := nI (x % 24)) (x7 := nI w) (k33 := k33) (k42 := k42) (k74 := g281_74 N k33 k42 u) h ht hx (show w < 48 by omega) hxt (by rw [eW w (by omega), c2, decide_eq_true c3]; rfl) hL hF
            refine ⟨τ, x3', t1, t2, t3, t4, fun y q1 q2 => ?_, ?_⟩
            · rcases q1 with rfl | rfl
              · exact t5
              · rw [nd] at q2; cases q2
            · unfold g281_123
              rw [if_neg (by decide), if_neg (show ¬ (24 : Int32) ≤ nI x from nI_ge (b := 24) c3 (by omega))]
              exact t6
          · refine ⟨σ, x3, fr.rf, hL, hF, fun _ _ q => q, fun y q1 q2 => ?_, ?_⟩
            · rcases q1 with rfl | rfl
              · rw [eW _ (by omega), decide_eq_false c3, Bool.false_and] at q2; cases q2
              · rw [nd] at q2; cases q2
            · unfold g281_123 g281_164
              rw [if_neg (by decide), if_pos (show (24 : Int32) ≤ nI x from nI_le (a := 24) (by omega) (by omega))]
        · have nw : eB (uPr f n v) (uDr f n v) x w = false := by
            rw [eW w (by omega), show bt (uPr f n v (x % 24)) w = false by simpa using c2, Bool.and_false]
          obtain ⟨τ, x3', t1, t2, t3, t4, t5, t6⟩ := m_set (cs := cs) (N := N) (x1 := nI v) (x6 := nI (x % 24)) (x7 := nI w) (k33 := k33) (k42 := k42) (k74 := g281_74 N k33 k42 u) h ht hx (show w + 24 < 48 by omega) hxt (by rw [eD w (by omega)]; exact hp2.mpr ⟨c1, c2⟩) hL hF
          refine ⟨τ, x3', t1, t2, t3, t4, fun y q1 q2 => ?_, ?_⟩
          · rcases q1 with rfl | rfl
            · rw [nw] at q2; cases q2
            · exact t5
          · rw [if_neg c2, if_pos rfl]
            unfold g281_123
            rw [if_pos rfl, show nI w + 24 = nI (w + 24) from by rw [show (24 : Int32) = nI 24 from rfl, nI_add]]
            exact t6
      · refine ⟨σ, x3, fr.rf, hL, hF, fun _ _ q => q, fun y q1 q2 => ?_, ?_⟩
        · rcases q1 with rfl | rfl
          · rw [eW _ (by omega)] at q2
            simp only [Bool.and_eq_true] at q2
            exact absurd (hp1 q2.2) c1
          · rw [eD _ (by omega)] at q2
            exact absurd (hp2.mp q2).1 c1
        · rw [pre, if_neg c1, lf_ci_r, if_neg (fun z => z rfl)]
          rfl
    obtain ⟨τ, x3', t1, t2, t3, t4, t5, t6⟩ := step
    obtain ⟨υ, x3'', v1, v2, v3, v4, v5, v6⟩ := ih (w + 1) u x3' τ (by omega) (by omega) (hc.fr t1) t2 t3
    refine ⟨υ, x3'', t1.tr v1, v2, v3, fun y hy q => v4 y hy (t4 y hy q), fun w' y q1 q2 q3 q4 => ?_, ?_⟩
    · by_cases e : w' = w
      · subst e
        exact v4 y (by omega) (t5 y q2 q4)
      · exact v5 w' y (by omega) q2 q3 q4
    · rw [t6, nI_1, v6]
end UW
