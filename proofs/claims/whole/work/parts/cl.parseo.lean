/-! read: the model reads a text: all -/
section RDW
variable {cs : Nat × Nat} {N n p s kn e c sh z m : Nat} {B g : Nat → Nat} {f : Nat → Int32} {σ : hp_S}
theorem m_30no {x : Int32} (h : ¬ σ.2.2.1 72 9 = 0) : g204_30 N 72 x (hp σ, cs) = some (.inl none, (hp σ, cs)) := by
  unfold g204_30
  rw [o72, m_no h, lf_ci_r, if_neg (by decide)]
theorem m_19no {x y : Int32} (h : ¬ σ.2.2.1 72 9 = 0) : g204_19 N 72 x y (hp σ, cs) = some (.inl none, (hp σ, cs)) := by
  unfold g204_19
  by_cases d : x = 20
  · rw [if_neg (fun q => q d), o72, m_wn h, lf_cv_r, m_30no h]
  · rw [if_pos d, m_30no h]
/-- the model's clause -/
theorem m_clause (hN : iv_N N) (hB : TB B n) (hkn : kn ≤ 24) (he : e ≤ 8) (hG : rdG f kn e) (hq : p ≤ n) (hz : z ≤ 20) (hT : TM σ B n) (hM : MK σ B n p) (hg : MGd σ) (h4 : σ.2.2.1 72 4 = nI kn) (h5 : σ.2.2.1 72 5 = nI e) (h76 : ∀ k, k < 24 → σ.1 76 k = f k) : ((rdE B n p kn e f z).1 = 0 → ∃ τ, fr [76, 78] [(72, 9), (72, 10), (72, 12), (72, 13), (72, 14), (72, 15), (72, 16), (72, 17), (72, 19)] σ τ ∧ MGd τ ∧ MK τ B n (rdQ B n p kn).2.2.2.2 ∧ (∀ k, k < 24 → τ.1 76 k = (rdV B n p kn e f).2 k) ∧ f204 N 72 (nI z) (hp σ, cs) = some (.inl none, (hp τ, cs))) ∧ (¬ (rdE B n p kn e f z).1 = 0 → ∃ τ, fr [76, 78] [(72, 9), (72, 10), (72, 12), (72, 13), (72, 14), (72, 15), (72, 16), (72, 17), (72, 19)] σ τ ∧ MBd τ (rdE B n p kn e f z).1 (rdE B n p kn e f z).2 ∧ f204 N 72 (nI z) (hp σ, cs) = some (.inl none, (hp τ, cs))) := by
  have hn := hB.1
  have x7 := tkX_le (B := B) (n := n) (p := p)
  have m14 := hM.2.1
  unfold rdE
  have kw := m_known (N := N) (cs := cs) hM hq hn
  by_cases c1 : 4 < tkX B n p
  · rw [if_pos c1]
    refine ⟨fun h => nz1 h, fun _ => ?_⟩
    obtain ⟨τ, q1, q2, q3⟩ := m_wrB (N := N) (cs := cs) (x := 1) hg m14
    have nb := q2.no (by omega) (by omega)
    refine ⟨τ, q1.wk (fun _ z => absurd z List.not_mem_nil) (by decide), q2, ?_⟩
    have e14 : ∀ y : Int32, g204_14 N 72 (nI z) y (hp σ, cs) = some (.inl none, (hp τ, cs)) := by
      intro y
      unfold g204_14
      rw [o72]
      rw [show f198 N 72 1 (hp σ, cs) = _ from q3, lf_cv_r, m_19no nb]
    unfold f204
    rw [o72, kw, lf_ci_r]
    by_cases d : tkX B n p = 7
    · rw [if_pos d, if_pos (by decide), e14]
    · rw [if_neg d, if_neg (nI_pos (by omega)), if_neg (show ¬ nI (tkX B n p) ≤ 4 from nI_ge (a := 4) c1 (by omega)), e14]
  · rw [if_neg c1]
    have pre : f204 N 72 (nI z) (hp σ, cs) = g204_19 N 72 (nI z) (nI (tkX B n p)) (hp σ, cs) := by
      unfold f204
      rw [o72, kw, lf_ci_r, if_neg (show ¬ tkX B n p = 7 by omega), if_neg (nI_pos (by omega)), if_pos (show nI (tkX B n p) ≤ 4 from nI_le (b := 4) (by omega) (by omega))]
    rw [pre]
    unfold g204_19
    by_cases c2 : z = 20
    · rw [if_pos c2]
      refine ⟨fun h => nz2 h, fun _ => ?_⟩
      obtain ⟨τ, q1, q2, q3⟩ := m_wrB (N := N) (cs := cs) (x := 2) hg m14
      refine ⟨τ, q1.wk (fun _ z => absurd z List.not_mem_nil) (by decide), q2, ?_⟩
      rw [if_neg (show ¬ ¬ nI z = 20 from fun q => q (by rw [c2]; rfl)), o72]
      rw [show f198 N 72 2 (hp σ, cs) = _ from q3, lf_cv_r, m_30no (q2.no (by omega) (by omega))]
    · rw [if_neg c2, if_pos (show ¬ nI z = 20 from fun q => c2 ((nI_eq (b := 20) (by omega) (by omega)).mp q))]
      obtain ⟨y1, y2, y3⟩ := m_cl30 (N := N) (cs := cs) hN hB hkn he (by omega) hG hq hT hM hg h4 h5 h76
      by_cases c3 : (rdQ B n p kn).1 = 0
      · rw [if_neg (show ¬ ¬ (rdQ B n p kn).1 = 0 from fun q => q c3)]
        exact ⟨fun h => y1 ⟨c3, h⟩, fun h => y3 ⟨c3, h⟩⟩
      · rw [if_pos (show ¬ (rdQ B n p kn).1 = 0 from c3)]
        exact ⟨fun h => absurd h c3, fun _ => y2 c3⟩
theorem m_152no {u : Nat} {x y : Int32} (h : ¬ σ.2.2.1 72 9 = 0) : g205_152 N (u + 1) 72 x y (hp σ, cs) = g205_178 N 72 x (hp σ, cs) := by
  rw [g205_152, o72, m_no h, lf_ci_r, if_pos rfl]
theorem m_l152 {x1 : Int32} (hN : iv_N N) (hB : TB B n) (hkn : kn ≤ 24) (he : e ≤ 8) : ∀ (m z p u : Nat) (f : Nat → Int32) (σ : hp_S), z + m = 20 → m + 2 < u → p ≤ n → rdG f kn e → TM σ B n → MK σ B n p → MGd σ → σ.2.2.1 72 4 = nI kn → σ.2.2.1 72 5 = nI e → (∀ k, k < 24 → σ.1 76 k = f k) → ∃ τ, fr [76, 78] [(72, 9), (72, 10), (72, 12), (72, 13), (72, 14), (72, 15), (72, 16), (72, 17), (72, 19)] σ τ ∧ τ.2.2.1 72 9 = nI (rdC B n kn e (m + 1) p f).1 ∧ τ.2.2.1 72 10 = (if (rdC B n kn e (m + 1) p f).1 = 0 then -1 else nI (rdC B n kn e (m + 1) p f).2.1) ∧ ((rdC B n kn e (m + 1) p f).1 = 0 → ∀ k, k < 24 → τ.1 76 k = (rdC B n kn e (m + 1) p f).2.2 k) ∧ g205_152 N u 72 x1 (nI z) (hp σ, cs) = g205_178 N 72 x1 (hp τ, cs) := by
  intro m
  induction m using Nat.strongRecOn with
  | ind m ih =>
    intro z p u f σ hz hu hq hG hT hM hg h4 h5 h76
    obtain ⟨u, rfl⟩ : ∃ q, u = q + 1 := ⟨u - 1, by omega⟩
    have k4 := tkK_le (B := B) (n := n) (p := p)
    have m13 := hM.1
    by_cases k0 : tkK B n p = 0
    · rw [rdC_a k0]
      refine ⟨σ, fr.rf, hg.1, hg.2, fun _ => h76, ?_⟩
      rw [g205_152, o72, m_ok hg.1, lf_ci_r, if_neg (by decide), i72_13, m13, if_pos (show nI (tkK B n p) = 0 by rw [k0]; rfl)]
    · obtain ⟨y1, y2⟩ := m_clause (N := N) (cs := cs) (z := z) hN hB hkn he hG hq (by omega) hT hM hg h4 h5 h76
      have le := rdE_le (B := B) (z := z) hkn hq hG
      have pre : ∀ τ1 : hp_S, f204 N 72 (nI z) (hp σ, cs) = some (.inl none, (hp τ1, cs)) → g205_152 N (u + 1) 72 x1 (nI z) (hp σ, cs) = g205_152 N u 72 x1 (nI (z + 1)) (hp τ1, cs) := by
        intro τ1 hτ
        rw [g205_152, o72, m_ok hg.1, lf_ci_r, if_neg (by decide), i72_13, m13, if_neg (nI_z (by omega) k0), o72, hτ, lf_cv_r, nI_1]
      by_cases c1 : (rdE B n p kn e f z).1 = 0
      · obtain ⟨d1, d2, d3, d4, d5⟩ := rdC_c hz k0 c1
        obtain ⟨τ1, b1, b2, b3, b4, b5⟩ := y1 c1
        rw [d1, pre τ1 b5]
        obtain ⟨m', rfl⟩ : ∃ q, m = q + 1 := ⟨m - 1, by omega⟩
        obtain ⟨τ, q1, q2, q3, q4, q5⟩ := ih m' (by omega) (z + 1) (rdQ B n p kn).2.2.2.2 u (rdV B n p kn e f).2 τ1 (by omega) (by omega) (rdQ_ok hq).2.2.1 (rdV_ok hkn hq d4 hG).2 (hT.fr b1 (by decide) (by decide)) b3 b2 (by rw [b1.f (by decide)]; exact h4) (by rw [b1.f (by decide)]; exact h5) b4
        exact ⟨τ, b1.tr q1, q2, q3, q4, q5⟩
      · obtain ⟨d1, d2⟩ := rdC_b hz k0 c1
        obtain ⟨τ1, b1, b2, b3⟩ := y2 c1
        rw [d1, d2, if_neg c1, pre τ1 b3]
        obtain ⟨u, rfl⟩ : ∃ q, u = q + 1 := ⟨u - 1, by omega⟩
        exact ⟨τ1, b1, b2.1, b2.2, fun q => absurd q c1, m_152no (b2.no c1 le.1)⟩
theorem m_200no {x : Int32} (h : ¬ σ.2.2.1 72 9 = 0) : f200 N 72 x (hp σ, cs) = some (.inl none, (hp σ, cs)) := by
  unfold f200
  rw [o72, m_no h, lf_ci_r, if_neg (by decide)]
theorem m_201no {x y : Int32} (h : ¬ σ.2.2.1 72 9 = 0) : f201 N 72 x y (hp σ, cs) = some (.inl (some (.int 0)), (hp σ, cs)) := by
  unfold f201
  rw [o72, m_no h, lf_ci_r, if_neg (by decide)]
theorem m_139no {x1 x3 x4 s0 : Int32} (hN : iv_N N) (h : ¬ σ.2.2.1 72 9 = 0) : ∃ τ, fr [76] [(72, 4), (72, 5)] σ τ ∧ g205_139 N 72 x1 x3 x4 s0 72 (hp σ, cs) = g205_178 N 72 x1 (hp τ, cs) := by
  have fw : fr [76] [(72, 4), (72, 5)] σ (m_cl σ x3 x4) := m_cl_fr
  refine ⟨m_cl σ x3 x4, fw, ?_⟩
  unfold g205_139
  rw [o72, m_200no h, lf_cv_r, o72, m_clears hN, lf_cv_r]
  obtain ⟨M, hM'⟩ : ∃ q, N = q + 1 := ⟨N - 1, by unfold iv_N at hN; omega⟩
  have e0 : g205_152 N (M + 1) 72 x1 0 (hp (m_cl σ x3 x4), cs) = g205_178 N 72 x1 (hp (m_cl σ x3 x4), cs) := m_152no (by rw [fw.f (by decide)]; exact h)
  rw [← hM'] at e0
  exact e0
theorem m_113no {x1 x3 s0 : Int32} (hN : iv_N N) (h : ¬ σ.2.2.1 72 9 = 0) : ∃ τ, fr [76] [(72, 4), (72, 5)] σ τ ∧ g205_113 N 72 x1 x3 s0 72 (hp σ, cs) = g205_178 N 72 x1 (hp τ, cs) := by
  unfold g205_113
  rw [o72, m_200no h, lf_cv_r, o72, m_201no h, lf_ci_r, i72_13]
  by_cases d : ¬ σ.2.2.1 72 13 = 3
  · rw [if_pos d]
    exact m_139no hN h
  · rw [if_neg d]
    exact m_139no hN h
theorem m_87no {x1 s0 : Int32} (hN : iv_N N) (h : ¬ σ.2.2.1 72 9 = 0) : ∃ τ, fr [76] [(72, 4), (72, 5)] σ τ ∧ g205_87 N 72 x1 s0 72 (hp σ, cs) = g205_178 N 72 x1 (hp τ, cs) := by
  obtain ⟨v, hv⟩ := m_known_any (N := N) (cs := cs) (σ := σ)
  unfold g205_87
  rw [o72, m_200no h, lf_cv_r, o72, m_201no h, lf_ci_r, o72, hv, lf_ci_r]
  by_cases d : ¬ v = 6
  · rw [if_pos d]
    exact m_113no hN h
  · rw [if_neg d]
    exact m_113no hN h
theorem m_need1 (hN : iv_N N) (hB : TB B n) (hT : TM σ B n) (hM : MK σ B n p) (hg : MGd σ) (hq : p ≤ n) : ∃ τ, fr [] [(72, 12), (72, 13), (72, 14), (72, 15), (72, 16), (72, 17)] σ τ ∧ MK τ B n (tkE B n p) ∧ f200 N 72 1 (hp σ, cs) = some (.inl none, (hp τ, cs)) := by
  obtain ⟨τ, q1, q2, q3⟩ := m_goes (N := N) (cs := cs) (p := tkE B n p) hN hB hT (tkE_le hq).2 hM.2.2.1
  refine ⟨τ, q1, q2, ?_⟩
  unfold f200
  rw [o72, m_ok hg.1, lf_ci_r, if_pos (by decide), if_neg (by decide), o72, q3, lf_cv_r]
theorem m_need0 (hM : MK σ B n p) (hg : MGd σ) : ∃ τ, fr [] [(72, 9), (72, 10)] σ τ ∧ MBd τ 1 (tkA B n p) ∧ f200 N 72 0 (hp σ, cs) = some (.inl none, (hp τ, cs)) := by
  obtain ⟨τ, q1, q2, q3⟩ := m_wrB (N := N) (cs := cs) (x := 1) hg hM.2.1
  refine ⟨τ, q1, q2, ?_⟩
  unfold f200
  rw [o72, m_ok hg.1, lf_ci_r, if_pos (by decide), if_pos rfl, o72]
  rw [show f198 N 72 1 (hp σ, cs) = _ from q3, lf_cv_r]
theorem m_54no {v : Int32} (h : ¬ σ.2.2.1 72 9 = 0) (h16 : σ.2.2.1 72 16 = v) : g201_54 N 72 (hp σ, cs) = some (.inl (some (.int v)), (hp σ, cs)) := by
  unfold g201_54
  rw [i72_16, h16, o72, m_no h, lf_ci_r, if_pos rfl]
/-- the model's number -/
theorem m_num {most : Nat} (hm : most ≤ 24) (hN : iv_N N) (hB : TB B n) (hT : TM σ B n) (hM : MK σ B n p) (hg : MGd σ) (hq : p ≤ n) : (rdZ B n p most = 0 → ∃ τ, fr [] [(72, 12), (72, 13), (72, 14), (72, 15), (72, 16), (72, 17)] σ τ ∧ MK τ B n (tkE B n p) ∧ f201 N 72 1 (nI most) (hp σ, cs) = some (.inl (some (.int (nI (rdN B n p)))), (hp τ, cs))) ∧ (¬ rdZ B n p most = 0 → ∃ (τ : hp_S) (v : Int32), fr [] [(72, 9), (72, 10)] σ τ ∧ MBd τ (rdZ B n p most) (tkA B n p) ∧ f201 N 72 1 (nI most) (hp σ, cs) = some (.inl (some (.int v)), (hp τ, cs))) := by
  have hn := hB.1
  obtain ⟨m13, m14, m12, m15, m16, m17⟩ := id hM
  have he := tkE_le (B := B) hq
  have k4 := tkK_le (B := B) (n := n) (p := p)
  have hv : rdN B n p ≤ 231088 := tkV_b (by omega) hB.2.1
  by_cases d1 : tkK B n p = 2
  case neg =>
    have ez : rdZ B n p most = 1 := by
      unfold rdZ
      rw [if_pos d1]
    obtain ⟨τ, q1, q2, q3⟩ := m_wrB (N := N) (cs := cs) (x := 1) hg m14
    refine ⟨fun h => by omega, fun _ => ⟨τ, τ.2.2.1 72 16, q1, by rw [ez]; exact q2, ?_⟩⟩
    unfold f201
    rw [o72, m_ok hg.1, lf_ci_r, if_pos (by decide), i72_13, m13, if_neg (show ¬ nI (tkK B n p) = 2 from fun q => d1 ((nI_eq (b := 2) (by omega) (by omega)).mp q)), o72]
    rw [show f198 N 72 1 (hp σ, cs) = _ from q3, lf_cv_r]
    exact m_54no (q2.no (by omega) (by omega)) rfl
  have v16 : σ.2.2.1 72 16 = nI (rdN B n p) := m16 d1
  by_cases d2 : 3 < tkE B n p - tkA B n p ∨ rdN B n p < 1 ∨ most < rdN B n p
  · have ez : rdZ B n p most = 2 := by
      unfold rdZ
      rw [if_neg (fun q => q d1), if_pos d2]
    obtain ⟨τ, q1, q2, q3⟩ := m_wrB (N := N) (cs := cs) (x := 2) hg m14
    have e49 : g201_49 N 72 (hp σ, cs) = some (.inl (some (.int (τ.2.2.1 72 16))), (hp τ, cs)) := by
      unfold g201_49
      rw [o72]
      rw [show f198 N 72 2 (hp σ, cs) = _ from q3, lf_cv_r]
      exact m_54no (q2.no (by omega) (by omega)) rfl
    refine ⟨fun h => by omega, fun _ => ⟨τ, τ.2.2.1 72 16, q1, by rw [ez]; exact q2, ?_⟩⟩
    · unfold f201
      rw [o72, m_ok hg.1, lf_ci_r, if_pos (by decide), i72_13, m13, if_pos (show nI (tkK B n p) = 2 by rw [d1]; rfl), i72_15, m15]
      by_cases e1 : 3 < tkE B n p - tkA B n p
      · rw [if_pos (show (3 : Int32) < nI (tkE B n p - tkA B n p) from nI_lt (a := 3) e1 (by omega)), e49]
      · rw [if_neg (show ¬ (3 : Int32) < nI (tkE B n p - tkA B n p) from nI_nlt (a := 3) (by omega) (by omega)), i72_16, v16]
        by_cases e2 : rdN B n p < 1
        · rw [if_pos (show nI (rdN B n p) < 1 from nI_lt (b := 1) e2 (by omega)), e49]
        · rw [if_neg (show ¬ nI (rdN B n p) < 1 from nI_nlt (b := 1) (by omega) (by omega)), i72_16, v16, if_neg (nI_ge (by omega) (by omega)), e49]
  · have ez : rdZ B n p most = 0 := by
      unfold rdZ
      rw [if_neg (fun q => q d1), if_neg d2]
    obtain ⟨τ, q1, q2, q3⟩ := m_goes (N := N) (cs := cs) (p := tkE B n p) hN hB hT he.2 m12
    refine ⟨fun _ => ⟨τ, q1, q2, ?_⟩, fun h => absurd ez h⟩
    unfold f201
    rw [o72, m_ok hg.1, lf_ci_r, if_pos (by decide), i72_13, m13, if_pos (show nI (tkK B n p) = 2 by rw [d1]; rfl), i72_15, m15, if_neg (show ¬ (3 : Int32) < nI (tkE B n p - tkA B n p) from nI_nlt (a := 3) (by omega) (by omega)), i72_16, v16, if_neg (show ¬ nI (rdN B n p) < 1 from nI_nlt (b := 1) (by omega) (by omega)), i72_16, v16, if_pos (nI_le (by omega) (by omega))]
    unfold g201_54
    rw [i72_16, v16, o72, m_ok hg.1, lf_ci_r, if_neg (by decide), o72, q3, lf_cv_r]
/-- what the model has read -/
def MRd (τ : hp_S) (B : Nat → Nat) (n : Nat) : Prop := τ.2.2.1 72 9 = nI (rdT B n).1 ∧ τ.2.2.1 72 10 = (if (rdT B n).1 = 0 then -1 else nI (rdT B n).2.1) ∧ ((rdT B n).1 = 0 → τ.2.2.1 72 4 = nI (rdN B n (rd1 B n)) ∧ τ.2.2.1 72 5 = nI (rdN B n (rd3 B n)) ∧ ∀ k, k < 24 → τ.1 76 k = (rdT B n).2.2 k)
theorem MRd_bad {τ υ : hp_S} {x pl : Nat} (h : MBd τ x pl) (hx : ¬ x = 0) (e : rdH B n = (x, pl)) (k : fr [76] [(72, 4), (72, 5)] τ υ) : MRd υ B n := by
  have eT : rdT B n = (x, pl, fun _ => 0) := by
    unfold rdT
    rw [e, if_pos (show ¬ ((x, pl) : Nat × Nat).1 = 0 from hx)]
  unfold MRd
  rw [eT, k.f (a := 72) (k := 9) (by decide), k.f (a := 72) (k := 10) (by decide)]
  exact ⟨h.1, by rw [if_neg (show ¬ ((x, pl, fun _ => 0) : Nat × Nat × (Nat → Int32)).1 = 0 from hx)]; exact h.2, fun q => absurd q hx⟩
theorem m_head {x1 : Int32} (hN : iv_N N) (hB : TB B n) (hT : TM σ B n) (hg : MGd σ) (h12 : σ.2.2.1 72 12 = nI 0) : ∃ τ, fr [76, 78] [(72, 4), (72, 5), (72, 9), (72, 10), (72, 12), (72, 13), (72, 14), (72, 15), (72, 16), (72, 17), (72, 19)] σ τ ∧ MRd τ B n ∧ (lf_cv (f195 N 72 (hp σ, cs)) fun w19 => if lf_is w19 72 12 = true then (lf_ci (f197 N 72 w19) fun v31 w25 => if ¬ v31 = 5 then (g205_87 N 72 x1 0 72 w25) else (g205_87 N 72 x1 1 72 w25)) else none) = g205_178 N 72 x1 (hp τ, cs) := by
  have hn := hB.1
  obtain ⟨l1, l2, l3, l4, l5⟩ := rd_le (B := B) (n := n)
  obtain ⟨σ1, a1, a2, a3⟩ := m_goes (N := N) (cs := cs) hN hB hT (Nat.zero_le n) h12
  have W1 : fr [76, 78] [(72, 4), (72, 5), (72, 9), (72, 10), (72, 12), (72, 13), (72, 14), (72, 15), (72, 16), (72, 17), (72, 19)] σ σ1 := a1.wk (by decide) (by decide)
  have T1 := hT.fr W1 (by decide) (by decide)
  have G1 := hg.fr a1 (by decide) (by decide)
  have x0 := tkX_le (B := B) (n := n) (p := 0)
  rw [a3, lf_cv_r, o72, m_known a2 (Nat.zero_le n) hn, lf_ci_r]
  by_cases c1 : tkX B n 0 = 5
  case neg =>
    obtain ⟨τ1, q1, q2, q3⟩ := m_need0 (N := N) (cs := cs) a2 G1
    have nb := q2.no (by omega) (by omega)
    obtain ⟨v, hv⟩ := m_known_any (N := N) (cs := cs) (σ := τ1)
    have e87 : ∃ τ, fr [76] [(72, 4), (72, 5)] τ1 τ ∧ g205_87 N 72 x1 0 72 (hp σ1, cs) = g205_178 N 72 x1 (hp τ, cs) := by
      unfold g205_87
      rw [o72, q3, lf_cv_r, o72, m_201no nb, lf_ci_r, o72, hv, lf_ci_r]
      by_cases d : ¬ v = 6
      · rw [if_pos d]
        exact m_113no hN nb
      · rw [if_neg d]
        exact m_113no hN nb
    obtain ⟨τ, r1, r2⟩ := e87
    refine ⟨τ, (W1.tr (q1.wk (fun _ z => absurd z List.not_mem_nil) (by decide))).tr (r1.wk (by decide) (by decide)), MRd_bad q2 (by omega) (by unfold rdH; rw [if_pos (show ¬ tkX B n 0 = 5 from c1)]) r1, ?_⟩
    have hne : ¬ (if tkX B n 0 = 7 then -1 else nI (tkX B n 0)) = 5 := by
      intro q
      by_cases d : tkX B n 0 = 7
      · rw [if_pos d] at q
        exact absurd q (by decide)
      · rw [if_neg d] at q
        exact c1 ((nI_eq (b := 5) (by omega) (by omega)).mp q)
    rw [if_pos hne, r2]
  rw [c1, if_neg (show ¬ (5 : Nat) = 7 by omega), if_neg (show ¬ ¬ nI 5 = 5 from fun q => q rfl)]
  obtain ⟨σ2, b1, b2, b3⟩ := m_need1 (N := N) (cs := cs) hN hB T1 a2 G1 (Nat.zero_le n)
  have b2 : MK σ2 B n (rd1 B n) := b2
  have W2 : fr [76, 78] [(72, 4), (72, 5), (72, 9), (72, 10), (72, 12), (72, 13), (72, 14), (72, 15), (72, 16), (72, 17), (72, 19)] σ σ2 := W1.tr (b1.wk (by decide) (by decide))
  have T2 := hT.fr W2 (by decide) (by decide)
  have G2 := G1.fr b1 (by decide) (by decide)
  obtain ⟨u1, u2⟩ := m_num (N := N) (cs := cs) (most := 24) (by omega) hN hB T2 b2 G2 l1
  unfold g205_87
  rw [o72, b3, lf_cv_r, o72]
  have zl := rdZ_le (B := B) (n := n) (p := rd1 B n) (most := 24)
  by_cases c2 : rdZ B n (rd1 B n) 24 = 0
  case neg =>
    obtain ⟨τ1, v13, q1, q2, q3⟩ := u2 c2
    have nb := q2.no c2 (by omega)
    obtain ⟨v, hv⟩ := m_known_any (N := N) (cs := cs) (σ := τ1)
    obtain ⟨τ, r1, r2⟩ : ∃ τ, fr [76] [(72, 4), (72, 5)] τ1 τ ∧ (if ¬ v = 6 then (g205_113 N 72 x1 v13 0 72 (hp τ1, cs)) else (g205_113 N 72 x1 v13 1 72 (hp τ1, cs))) = g205_178 N 72 x1 (hp τ, cs) := by
      by_cases d : ¬ v = 6
      · rw [if_pos d]
        exact m_113no hN nb
      · rw [if_neg d]
        exact m_113no hN nb
    refine ⟨τ, (W2.tr (q1.wk (fun _ z => absurd z List.not_mem_nil) (by decide))).tr (r1.wk (by decide) (by decide)), MRd_bad q2 c2 (by unfold rdH; rw [if_neg (show ¬ ¬ tkX B n 0 = 5 from fun q => q c1), if_pos (show ¬ rdZ B n (rd1 B n) 24 = 0 from c2)]) r1, ?_⟩
    rw [show f201 N 72 1 24 (hp σ2, cs) = _ from q3, lf_ci_r, o72, hv, lf_ci_r, r2]
  obtain ⟨σ3, d1, d2, d3⟩ := u1 c2
  have d2 : MK σ3 B n (rd2 B n) := d2
  have W3 : fr [76, 78] [(72, 4), (72, 5), (72, 9), (72, 10), (72, 12), (72, 13), (72, 14), (72, 15), (72, 16), (72, 17), (72, 19)] σ σ3 := W2.tr (d1.wk (by decide) (by decide))
  have T3 := hT.fr W3 (by decide) (by decide)
  have G3 := G2.fr d1 (by decide) (by decide)
  have x2 := tkX_le (B := B) (n := n) (p := rd2 B n)
  rw [show f201 N 72 1 24 (hp σ2, cs) = _ from d3, lf_ci_r, o72, m_known d2 l2 hn, lf_ci_r]
  by_cases c3 : tkX B n (rd2 B n) = 6
  case neg =>
    obtain ⟨τ1, q1, q2, q3⟩ := m_need0 (N := N) (cs := cs) d2 G3
    have nb := q2.no (by omega) (by omega)
    have e113 : ∃ τ, fr [76] [(72, 4), (72, 5)] τ1 τ ∧ g205_113 N 72 x1 (nI (rdN B n (rd1 B n))) 0 72 (hp σ3, cs) = g205_178 N 72 x1 (hp τ, cs) := by
      unfold g205_113
      rw [o72, q3, lf_cv_r, o72, m_201no nb, lf_ci_r, i72_13]
      by_cases d : ¬ τ1.2.2.1 72 13 = 3
      · rw [if_pos d]
        exact m_139no hN nb
      · rw [if_neg d]
        exact m_139no hN nb
    obtain ⟨τ, r1, r2⟩ := e113
    refine ⟨τ, (W3.tr (q1.wk (fun _ z => absurd z List.not_mem_nil) (by decide))).tr (r1.wk (by decide) (by decide)), MRd_bad q2 (by omega) (by unfold rdH; rw [if_neg (show ¬ ¬ tkX B n 0 = 5 from fun q => q c1), if_neg (show ¬ ¬ rdZ B n (rd1 B n) 24 = 0 from fun q => q c2), if_pos (show ¬ tkX B n (rd2 B n) = 6 from c3)]) r1, ?_⟩
    have hne : ¬ (if tkX B n (rd2 B n) = 7 then -1 else nI (tkX B n (rd2 B n))) = 6 := by
      intro q
      by_cases d : tkX B n (rd2 B n) = 7
      · rw [if_pos d] at q
        exact absurd q (by decide)
      · rw [if_neg d] at q
        exact c3 ((nI_eq (b := 6) (by omega) (by omega)).mp q)
    rw [if_pos hne, r2]
  rw [c3, if_neg (show ¬ (6 : Nat) = 7 by omega), if_neg (show ¬ ¬ nI 6 = 6 from fun q => q rfl)]
  obtain ⟨σ4, e1, e2, e3⟩ := m_need1 (N := N) (cs := cs) hN hB T3 d2 G3 l2
  have e2 : MK σ4 B n (rd3 B n) := e2
  have W4 : fr [76, 78] [(72, 4), (72, 5), (72, 9), (72, 10), (72, 12), (72, 13), (72, 14), (72, 15), (72, 16), (72, 17), (72, 19)] σ σ4 := W3.tr (e1.wk (by decide) (by decide))
  have T4 := hT.fr W4 (by decide) (by decide)
  have G4 := G3.fr e1 (by decide) (by decide)
  obtain ⟨v1, v2⟩ := m_num (N := N) (cs := cs) (most := 8) (by omega) hN hB T4 e2 G4 l3
  unfold g205_113
  rw [o72, e3, lf_cv_r, o72]
  have zl2 := rdZ_le (B := B) (n := n) (p := rd3 B n) (most := 8)
  by_cases c4 : rdZ B n (rd3 B n) 8 = 0
  case neg =>
    obtain ⟨τ1, v13, q1, q2, q3⟩ := v2 c4
    have nb := q2.no c4 (by omega)
    obtain ⟨τ, r1, r2⟩ : ∃ τ, fr [76] [(72, 4), (72, 5)] τ1 τ ∧ (if ¬ τ1.2.2.1 72 13 = 3 then (g205_139 N 72 x1 (nI (rdN B n (rd1 B n))) v13 0 72 (hp τ1, cs)) else (g205_139 N 72 x1 (nI (rdN B n (rd1 B n))) v13 1 72 (hp τ1, cs))) = g205_178 N 72 x1 (hp τ, cs) := by
      by_cases d : ¬ τ1.2.2.1 72 13 = 3
      · rw [if_pos d]
        exact m_139no hN nb
      · rw [if_neg d]
        exact m_139no hN nb
    refine ⟨τ, (W4.tr (q1.wk (fun _ z => absurd z List.not_mem_nil) (by decide))).tr (r1.wk (by decide) (by decide)), MRd_bad q2 c4 (by unfold rdH; rw [if_neg (show ¬ ¬ tkX B n 0 = 5 from fun q => q c1), if_neg (show ¬ ¬ rdZ B n (rd1 B n) 24 = 0 from fun q => q c2), if_neg (show ¬ ¬ tkX B n (rd2 B n) = 6 from fun q => q c3), if_pos (show ¬ rdZ B n (rd3 B n) 8 = 0 from c4)]) r1, ?_⟩
    rw [show f201 N 72 1 8 (hp σ4, cs) = _ from q3, lf_ci_r, i72_13, r2]
  obtain ⟨σ5, g1, g2, g3⟩ := v1 c4
  have g2 : MK σ5 B n (rd4 B n) := g2
  have W5 : fr [76, 78] [(72, 4), (72, 5), (72, 9), (72, 10), (72, 12), (72, 13), (72, 14), (72, 15), (72, 16), (72, 17), (72, 19)] σ σ5 := W4.tr (g1.wk (by decide) (by decide))
  have T5 := hT.fr W5 (by decide) (by decide)
  have G5 := G4.fr g1 (by decide) (by decide)
  have k4 := tkK_le (B := B) (n := n) (p := rd4 B n)
  rw [show f201 N 72 1 8 (hp σ4, cs) = _ from g3, lf_ci_r, i72_13, g2.1]
  by_cases c5 : tkK B n (rd4 B n) = 3
  case neg =>
    obtain ⟨τ1, q1, q2, q3⟩ := m_need0 (N := N) (cs := cs) g2 G5
    have nb := q2.no (by omega) (by omega)
    have fw : fr [76] [(72, 4), (72, 5)] τ1 (m_cl τ1 (nI (rdN B n (rd1 B n))) (nI (rdN B n (rd3 B n)))) := m_cl_fr
    refine ⟨m_cl τ1 (nI (rdN B n (rd1 B n))) (nI (rdN B n (rd3 B n))), (W5.tr (q1.wk (fun _ z => absurd z List.not_mem_nil) (by decide))).tr (fw.wk (by decide) (by decide)), MRd_bad q2 (by omega) (by unfold rdH; rw [if_neg (show ¬ ¬ tkX B n 0 = 5 from fun q => q c1), if_neg (show ¬ ¬ rdZ B n (rd1 B n) 24 = 0 from fun q => q c2), if_neg (show ¬ ¬ tkX B n (rd2 B n) = 6 from fun q => q c3), if_neg (show ¬ ¬ rdZ B n (rd3 B n) 8 = 0 from fun q => q c4), if_pos (show ¬ tkK B n (rd4 B n) = 3 from c5)]) fw, ?_⟩
    rw [if_pos (show ¬ nI (tkK B n (rd4 B n)) = 3 from fun q => c5 ((nI_eq (b := 3) (by omega) (by omega)).mp q))]
    unfold g205_139
    rw [o72, q3, lf_cv_r, o72, m_clears hN, lf_cv_r]
    obtain ⟨M, hM'⟩ : ∃ q, N = q + 1 := ⟨N - 1, by unfold iv_N at hN; omega⟩
    have e0 : g205_152 N (M + 1) 72 x1 0 (hp (m_cl τ1 (nI (rdN B n (rd1 B n))) (nI (rdN B n (rd3 B n)))), cs) = g205_178 N 72 x1 (hp (m_cl τ1 (nI (rdN B n (rd1 B n))) (nI (rdN B n (rd3 B n)))), cs) := m_152no (by rw [fw.f (by decide)]; exact nb)
    rw [← hM'] at e0
    exact e0
  rw [if_neg (show ¬ ¬ nI (tkK B n (rd4 B n)) = 3 from fun q => q (by rw [c5]; rfl))]
  obtain ⟨σ6, j1, j2, j3⟩ := m_need1 (N := N) (cs := cs) hN hB T5 g2 G5 l4
  have j2 : MK σ6 B n (rd5 B n) := j2
  have W6 : fr [76, 78] [(72, 4), (72, 5), (72, 9), (72, 10), (72, 12), (72, 13), (72, 14), (72, 15), (72, 16), (72, 17), (72, 19)] σ σ6 := W5.tr (j1.wk (by decide) (by decide))
  have G6 := G5.fr j1 (by decide) (by decide)
  unfold g205_139
  rw [o72, j3, lf_cv_r, o72, m_clears hN, lf_cv_r]
  have fw : fr [76] [(72, 4), (72, 5)] σ6 (m_cl σ6 (nI (rdN B n (rd1 B n))) (nI (rdN B n (rd3 B n)))) := m_cl_fr
  have f4 : (m_cl σ6 (nI (rdN B n (rd1 B n))) (nI (rdN B n (rd3 B n)))).2.2.1 72 4 = nI (rdN B n (rd1 B n)) := by
    show (hp_wf (hp_wf σ6 72 4 (nI (rdN B n (rd1 B n)))) 72 5 (nI (rdN B n (rd3 B n)))).2.2.1 72 4 = _
    rw [hp_wf_ne (by decide), hp_wf_at]
  have f5 : (m_cl σ6 (nI (rdN B n (rd1 B n))) (nI (rdN B n (rd3 B n)))).2.2.1 72 5 = nI (rdN B n (rd3 B n)) := by
    show (hp_wf (hp_wf σ6 72 4 (nI (rdN B n (rd1 B n)))) 72 5 (nI (rdN B n (rd3 B n)))).2.2.1 72 5 = _
    rw [hp_wf_at]
  have f7 : ∀ k, k < 24 → (m_cl σ6 (nI (rdN B n (rd1 B n))) (nI (rdN B n (rd3 B n)))).1 76 k = (fun _ => (0 : Int32)) k := fun k hk => hp_fill_at hk
  generalize m_cl σ6 (nI (rdN B n (rd1 B n))) (nI (rdN B n (rd3 B n))) = σ7 at fw f4 f5 f7 ⊢
  have W7 : fr [76, 78] [(72, 4), (72, 5), (72, 9), (72, 10), (72, 12), (72, 13), (72, 14), (72, 15), (72, 16), (72, 17), (72, 19)] σ σ7 := W6.tr (fw.wk (by decide) (by decide))
  obtain ⟨y1, y2, y3, y4⟩ := rdZ_0 c2
  obtain ⟨z1, z2, z3, z4⟩ := rdZ_0 c4
  have hNN : 22 < N := by
    unfold iv_N at hN
    omega
  obtain ⟨τ, q1, q2, q3, q4, q5⟩ := m_l152 (N := N) (cs := cs) (x1 := x1) (kn := rdN B n (rd1 B n)) (e := rdN B n (rd3 B n)) hN hB y4 z4 20 0 (rd5 B n) N (fun _ => 0) σ7 rfl hNN l5 rdG_0 (hT.fr W7 (by decide) (by decide)) (j2.fr fw (by decide) (by decide) (by decide) (by decide) (by decide) (by decide)) (G6.fr fw (by decide) (by decide)) f4 f5 f7
  have eT : rdT B n = rdC B n (rdN B n (rd1 B n)) (rdN B n (rd3 B n)) 21 (rd5 B n) (fun _ => 0) := by
    have eH : rdH B n = (0, 0) := by
      unfold rdH
      rw [if_neg (show ¬ ¬ tkX B n 0 = 5 from fun q => q c1), if_neg (show ¬ ¬ rdZ B n (rd1 B n) 24 = 0 from fun q => q c2), if_neg (show ¬ ¬ tkX B n (rd2 B n) = 6 from fun q => q c3), if_neg (show ¬ ¬ rdZ B n (rd3 B n) 8 = 0 from fun q => q c4), if_neg (show ¬ ¬ tkK B n (rd4 B n) = 3 from fun q => q c5)]
    unfold rdT
    rw [eH, if_neg (show ¬ ¬ ((0, 0) : Nat × Nat).1 = 0 from fun q => q rfl)]
  refine ⟨τ, W7.tr (q1.wk (by decide) (by decide)), ?_, q5⟩
  unfold MRd
  rw [eT]
  exact ⟨q2, q3, fun h => ⟨by rw [q1.f (by decide)]; exact f4, by rw [q1.f (by decide)]; exact f5, q4 h⟩⟩
/-- the model's read -/
theorem m_read {t : Nat} (hN : iv_N N) (hs : s < 8) (hB : TB B n) (hnt : n ≤ t) (ht : t ≤ 400) (h77 : ∀ j, j < n → σ.1 77 j = nI (B j)) (h8 : σ.2.2.1 72 8 = nI t) : ∃ τ, fr [76, 78] [(72, 0), (72, 4), (72, 5), (72, 8), (72, 9), (72, 10), (72, 11), (72, 12), (72, 13), (72, 14), (72, 15), (72, 16), (72, 17), (72, 19)] σ τ ∧ τ.2.2.1 72 0 = 0 ∧ τ.2.2.1 72 8 = 0 ∧ MRd τ B n ∧ f205 N 72 (nI s) (nI n) (hp σ, cs) = some (.inl (some (.int (nI (rdT B n).1))), (hp (if (rdT B n).1 = 0 then m_kp τ s else τ), cs)) := by
  have hn := hB.1
  have t6 := (rdT_ok (B := B) (n := n)).1
  have fw : fr [76, 78] [(72, 0), (72, 4), (72, 5), (72, 8), (72, 9), (72, 10), (72, 11), (72, 12), (72, 13), (72, 14), (72, 15), (72, 16), (72, 17), (72, 19)] σ (hp_wf (hp_wf (hp_wf (hp_wf (hp_wf (hp_wf σ 72 0 0) 72 8 0) 72 10 (-1)) 72 9 0) 72 11 (nI n)) 72 12 0) := (((((fr.wf (by decide)).tr (fr.wf (by decide))).tr (fr.wf (by decide))).tr (fr.wf (by decide))).tr (fr.wf (by decide))).tr (fr.wf (by decide))
  have e0 : (hp_wf (hp_wf (hp_wf (hp_wf (hp_wf (hp_wf σ 72 0 0) 72 8 0) 72 10 (-1)) 72 9 0) 72 11 (nI n)) 72 12 0).2.2.1 72 0 = 0 := by
    rw [hp_wf_ne (by decide), hp_wf_ne (by decide), hp_wf_ne (by decide), hp_wf_ne (by decide), hp_wf_ne (by decide), hp_wf_at]
  have e8 : (hp_wf (hp_wf (hp_wf (hp_wf (hp_wf (hp_wf σ 72 0 0) 72 8 0) 72 10 (-1)) 72 9 0) 72 11 (nI n)) 72 12 0).2.2.1 72 8 = 0 := by
    rw [hp_wf_ne (by decide), hp_wf_ne (by decide), hp_wf_ne (by decide), hp_wf_ne (by decide), hp_wf_at]
  have G : MGd (hp_wf (hp_wf (hp_wf (hp_wf (hp_wf (hp_wf σ 72 0 0) 72 8 0) 72 10 (-1)) 72 9 0) 72 11 (nI n)) 72 12 0) := by
    refine ⟨?_, ?_⟩
    · rw [hp_wf_ne (by decide), hp_wf_ne (by decide), hp_wf_at]
    · rw [hp_wf_ne (by decide), hp_wf_ne (by decide), hp_wf_ne (by decide), hp_wf_at]
  have T : TM (hp_wf (hp_wf (hp_wf (hp_wf (hp_wf (hp_wf σ 72 0 0) 72 8 0) 72 10 (-1)) 72 9 0) 72 11 (nI n)) 72 12 0) B n := by
    refine ⟨?_, h77⟩
    rw [hp_wf_ne (by decide), hp_wf_at]
  have e12 : (hp_wf (hp_wf (hp_wf (hp_wf (hp_wf (hp_wf σ 72 0 0) 72 8 0) 72 10 (-1)) 72 9 0) 72 11 (nI n)) 72 12 0).2.2.1 72 12 = nI 0 := hp_wf_at
  have pre : f205 N 72 (nI s) (nI n) (hp σ, cs) = (lf_cv (f195 N 72 (hp (hp_wf (hp_wf (hp_wf (hp_wf (hp_wf (hp_wf σ 72 0 0) 72 8 0) 72 10 (-1)) 72 9 0) 72 11 (nI n)) 72 12 0), cs)) fun w19 => if lf_is w19 72 12 = true then (lf_ci (f197 N 72 w19) fun v31 w25 => if ¬ v31 = 5 then (g205_87 N 72 (nI s) 0 72 w25) else (g205_87 N 72 (nI s) 1 72 w25)) else none) := by
    unfold f205
    rw [w72_0, m_isS_in hs, lf_ci_r, o72, m_rt hp_wf_at (by decide), lf_ci_r, if_neg (by decide), if_neg (nI_pos (by omega)), i72_8, hp_wf_ne (by decide), h8, if_neg (nI_nlt hnt (by omega))]
    unfold g205_35
    rw [o72, m_rt hp_wf_at (by decide), lf_ci_r, if_pos (by decide), w72_8, w72_10, w72_9, w72_11, w72_12, o72]
  generalize hp_wf (hp_wf (hp_wf (hp_wf (hp_wf (hp_wf σ 72 0 0) 72 8 0) 72 10 (-1)) 72 9 0) 72 11 (nI n)) 72 12 0 = σ' at fw e0 e8 G T e12 pre
  obtain ⟨τ, q1, q2, q3⟩ := m_head (N := N) (cs := cs) (x1 := nI s) hN hB T G e12
  refine ⟨τ, fw.tr (q1.wk (by decide) (by decide)), by rw [q1.f (by decide)]; exact e0, by rw [q1.f (by decide)]; exact e8, q2, ?_⟩
  rw [pre, q3]
  unfold g205_178 g205_190
  by_cases c : (rdT B n).1 = 0
  · rw [if_pos c, o72, m_ok (by rw [q2.1, c]; rfl), lf_ci_r, if_neg (by decide), o72, m_keeps hs hN, lf_cv_r, i72_9, show (m_kp τ s).2.2.1 72 9 = nI (rdT B n).1 from q2.1]
  · rw [if_neg c, o72, m_no (by rw [q2.1]; exact nI_z (by omega) c), lf_ci_r, if_pos rfl, i72_9, q2.1]
end RDW
