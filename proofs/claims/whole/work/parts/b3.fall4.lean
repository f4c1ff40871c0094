section FM2
variable {cs : Nat × Nat} {N n d s : Nat} {f : Nat → Int32}
theorem m_farOf {σ : hp_S} {A : Int32} {g : Nat → Int32} (hn : n ≤ 24) (hN : iv_N N) (hA : ∀ i, bt A i = true → i < n) (hf : ∀ a b, bt A a = true → bt A b = true → bt (g a) b = true → bt (g b) a = true) (e : σ.2.2.1 72 4 = nI n) (ef : ∀ j, j < 24 → σ.1 76 j = g j) : ∃ τ, fr [81] [(72, 24), (72, 25)] σ τ ∧ f256 N 72 A (hp σ, cs) = some (.inl (some (.int (nI (gv g A - 1)))), (hp τ, cs)) := by
  obtain ⟨τ, q1, q2, q3⟩ := m_isWhole (σ := σ) (cs := cs) (N := N) (f := g) (A := A) hn hN hA hf e ef
  refine ⟨τ, q1, ?_⟩
  unfold f256 gv
  rw [o72, q3, lf_ci_r, Nat.add_sub_cancel]
  by_cases c : dS g A 23 = 0
  · rw [if_pos c, if_pos c, if_neg (by decide), i72_24, (q2 c).1]
  · rw [if_neg c, if_neg c, if_pos rfl]
    rfl
theorem x_andn {q : Nat} (hq : q < 32) {x : Int32} (h : bt x q = false) : x &&& (lf_shl 1 (nI q) ^^^ (-1)) = x := by
  apply b_ext
  intro i hi
  rw [Bool.eq_iff_iff, b_andn, b_one hq]
  constructor
  · exact fun z => z.1
  · intro z
    refine ⟨z, fun e => ?_⟩
    rw [e, h] at z
    cases z
theorem x_orn {q : Nat} (hq : q < 32) {x : Int32} (h : bt x q = true) : x ||| lf_shl 1 (nI q) = x := by
  apply b_ext
  intro i hi
  rw [Bool.eq_iff_iff, b_or_iff, b_one hq]
  constructor
  · rintro (z | z)
    · exact z
    · rw [z]; exact h
  · exact Or.inl
theorem m_parts0 {σ : hp_S} {p q : Nat} {g : Nat → Int32} (hp' : p < 24) (hq : q < 24) (hne : p ≠ q) (ef : ∀ k, k < 24 → σ.1 76 k = g k) (h1 : bt (g p) q = false) (h2 : bt (g q) p = false) : ∃ τ, fr [76] [] σ τ ∧ (∀ k, k < 24 → τ.1 76 k = g k) ∧ f184 N 72 (nI p) (nI q) (hp σ, cs) = some (.inl none, (hp τ, cs)) := by
  refine ⟨_, (fr.wi (by decide)).tr (fr.wi (by decide)), fun k hk => ?_, m_parts hp' hq hne⟩
  rw [ef p hp', ef q hq, x_andn (by omega) h1, x_andn (by omega) h2]
  by_cases c1 : k = q
  · rw [c1, hp_wi_at]
  · rw [hp_wi_nj c1]
    by_cases c2 : k = p
    · rw [c2, hp_wi_at]
    · rw [hp_wi_nj c2]; exact ef k hk
theorem m_joins1 {σ : hp_S} {p q : Nat} {g : Nat → Int32} (hp' : p < 24) (hq : q < 24) (hne : p ≠ q) (ef : ∀ k, k < 24 → σ.1 76 k = g k) (h1 : bt (g p) q = true) (h2 : bt (g q) p = true) : ∃ τ, fr [76] [] σ τ ∧ (∀ k, k < 24 → τ.1 76 k = g k) ∧ f183 N 72 (nI p) (nI q) (hp σ, cs) = some (.inl none, (hp τ, cs)) := by
  refine ⟨_, (fr.wi (by decide)).tr (fr.wi (by decide)), fun k hk => ?_, m_joins hp' hq hne⟩
  rw [ef p hp', ef q hq, x_orn (by omega) h1, x_orn (by omega) h2]
  by_cases c1 : k = q
  · rw [c1, hp_wi_at]
  · rw [hp_wi_nj c1]
    by_cases c2 : k = p
    · rw [c2, hp_wi_at]
    · rw [hp_wi_nj c2]; exact ef k hk
theorem m_fw {k i j : Nat} {σ : hp_S} (hg : GW n d f) (hN : iv_N N) (hk : k = 0 ∨ k = 1) (hij : i ≤ j) (hi : if k = 0 then j < (lq f n 0 n).length else j < n) (hm : MV σ n d f) (hL : lnM σ (lq f n 0 n)) : ∃ τ, fr [76, 81] [(72, 24), (72, 25)] σ τ ∧ MV τ n d f ∧ lnM τ (lq f n 0 n) ∧ f257 N 72 (nI k) (nI i) (nI j) (hp σ, cs) = some (.inl (some (.int (nI (vv k (lq f n 0 n) (al n, f) i j - 1)))), (hp τ, cs)) := by
  have hn := hg.2.1
  have hw := hg.2.2.2.2.1
  have h96 := hg.l96
  have done : ∀ τ, fr [76, 81] [(72, 24), (72, 25)] σ τ → (∀ k, k < 24 → τ.1 76 k = f k) → MV τ n d f ∧ lnM τ (lq f n 0 n) := fun τ w h => ⟨⟨by rw [w.f (by decide)]; exact hm.1, by rw [w.f (by decide)]; exact hm.2.1, by rw [w.f (by decide)]; exact hm.2.2.1, h⟩, hL.fr w (by decide) (by decide) (by decide)⟩
  rcases hk with rfl | rfl
  · rw [if_pos rfl] at hi
    have hj : j < (lq f n 0 n).length := hi
    have hi' : i < (lq f n 0 n).length := by omega
    have e1 : (lq f n 0 n)[i]? = some ((lp (lq f n 0 n) i).1, (lp (lq f n 0 n) i).2) := lp_get hi'
    have e2 : (lq f n 0 n)[j]? = some ((lp (lq f n 0 n) j).1, (lp (lq f n 0 n) j).2) := lp_get hj
    obtain ⟨u1, u2, u3, u4, u5⟩ := lq_get hn e1
    obtain ⟨v1, v2, v3, v4, v5⟩ := lq_get hn e2
    have hvv : vv 0 (lq f n 0 n) (al n, f) i j = gv (if i = j then fl_r f (lp (lq f n 0 n) i).1 (lp (lq f n 0 n) i).2 else fl_r (fl_r f (lp (lq f n 0 n) i).1 (lp (lq f n 0 n) i).2) (lp (lq f n 0 n) j).1 (lp (lq f n 0 n) j).2) (al n) := by
      unfold vv fcg
      by_cases c : i = j
      · rw [if_pos c, if_pos c]; rfl
      · rw [if_neg c, if_neg c]; rfl
    have hdist : i ≠ j → ¬ ((lp (lq f n 0 n) i).1 = (lp (lq f n 0 n) j).1 ∧ (lp (lq f n 0 n) i).2 = (lp (lq f n 0 n) j).2) := fun hne q => lp_ne (show i < j by omega) hj (Prod.ext q.1 q.2)
    have rd : ∀ σ', lnM σ' (lq f n 0 n) → (σ'.1 79 i = nI (lp (lq f n 0 n) i).1 ∧ σ'.1 80 i = nI (lp (lq f n 0 n) i).2) ∧ σ'.1 79 j = nI (lp (lq f n 0 n) j).1 ∧ σ'.1 80 j = nI (lp (lq f n 0 n) j).2 := fun σ' h => ⟨lnM_at h hi', lnM_at h hj⟩
    generalize (lp (lq f n 0 n) i).1 = a at *
    generalize (lp (lq f n 0 n) i).2 = b at *
    generalize (lp (lq f n 0 n) j).1 = p at *
    generalize (lp (lq f n 0 n) j).2 = q at *
    have hba := (hw a u3 b u5).2.2.2
    have hqp := (hw p v3 q v5).2.2.2
    have hab : a ≠ b := by omega
    have hpq : p ≠ q := by omega
    have hbn := (hw a u3 b u5)
    have hqn := (hw p v3 q v5)
    obtain ⟨σ1, a1, a2, a3⟩ := m_parts2 (σ := σ) (cs := cs) (N := N) (p := a) (q := b) (f := f) u3 u4 hab hm.2.2.2 u5 hba
    have hon := fl_on (f := f) u3 u4 hab
    have gw1 := gw_fl hn hw hbn.1 hbn.2.1 hab
    by_cases c : i = j
    · have hpa : p = a ∧ q = b := by
        subst c
        rw [e1] at e2
        have := Option.some.inj e2
        exact ⟨(Prod.mk.inj this).1.symm, (Prod.mk.inj this).2.symm⟩
      obtain ⟨hpa1, hpa2⟩ := hpa
      subst hpa1 hpa2
      rw [if_pos c] at hvv
      obtain ⟨σ2, b1, b2, b3⟩ := m_parts0 (σ := σ1) (cs := cs) (N := N) (g := fl_r f p q) u3 u4 hab a2 (by rw [hon.1, u5]; rfl) (by rw [hon.2, hba]; rfl)
      have w2 : fr [76] [] σ σ2 := a1.tr b1
      obtain ⟨σ3, c1, c2⟩ := m_farOf (σ := σ2) (cs := cs) (N := N) (A := al n) (g := fl_r f p q) hn hN (fun i hi => (al_in hn).mp hi) (fun x y hx hy hxy => (gw1 x (by have := (al_in hn).mp hx; omega) y hxy).2.2.2) (by rw [w2.f List.not_mem_nil]; exact hm.1) b2
      have ef3 : ∀ k, k < 24 → σ3.1 76 k = fl_r f p q k := fun k hk => by rw [c1.r (by decide)]; exact b2 k hk
      obtain ⟨σ4, d1, d2, d3⟩ := m_joins2 (σ := σ3) (cs := cs) (N := N) (p := p) (q := q) (f := fl_r f p q) u3 u4 hab ef3 (by rw [hon.1, u5]; rfl) (by rw [hon.2, hba]; rfl)
      have ef4 : ∀ k, k < 24 → σ4.1 76 k = f k := fun k hk => by rw [d2 k hk, fl_fl hab]
      obtain ⟨σ5, g1, g2, g3⟩ := m_joins1 (σ := σ4) (cs := cs) (N := N) (g := f) u3 u4 hab ef4 u5 hba
      have W2 : fr [76, 81] [(72, 24), (72, 25)] σ σ2 := w2.wk (fun _ z => by simp at z; simp [z]) (fun _ z => absurd z List.not_mem_nil)
      have W3 : fr [76, 81] [(72, 24), (72, 25)] σ σ3 := W2.tr (c1.wk (fun _ z => by simp at z; simp [z]) (fun _ z => z))
      have W4 : fr [76, 81] [(72, 24), (72, 25)] σ σ4 := W3.tr (d1.wk (fun _ z => by simp at z; simp [z]) (fun _ z => absurd z List.not_mem_nil))
      have W5 : fr [76, 81] [(72, 24), (72, 25)] σ σ5 := W4.tr (g1.wk (fun _ z => by simp at z; simp [z]) (fun _ z => absurd z List.not_mem_nil))
      have W1 : fr [76, 81] [(72, 24), (72, 25)] σ σ1 := a1.wk (fun _ z => by simp at z; simp [z]) (fun _ z => absurd z List.not_mem_nil)
      obtain ⟨D1, D2⟩ := done σ5 W5 g2
      refine ⟨σ5, W5, D1, D2, ?_⟩
      have L1 := rd σ1 (hL.fr W1 (by decide) (by decide) (by decide))
      have L2 := rd σ2 (hL.fr W2 (by decide) (by decide) (by decide))
      have L3 := rd σ3 (hL.fr W3 (by decide) (by decide) (by decide))
      have L4 := rd σ4 (hL.fr W4 (by decide) (by decide) (by decide))
      have e72 : σ2.2.2.1 72 4 = nI n := by rw [w2.f List.not_mem_nil]; exact hm.1
      have c2' : f256 N 72 (lf_shl 1 (nI n) - 1) (hp σ2, cs) = some (.inl (some (.int (nI (gv (fl_r f p q) (al n) - 1)))), (hp σ3, cs)) := c2
      unfold f257
      rw [if_pos (by decide), r72_21, a79 (by omega), (rd σ hL).1.1, r72_22, a80 (by omega), (rd σ hL).1.2, o72, a3, lf_cv_r, r72_21, a79 (by omega), L1.2.1, r72_22, a80 (by omega), L1.2.2, o72, b3, lf_cv_r, o72, m_all e72, lf_ci_r, o72, c2', lf_ci_r, r72_21, a79 (by omega), L3.1.1, r72_22, a80 (by omega), L3.1.2, o72, d3, lf_cv_r, r72_21, a79 (by omega), L4.2.1, r72_22, a80 (by omega), L4.2.2, o72, g3, lf_cv_r, hvv]
    · rw [if_neg c] at hvv
      have hd := hdist c
      have hnb : ∀ x y, (x = p ∧ y = q) ∨ (x = q ∧ y = p) → ¬ ((x = a ∧ y = b) ∨ (x = b ∧ y = a)) := by
        intro x y h1 h2
        omega
      have f1p : bt (fl_r f a b p) q = true := by rw [fl_bit u3 u4 hab (by omega), decide_eq_false (hnb p q (Or.inl ⟨rfl, rfl⟩)), v5]; rfl
      have f1q : bt (fl_r f a b q) p = true := by rw [fl_bit u3 u4 hab (by omega), decide_eq_false (hnb q p (Or.inr ⟨rfl, rfl⟩)), hqp]; rfl
      obtain ⟨σ2, b1, b2, b3⟩ := m_parts2 (σ := σ1) (cs := cs) (N := N) (p := p) (q := q) (f := fl_r f a b) v3 v4 hpq a2 f1p f1q
      have w2 : fr [76] [] σ σ2 := a1.tr b1
      have gw2 := gw_fl hn gw1 hqn.1 hqn.2.1 hpq
      obtain ⟨σ3, c1, c2⟩ := m_farOf (σ := σ2) (cs := cs) (N := N) (A := al n) (g := fl_r (fl_r f a b) p q) hn hN (fun i hi => (al_in hn).mp hi) (fun x y hx hy hxy => (gw2 x (by have := (al_in hn).mp hx; omega) y hxy).2.2.2) (by rw [w2.f List.not_mem_nil]; exact hm.1) b2
      have ef3 : ∀ k, k < 24 → σ3.1 76 k = fl_r (fl_r f a b) p q k := fun k hk => by rw [c1.r (by decide)]; exact b2 k hk
      have bitAll : ∀ k l, l < 32 → bt (fl_r (fl_r f a b) p q k) l = ((bt (f k) l ^^ decide ((k = a ∧ l = b) ∨ (k = b ∧ l = a))) ^^ decide ((k = p ∧ l = q) ∨ (k = q ∧ l = p))) := fun k l hl => by rw [fl_bit v3 v4 hpq hl, fl_bit u3 u4 hab hl]
      have hna : ∀ x y, (x = a ∧ y = b) ∨ (x = b ∧ y = a) → ¬ ((x = p ∧ y = q) ∨ (x = q ∧ y = p)) := fun x y h1 h2 => hnb x y h2 h1
      obtain ⟨σ4, d1, d2, d3⟩ := m_joins2 (σ := σ3) (cs := cs) (N := N) (p := a) (q := b) (f := fl_r (fl_r f a b) p q) u3 u4 hab ef3 (by rw [bitAll a b (by omega), decide_eq_true (Or.inl ⟨rfl, rfl⟩), decide_eq_false (hna a b (Or.inl ⟨rfl, rfl⟩)), u5]; rfl) (by rw [bitAll b a (by omega), decide_eq_true (Or.inr ⟨rfl, rfl⟩), decide_eq_false (hna b a (Or.inr ⟨rfl, rfl⟩)), hba]; rfl)
      have bit4 : ∀ k l, l < 32 → bt (fl_r (fl_r (fl_r f a b) p q) a b k) l = (bt (f k) l ^^ decide ((k = p ∧ l = q) ∨ (k = q ∧ l = p))) := fun k l hl => by
        rw [fl_bit u3 u4 hab hl, bitAll k l hl]
        cases bt (f k) l <;> cases decide ((k = p ∧ l = q) ∨ (k = q ∧ l = p)) <;> cases decide ((k = a ∧ l = b) ∨ (k = b ∧ l = a)) <;> rfl
      obtain ⟨σ5, g1, g2, g3⟩ := m_joins2 (σ := σ4) (cs := cs) (N := N) (p := p) (q := q) (f := fl_r (fl_r (fl_r f a b) p q) a b) v3 v4 hpq d2 (by rw [bit4 p q (by omega), decide_eq_true (Or.inl ⟨rfl, rfl⟩), v5]; rfl) (by rw [bit4 q p (by omega), decide_eq_true (Or.inr ⟨rfl, rfl⟩), hqp]; rfl)
      have ef5 : ∀ k, k < 24 → σ5.1 76 k = f k := fun k hk => by
        rw [g2 k hk]
        apply b_ext
        intro l hl
        rw [fl_bit v3 v4 hpq hl, bit4 k l hl]
        cases bt (f k) l <;> cases decide ((k = p ∧ l = q) ∨ (k = q ∧ l = p)) <;> rfl
      have W1 : fr [76, 81] [(72, 24), (72, 25)] σ σ1 := a1.wk (fun _ z => by simp at z; simp [z]) (fun _ z => absurd z List.not_mem_nil)
      have W2 : fr [76, 81] [(72, 24), (72, 25)] σ σ2 := w2.wk (fun _ z => by simp at z; simp [z]) (fun _ z => absurd z List.not_mem_nil)
      have W3 : fr [76, 81] [(72, 24), (72, 25)] σ σ3 := W2.tr (c1.wk (fun _ z => by simp at z; simp [z]) (fun _ z => z))
      have W4 : fr [76, 81] [(72, 24), (72, 25)] σ σ4 := W3.tr (d1.wk (fun _ z => by simp at z; simp [z]) (fun _ z => absurd z List.not_mem_nil))
      have W5 : fr [76, 81] [(72, 24), (72, 25)] σ σ5 := W4.tr (g1.wk (fun _ z => by simp at z; simp [z]) (fun _ z => absurd z List.not_mem_nil))
      obtain ⟨D1, D2⟩ := done σ5 W5 ef5
      refine ⟨σ5, W5, D1, D2, ?_⟩
      have L1 := rd σ1 (hL.fr W1 (by decide) (by decide) (by decide))
      have L3 := rd σ3 (hL.fr W3 (by decide) (by decide) (by decide))
      have L4 := rd σ4 (hL.fr W4 (by decide) (by decide) (by decide))
      have e72 : σ2.2.2.1 72 4 = nI n := by rw [w2.f List.not_mem_nil]; exact hm.1
      have c2' : f256 N 72 (lf_shl 1 (nI n) - 1) (hp σ2, cs) = some (.inl (some (.int (nI (gv (fl_r (fl_r f a b) p q) (al n) - 1)))), (hp σ3, cs)) := c2
      unfold f257
      rw [if_pos (by decide), r72_21, a79 (by omega), (rd σ hL).1.1, r72_22, a80 (by omega), (rd σ hL).1.2, o72, a3, lf_cv_r, r72_21, a79 (by omega), L1.2.1, r72_22, a80 (by omega), L1.2.2, o72, b3, lf_cv_r, o72, m_all e72, lf_ci_r, o72, c2', lf_ci_r, r72_21, a79 (by omega), L3.1.1, r72_22, a80 (by omega), L3.1.2, o72, d3, lf_cv_r, r72_21, a79 (by omega), L4.2.1, r72_22, a80 (by omega), L4.2.2, o72, g3, lf_cv_r, hvv]
  · rw [if_neg (by decide)] at hi
    have hA : ∀ l, bt (al n &&& (lf_shl 1 (nI i) ^^^ (-1)) &&& (lf_shl 1 (nI j) ^^^ (-1))) l = true ↔ l < n ∧ l ≠ i ∧ l ≠ j := by
      intro l
      rw [b_andn, b_andn, al_in hn, b_one (by omega), b_one (by omega)]
      exact ⟨fun q => ⟨q.1.1, q.1.2, q.2⟩, fun q => ⟨⟨q.1, q.2.1⟩, q.2.2⟩⟩
    have hAe : (fcg 1 (lq f n 0 n) (al n, f) i j).1 = al n &&& (lf_shl 1 (nI i) ^^^ (-1)) &&& (lf_shl 1 (nI j) ^^^ (-1)) := by
      apply b_ext
      intro l hl
      rw [Bool.eq_iff_iff, hA l]
      unfold fcg
      by_cases c : i = j
      · rw [if_pos c]
        show bt (al n ^^^ lf_shl 1 (nI i)) l = true ↔ _
        rw [al_x hn (by omega)]
        constructor
        · exact fun z => ⟨z.1, z.2, by omega⟩
        · exact fun z => ⟨z.1, z.2.1⟩
      · rw [if_neg c]
        show bt (al n ^^^ lf_shl 1 (nI i) ^^^ lf_shl 1 (nI j)) l = true ↔ _
        rw [al_xx hn (by omega) hi c]
    have hfe : (fcg 1 (lq f n 0 n) (al n, f) i j).2 = f := by
      unfold fcg
      by_cases c : i = j
      · rw [if_pos c]; rfl
      · rw [if_neg c]; rfl
    obtain ⟨σ3, c1, c2⟩ := m_farOf (σ := σ) (cs := cs) (N := N) (A := al n &&& (lf_shl 1 (nI i) ^^^ (-1)) &&& (lf_shl 1 (nI j) ^^^ (-1))) (g := f) hn hN (fun l hl => ((hA l).mp hl).1) (fun x y hx hy hxy => (hw x (by have := ((hA x).mp hx).1; omega) y hxy).2.2.2) hm.1 hm.2.2.2
    have W : fr [76, 81] [(72, 24), (72, 25)] σ σ3 := c1.wk (fun _ z => by simp at z; simp [z]) (fun _ z => z)
    obtain ⟨D1, D2⟩ := done σ3 W (fun k hk => by rw [c1.r (by decide)]; exact hm.2.2.2 k hk)
    refine ⟨σ3, W, D1, D2, ?_⟩
    have c2' : f256 N 72 (lf_shl 1 (nI n) - 1 &&& (lf_shl 1 (nI i) ^^^ (-1)) &&& (lf_shl 1 (nI j) ^^^ (-1))) (hp σ, cs) = _ := c2
    unfold f257 vv
    rw [if_neg (fun q => q rfl), o72, m_all hm.1, lf_ci_r, o72, c2', lf_ci_r, hAe, hfe]
/-- what the model holds of the best choice -/
def MQf (σ : hp_S) (q : fq) : Prop := q.1 ≠ 0 → σ.1 103 0 = nI q.2.1 ∧ σ.1 103 1 = nI q.2.2
abbrev mA : List Nat := [76, 81, 103]
abbrev mF : List (Nat × Nat) := [(72, 24), (72, 25)]
theorem m_step {k M T i j : Nat} {σ : hp_S} {q : fq} {k114 : Nat → Int32 → Int32 → Int32 → Int32 → Int32 → lf_W → lf_R} {k141 : Nat → Int32 → Int32 → Int32 → Int32 → Int32 → Int32 → lf_W → lf_R} {s0 : Nat} (hg : GW n d f) (hN : iv_N N) (hk : k = 0 ∨ k = 1) (hM : M ≠ 0) (hij : i ≤ j) (hi : if k = 0 then j < (lq f n 0 n).length else j < n) (hj9 : j < 100) (hs0 : j < s0) (hs9 : s0 ≤ 100) (hq : q.1 ≤ 101) (hm : MV σ n d f) (hL : lnM σ (lq f n 0 n)) (hQ : MQf σ q) : ∃ τ, fr mA mF σ τ ∧ MV τ n d f ∧ lnM τ (lq f n 0 n) ∧ MQf τ (fb (vFa k M (lq f n 0 n) (al n, f)) i j q) ∧ g258_157 N k114 k141 72 (nI k) (nI M) (nI T) (iB q.1) (nI i) (nI j) (nI s0) (nI j) (hp σ, cs) = k141 72 (nI k) (nI M) (nI T) (iB (fb (vFa k M (lq f n 0 n) (al n, f)) i j q).1) (nI i) (nI (j + 1)) (hp τ, cs) := by
  obtain ⟨τ, a1, a2, a3, a4⟩ := m_fw (N := N) (cs := cs) (σ := σ) hg hN hk hij hi hm hL
  have ev : vFa k M (lq f n 0 n) (al n, f) i j = vv k (lq f n 0 n) (al n, f) i j := by unfold vFa; rw [if_neg hM]
  have h1 := vFa_1 (k := k) (M := M) (L := lq f n 0 n) (c := (al n, f)) i j
  have h2 := vFa_le (k := k) (M := M) (L := lq f n 0 n) (c := (al n, f)) i j
  rw [← ev] at a4
  have W : fr mA mF σ τ := a1.wk (fun _ z => by simp at z; rcases z with z | z <;> simp [z]) (fun _ z => z)
  have iff1 : (iB q.1 < nI (vFa k M (lq f n 0 n) (al n, f) i j - 1)) = (q.1 < vFa k M (lq f n 0 n) (al n, f) i j) := by
    rw [iB_lt hq (by omega)]
    exact propext ⟨fun z => by omega, fun z => by omega⟩
  have pre : g258_157 N k114 k141 72 (nI k) (nI M) (nI T) (iB q.1) (nI i) (nI j) (nI s0) (nI j) (hp σ, cs) = if iB q.1 < nI (vFa k M (lq f n 0 n) (al n, f) i j - 1) then k141 72 (nI k) (nI M) (nI T) (nI (vFa k M (lq f n 0 n) (al n, f) i j - 1)) (nI i) (nI (j + 1)) (hp (hp_wi (hp_wi τ 103 0 (nI i)) 103 1 (nI j)), cs) else k141 72 (nI k) (nI M) (nI T) (iB q.1) (nI i) (nI (j + 1)) (hp τ, cs) := by
    unfold g258_157 g258_201
    rw [if_neg (nI_ge hs0 (by omega)), o72, a4, lf_ci_r, r72_59, show (0 : Int32) = nI 0 from rfl, b103 (by omega), r72_59, show lf_wi (hp (hp_wi τ 103 0 (nI i)), cs) 103 1 (nI j) = lf_wi (hp (hp_wi τ 103 0 (nI i)), cs) 103 (nI 1) (nI j) from rfl, b103 (by omega), nI_1]
  rw [pre]
  by_cases c : q.1 < vFa k M (lq f n 0 n) (al n, f) i j
  · have efb : fb (vFa k M (lq f n 0 n) (al n, f)) i j q = (vFa k M (lq f n 0 n) (al n, f) i j, i, j) := by unfold fb; rw [if_pos c]
    have W2 : fr mA mF τ (hp_wi (hp_wi τ 103 0 (nI i)) 103 1 (nI j)) := (fr.wi (by decide)).tr (fr.wi (by decide))
    refine ⟨hp_wi (hp_wi τ 103 0 (nI i)) 103 1 (nI j), W.tr W2, ⟨a2.1, a2.2.1, a2.2.2.1, fun x hx => by rw [hp_wi_ne (by decide), hp_wi_ne (by decide)]; exact a2.2.2.2 x hx⟩, ?_, ?_, ?_⟩
    · exact ⟨a3.1, fun x y z w => by rw [hp_wi_ne (by decide), hp_wi_ne (by decide), hp_wi_ne (by decide), hp_wi_ne (by decide)]; exact a3.2 x y z w⟩
    · rw [efb]
      exact fun _ => ⟨by rw [hp_wi_nj (by omega), hp_wi_at], hp_wi_at⟩
    · rw [if_pos (by rw [iff1]; exact c), efb]
      show _ = k141 72 (nI k) (nI M) (nI T) (iB (vFa k M (lq f n 0 n) (al n, f) i j)) (nI i) (nI (j + 1)) _
      rw [show iB (vFa k M (lq f n 0 n) (al n, f) i j) = nI (vFa k M (lq f n 0 n) (al n, f) i j - 1) from by unfold iB; rw [if_neg (by omega)]]
  · have efb : fb (vFa k M (lq f n 0 n) (al n, f)) i j q = q := by unfold fb; rw [if_neg c]
    refine ⟨τ, W, a2, a3, ?_, ?_⟩
    · rw [efb]
      intro z
      rw [a1.r (by decide)]
      exact hQ z
    · rw [if_neg (by rw [iff1]; exact c), efb]
end FM2
