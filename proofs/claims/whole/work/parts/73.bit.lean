theorem bt_1 (j : Nat) : bt 1 j = decide (j = 0) := by
  by_cases h : j < 32
  · have e : ∀ j, j < 32 → bt 1 j = decide (j = 0) := by decide +kernel
    exact e j h
  · rw [b_big (by omega)]
    simp
    omega
theorem one_bit {q i : Nat} (hq : q < 32) (hi : i < 32) : bt (lf_shl 1 (nI q)) i = decide (i = q) := by
  unfold lf_shl
  rw [b_shl q hq 1 hi, bt_1]
  by_cases h : i = q
  · subst h
    simp
  · simp [h]
    omega
theorem sh_bit {q : Nat} (hq : q < 32) (x : Int32) : lf_shr x (nI q) &&& 1 = if bt x q = true then 1 else 0 := by
  apply b_ext
  intro i hi
  unfold lf_shr
  rw [b_and, b_sshr q hq x hi, bt_1]
  by_cases h : i = 0
  · subst h
    rw [if_pos (by omega), Nat.add_zero]
    cases bt x q <;> rfl
  · have e : decide (i = 0) = false := decide_eq_false h
    rw [e, Bool.and_false]
    cases bt x q
    · exact (b_0 i).symm
    · show false = bt 1 i
      rw [bt_1, e]
theorem x_or {q : Nat} (hq : q < 32) {x : Int32} (h : bt x q = false) : x ^^^ lf_shl 1 (nI q) = x ||| lf_shl 1 (nI q) := by
  apply b_ext
  intro i hi
  rw [b_xor, b_or, one_bit hq hi]
  by_cases e : i = q
  · subst e
    rw [h]
    simp
  · simp [e]
theorem x_and {q : Nat} (hq : q < 32) {x : Int32} (h : bt x q = true) : x ^^^ lf_shl 1 (nI q) = x &&& (lf_shl 1 (nI q) ^^^ (-1)) := by
  apply b_ext
  intro i hi
  rw [b_xor, b_and, b_xor, one_bit hq hi, b_m1 i hi]
  by_cases e : i = q
  · subst e
    rw [h]
    simp
  · simp [e]
theorem x_bit {q i : Nat} (hq : q < 32) (hi : i < 32) (x : Int32) : bt (x ^^^ lf_shl 1 (nI q)) i = (bt x i ^^ decide (i = q)) := by
  rw [b_xor, one_bit hq hi]
/-- two knots: both of the net, or refused -/
theorem two_or (m : Nat) (hm : m ≤ 24) (a b : Int32) : (a < 0 ∨ nI m ≤ a ∨ b < 0 ∨ nI m ≤ b) ∨ ∃ p q, p < m ∧ q < m ∧ a = nI p ∧ b = nI q := by
  rcases pk_ix a (n := m) (by omega) with h | h | ⟨p, hp, rfl⟩
  · exact Or.inl (Or.inl h)
  · exact Or.inl (Or.inr (Or.inl h))
  · rcases pk_ix b (n := m) (by omega) with h | h | ⟨q, hq, rfl⟩
    · exact Or.inl (Or.inr (Or.inr (Or.inl h)))
    · exact Or.inl (Or.inr (Or.inr (Or.inr h)))
    · exact Or.inr ⟨p, q, hp, hq, rfl, rfl⟩
section TW
variable {σ : hp_S} {cs : Nat × Nat} {N s m p q : Nat} {x a b : Int32}
theorem c_hw_no (h : no_net σ x) : f170 N 0 x a b (hp σ, cs) = lf_thr "java/util/NoSuchElementException" (hp σ, cs) := by
  unfold f170
  rw [if_pos hp_x, c_held_no h]
  rfl
theorem c_hw_out (hs : s < 8) (h1 : 1 ≤ m) (h2 : m ≤ 24) (e : σ.2.2.1 (2 + 2 * s) 1 = nI m) (h : a < 0 ∨ nI m ≤ a ∨ b < 0 ∨ nI m ≤ b) : f170 N 0 (nI s) a b (hp σ, cs) = lf_thr "java/util/NoSuchElementException" (hp σ, cs) := by
  unfold f170
  rw [if_pos hp_x, c_held hs (by rw [e]; exact nI_ne0 (by omega) (by omega)), lf_cr_r]
  by_cases c1 : a < 0
  · rw [if_pos c1]
  rw [if_neg c1, c_kn hs, Option.bind_some, e]
  by_cases c2 : nI m ≤ a
  · rw [if_pos c2]
  rw [if_neg c2]
  by_cases c3 : b < 0
  · rw [if_pos c3]
  rw [if_neg c3, Option.bind_some, if_neg (fun c4 => ?_)]
  rcases h with h | h | h | h
  · exact c1 h
  · exact c2 h
  · exact c3 h
  · rw [fa_le] at h
    rw [fa_lt] at c4
    omega
theorem c_hw_in (hs : s < 8) (h2 : m ≤ 24) (e : σ.2.2.1 (2 + 2 * s) 1 = nI m) (hp' : p < m) (hq : q < m) : f170 N 0 (nI s) (nI p) (nI q) (hp σ, cs) = some (.inl (some (.ref (2 + 2 * s))), (hp σ, cs)) := by
  unfold f170
  rw [if_pos hp_x, c_held hs (by rw [e]; exact nI_ne0 (by omega) (by omega)), lf_cr_r, if_neg (nI_pos (by omega)), c_kn hs, Option.bind_some, e, if_neg (nI_ge hp' (by omega)), if_neg (nI_pos (by omega)), Option.bind_some, if_pos (nI_lt hq (by omega))]
theorem m_knot_no (e : σ.2.2.1 72 4 = nI m) (h : a < 0 ∨ nI m ≤ a) : f181 N 72 a (hp σ, cs) = some (.inl (some (.int 0)), (hp σ, cs)) := by
  unfold f181
  by_cases c1 : a < 0
  · rw [if_pos c1]
  · rw [if_neg c1, hp_fi (a := 72) (k := 4) rfl rfl, Option.bind_some, e, if_pos (h.resolve_left c1)]
theorem m_knot_in (h2 : m ≤ 24) (e : σ.2.2.1 72 4 = nI m) (h : p < m) : f181 N 72 (nI p) (hp σ, cs) = some (.inl (some (.int 1)), (hp σ, cs)) := by
  unfold f181
  rw [if_neg (nI_pos (by omega)), hp_fi (a := 72) (k := 4) rfl rfl, Option.bind_some, e, if_neg (nI_ge h (by omega))]
theorem m_has_in (h2 : m ≤ 24) (e : σ.2.2.1 72 4 = nI m) (e0 : σ.2.2.1 72 0 = 0) (hp' : p < m) (hq : q < m) : f187 N 72 (nI p) (nI q) (hp σ, cs) = some (.inl (some (.int 1)), (hp σ, cs)) := by
  unfold f187 g187_22
  rw [if_pos hp_m, m_knot_in h2 e hp', lf_ci_r, if_neg (by decide), if_pos hp_m, m_knot_in h2 e hq, lf_ci_r, if_neg (by decide), if_pos hp_m, m_rt e0 (by decide), lf_ci_r, if_pos (Or.inr rfl)]
theorem m_has_out (h2 : m ≤ 24) (e : σ.2.2.1 72 4 = nI m) (e0 : σ.2.2.1 72 0 = 0) (h : a < 0 ∨ nI m ≤ a ∨ b < 0 ∨ nI m ≤ b) : f187 N 72 a b (hp σ, cs) = some (.inl (some (.int 0)), (hp (hp_wf σ 72 0 1), cs)) := by
  unfold f187 g187_21 g187_22
  rw [if_pos hp_m]
  rcases pk_ix a (n := m) (by omega) with c | c | ⟨p, hp', rfl⟩
  · rw [m_knot_no e (Or.inl c), lf_ci_r, if_pos rfl, if_pos hp_m, m_rf e0 (by decide), lf_ci_r, if_pos (Or.inl rfl)]
  · rw [m_knot_no e (Or.inr c), lf_ci_r, if_pos rfl, if_pos hp_m, m_rf e0 (by decide), lf_ci_r, if_pos (Or.inl rfl)]
  · have hb : b < 0 ∨ nI m ≤ b := by
      rcases h with h | h | h
      · exact absurd h (nI_pos (by omega))
      · exact absurd h (nI_ge hp' (by omega))
      · exact h
    rw [m_knot_in h2 e hp', lf_ci_r, if_neg (by decide), if_pos hp_m, m_knot_no e hb, lf_ci_r, if_pos rfl, if_pos hp_m, m_rf e0 (by decide), lf_ci_r, if_pos (Or.inl rfl)]
theorem c_joins (hs : s < 8) (hp' : p < 24) (hq : q < 24) : f55 N (2 + 2 * s) (nI p) (nI q) (hp σ, cs) = some (.inl (some (.int (if bt (σ.1 (3 + 2 * s) p) q = true then 1 else 0))), (hp σ, cs)) := by
  unfold f55
  rw [c_rw hs, Option.bind_some, c_row hs hp', Option.bind_some, sh_bit (by omega)]
  cases bt (σ.1 (3 + 2 * s) p) q <;> rfl
theorem m_joined (hp' : p < 24) (hq : q < 24) : f182 N 72 (nI p) (nI q) (hp σ, cs) = some (.inl (some (.int (if bt (σ.1 76 p) q = true then 1 else 0))), (hp σ, cs)) := by
  unfold f182
  rw [hp_fr (a := 72) (k := 6) (b := 76) rfl rfl, Option.bind_some, hp_ri (a := 76) (n := 24) rfl (in_nI hp' (by omega)), Option.bind_some, nI_clamp (by omega), sh_bit (by omega)]
  cases bt (σ.1 76 p) q <;> rfl
/-- flip, joins, parts -/
def hp_2 (σ : hp_S) (a p q : Nat) (x y : Int32) : hp_S := hp_wi (hp_wi σ a p x) a q y
theorem c_flip (hs : s < 8) (hp' : p < 24) (hq : q < 24) (hne : p ≠ q) : f57 N (2 + 2 * s) (nI p) (nI q) (hp σ, cs) = some (.inl none, (hp (hp_2 σ (3 + 2 * s) p q (σ.1 (3 + 2 * s) p ^^^ lf_shl 1 (nI q)) (σ.1 (3 + 2 * s) q ^^^ lf_shl 1 (nI p))), cs)) := by
  unfold f57
  rw [c_rw hs, Option.bind_some, c_row hs hp', Option.bind_some, hp_swi (lay_row hs) (in_nI hp' (by omega)), Option.bind_some, c_rw hs, Option.bind_some, c_row hs hq, Option.bind_some, hp_swi (lay_row hs) (in_nI hq (by omega)), Option.bind_some, nI_clamp (by omega), nI_clamp (by omega), hp_wi_nj (by omega)]
  rfl
theorem m_joins (hp' : p < 24) (hq : q < 24) (hne : p ≠ q) : f183 N 72 (nI p) (nI q) (hp σ, cs) = some (.inl none, (hp (hp_2 σ 76 p q (σ.1 76 p ||| lf_shl 1 (nI q)) (σ.1 76 q ||| lf_shl 1 (nI p))), cs)) := by
  unfold f183
  rw [hp_fr (a := 72) (k := 6) (b := 76) rfl rfl, Option.bind_some, hp_ri (a := 76) (n := 24) rfl (in_nI hp' (by omega)), Option.bind_some, hp_swi (a := 76) (n := 24) rfl (in_nI hp' (by omega)), Option.bind_some, hp_fr (a := 72) (k := 6) (b := 76) rfl rfl, Option.bind_some, hp_ri (a := 76) (n := 24) rfl (in_nI hq (by omega)), Option.bind_some, hp_swi (a := 76) (n := 24) rfl (in_nI hq (by omega)), Option.bind_some, nI_clamp (by omega), nI_clamp (by omega), hp_wi_nj (by omega)]
  rfl
theorem m_parts (hp' : p < 24) (hq : q < 24) (hne : p ≠ q) : f184 N 72 (nI p) (nI q) (hp σ, cs) = some (.inl none, (hp (hp_2 σ 76 p q (σ.1 76 p &&& (lf_shl 1 (nI q) ^^^ (-1))) (σ.1 76 q &&& (lf_shl 1 (nI p) ^^^ (-1)))), cs)) := by
  unfold f184
  rw [hp_fr (a := 72) (k := 6) (b := 76) rfl rfl, Option.bind_some, hp_ri (a := 76) (n := 24) rfl (in_nI hp' (by omega)), Option.bind_some, hp_swi (a := 76) (n := 24) rfl (in_nI hp' (by omega)), Option.bind_some, hp_fr (a := 72) (k := 6) (b := 76) rfl rfl, Option.bind_some, hp_ri (a := 76) (n := 24) rfl (in_nI hq (by omega)), Option.bind_some, hp_swi (a := 76) (n := 24) rfl (in_nI hq (by omega)), Option.bind_some, nI_clamp (by omega), nI_clamp (by omega), hp_wi_nj (by omega)]
  rfl
end TW
