/-! the lines of a net in their order -/
def hl (f : Nat → Int32) (n a : Nat) : List Nat := (List.range' (a + 1) (n - (a + 1))).filter (fun b => bt (f a) b)
def lq (f : Nat → Int32) (n : Nat) : Nat → Nat → List (Nat × Nat)
  | _, 0 => []
  | a, m + 1 => (hl f n a).map (fun b => (a, b)) ++ lq f n (a + 1) m
theorem filter_mid {p q : Nat → Bool} {a n : Nat} (ha : a < n) (hn : n ≤ 32) (h1 : ∀ i, i < 32 → q i = (p i && decide (a < i))) (h2 : ∀ i, p i = true → i < n) : (List.range 32).filter q = (List.range' (a + 1) (n - (a + 1))).filter p := by
  have e : List.range 32 = List.range' 0 (a + 1) ++ List.range' (a + 1) (n - (a + 1)) ++ List.range' n (32 - n) := by
    have e1 : List.range' 0 (a + 1) ++ List.range' (0 + (a + 1)) (n - (a + 1)) = List.range' 0 (a + 1 + (n - (a + 1))) := List.range'_append_1
    have e2 : List.range' 0 n ++ List.range' (0 + n) (32 - n) = List.range' 0 (n + (32 - n)) := List.range'_append_1
    rw [Nat.zero_add] at e1 e2
    rw [e1, show a + 1 + (n - (a + 1)) = n by omega, e2, show n + (32 - n) = 32 by omega, List.range_eq_range']
  rw [e, List.filter_append, List.filter_append]
  have z1 : (List.range' 0 (a + 1)).filter q = [] := by
    rw [List.filter_eq_nil_iff]
    intro i hi
    have := List.mem_range'_1.mp hi
    rw [h1 i (by omega), decide_eq_false (by omega), Bool.and_false]
    decide
  have z2 : (List.range' n (32 - n)).filter q = [] := by
    rw [List.filter_eq_nil_iff]
    intro i hi
    have := List.mem_range'_1.mp hi
    rw [h1 i (by omega)]
    intro c
    rw [Bool.and_eq_true] at c
    have := h2 i c.1
    omega
  rw [z1, z2, List.nil_append, List.append_nil]
  refine List.filter_congr (fun i hi => ?_)
  have := List.mem_range'_1.mp hi
  rw [h1 i (by omega), decide_eq_true (by omega), Bool.and_true]
theorem bt_m2 : ∀ j, j < 32 → bt (-2) j = decide (1 ≤ j) := by decide +kernel
theorem bt_up {a i : Nat} (ha : a < 32) (hi : i < 32) : bt (lf_shl (-2) (nI a)) i = decide (a < i) := by
  unfold lf_shl
  rw [b_shl a ha (-2) hi]
  by_cases c : a ≤ i
  · rw [decide_eq_true c, Bool.true_and, bt_m2 _ (by omega)]
    by_cases d : a < i
    · rw [decide_eq_true d, decide_eq_true (by omega)]
    · rw [decide_eq_false d, decide_eq_false (by omega)]
  · rw [decide_eq_false c, Bool.false_and, decide_eq_false (by omega)]
theorem bl_up {x : Int32} {a n : Nat} (ha : a < n) (hn : n ≤ 32) (h : ∀ i, bt x i = true → i < n) : bl (x &&& lf_shl (-2) (nI a)) = (List.range' (a + 1) (n - (a + 1))).filter (fun b => bt x b) := by
  unfold bl
  refine filter_mid ha hn (fun i hi => ?_) h
  rw [b_and, bt_up (by omega) hi]
theorem filt_sm (p : Nat → Bool) (c : Nat) : ∀ m, ((List.range' c m).filter p).length = sm (fun b => if c ≤ b ∧ p b = true then 1 else 0) (c + m)
  | 0 => by
    rw [Nat.add_zero, sm_congr (G := fun _ => 0) (fun k hk => by rw [if_neg (by omega)]), sm_0]
    rfl
  | m + 1 => by
    rw [List.range'_1_concat, List.filter_append, List.length_append, filt_sm p c m]
    show _ = sm (fun b => if c ≤ b ∧ p b = true then 1 else 0) (c + m) + (if c ≤ c + m ∧ p (c + m) = true then 1 else 0)
    by_cases h : p (c + m) = true
    · rw [if_pos ⟨by omega, h⟩]; simp [h]
    · rw [if_neg (fun q => h q.2)]; simp [h]
theorem hl_len {f : Nat → Int32} {n a : Nat} (ha : a < n) : (hl f n a).length = sm (fun b => if a < b ∧ bt (f a) b = true then 1 else 0) n := by
  unfold hl
  rw [filt_sm, show a + 1 + (n - (a + 1)) = n by omega]
  rfl
theorem lq_len {f : Nat → Int32} {n : Nat} : ∀ (m a : Nat), (lq f n a m).length = sm (fun k => (hl f n (a + k)).length) m
  | 0, _ => rfl
  | m + 1, a => by
    have e : ∀ (F : Nat → Nat) (m : Nat), sm F (m + 1) = F 0 + sm (fun k => F (k + 1)) m := by
      intro F m
      induction m with
      | zero => show 0 + F 0 = F 0 + 0; omega
      | succ m ih =>
        show sm F (m + 1) + F (m + 1) = F 0 + (sm (fun k => F (k + 1)) m + F (m + 1))
        rw [ih]; omega
    show ((hl f n a).map (fun b => (a, b)) ++ lq f n (a + 1) m).length = _
    rw [List.length_append, List.length_map, lq_len m (a + 1), e]
    rw [Nat.add_zero]
    congr 1
    exact sm_congr (fun k _ => by rw [show a + 1 + k = a + (k + 1) by omega])
/-- a net's rows: within the knots, alike both ways -/
def gw (f : Nat → Int32) (n : Nat) : Prop := ∀ a, a < 24 → ∀ b, bt (f a) b = true → a < n ∧ b < n ∧ a ≠ b ∧ bt (f b) a = true
theorem lq_twice {f : Nat → Int32} {n : Nat} (hn : n ≤ 24) (hw : gw f n) : 2 * (lq f n 0 n).length = sm (fun a => i_pc (f a)) n := by
  have e1 : (lq f n 0 n).length = sm (fun a => sm (fun b => if a < b ∧ bt (f a) b = true then 1 else 0) n) n := by
    rw [lq_len]
    exact sm_congr (fun k hk => by rw [Nat.zero_add, hl_len hk])
  have e2 : sm (fun a => i_pc (f a)) n = sm (fun a => sm (fun b => (if a < b ∧ bt (f a) b = true then 1 else 0) + (if b < a ∧ bt (f b) a = true then 1 else 0)) n) n := by
    refine sm_congr (fun a ha => ?_)
    rw [i_pc_sm, sm_more (n := n) (by omega) (fun k q1 _ => by rw [if_neg (fun q => by have := hw a (by omega) k q; omega)])]
    refine sm_congr (fun b hb => ?_)
    by_cases c : bt (f a) b = true
    · obtain ⟨-, -, q1, q2⟩ := hw a (by omega) b c
      rw [if_pos c]
      rcases Nat.lt_or_ge a b with d | d
      · rw [if_pos ⟨d, c⟩, if_neg (by omega)]
      · rw [if_neg (by omega), if_pos ⟨by omega, q2⟩]
    · rw [if_neg c, if_neg (fun q => c q.2), if_neg (fun q => c (hw b (by omega) a q.2).2.2.2)]
  rw [e2, e1]
  rw [sm_congr (F := fun a => sm (fun b => (if a < b ∧ bt (f a) b = true then 1 else 0) + (if b < a ∧ bt (f b) a = true then 1 else 0)) n) (G := fun a => sm (fun b => (if a < b ∧ bt (f a) b = true then 1 else 0)) n + sm (fun b => (if b < a ∧ bt (f b) a = true then 1 else 0)) n) (fun a _ => sm_add), sm_add]
  have e3 : sm (fun a => sm (fun b => (if b < a ∧ bt (f b) a = true then 1 else 0)) n) n = sm (fun a => sm (fun b => if a < b ∧ bt (f a) b = true then 1 else 0) n) n := sm_swap
  rw [e3]
  omega
theorem lq_96 {f : Nat → Int32} {n e : Nat} (hn : n ≤ 24) (hw : gw f n) (he : e ≤ 8) (hd : ∀ a, a < 24 → i_pc (f a) ≤ e) : (lq f n 0 n).length ≤ 96 := by
  have h1 := lq_twice hn hw
  have h2 : sm (fun a => i_pc (f a)) n ≤ sm (fun _ => 8) n := sm_le (fun k hk => by have := hd k (by omega); omega)
  rw [sm_c] at h2
  omega
theorem lq_mem {f : Nat → Int32} {n : Nat} {q : Nat × Nat} : ∀ (m a : Nat), a + m = n → q ∈ lq f n a m → a ≤ q.1 ∧ q.1 < q.2 ∧ q.2 < n ∧ bt (f q.1) q.2 = true
  | 0, _, _, h => by cases h
  | m + 1, a, ha, h => by
    rcases List.mem_append.mp h with h | h
    · obtain ⟨b, hb, rfl⟩ := List.mem_map.mp h
      obtain ⟨h1, h2⟩ := List.mem_filter.mp hb
      have := List.mem_range'_1.mp h1
      exact ⟨Nat.le_refl _, by show a < b; omega, by show b < n; omega, h2⟩
    · have := lq_mem m (a + 1) (by omega) h
      exact ⟨by omega, this.2⟩
theorem lq_congr {f g : Nat → Int32} {n : Nat} : ∀ (m a : Nat), (∀ k, a ≤ k → k < a + m → f k = g k) → lq f n a m = lq g n a m
  | 0, _, _ => rfl
  | m + 1, a, h => by
    show (hl f n a).map _ ++ _ = (hl g n a).map _ ++ _
    unfold hl
    rw [h a (by omega) (by omega), lq_congr m (a + 1) (fun k q1 q2 => h k (by omega) (by omega))]
/-! frames -/
def fr (A : List Nat) (F : List (Nat × Nat)) (σ τ : hp_S) : Prop := (∀ a, a ∉ A → τ.1 a = σ.1 a ∧ τ.2.1 a = σ.2.1 a) ∧ ∀ a k, (a, k) ∉ F → τ.2.2.1 a k = σ.2.2.1 a k ∧ τ.2.2.2 a k = σ.2.2.2 a k
section FR
variable {A B : List Nat} {F G : List (Nat × Nat)} {σ τ υ : hp_S} {a i k : Nat} {x : Int32} {y : Int64}
theorem fr.rf : fr A F σ σ := ⟨fun _ _ => ⟨rfl, rfl⟩, fun _ _ _ => ⟨rfl, rfl⟩⟩
theorem fr.tr (h : fr A F σ τ) (q : fr A F τ υ) : fr A F σ υ := ⟨fun a ha => ⟨(q.1 a ha).1.trans (h.1 a ha).1, (q.1 a ha).2.trans (h.1 a ha).2⟩, fun a k ha => ⟨(q.2 a k ha).1.trans (h.2 a k ha).1, (q.2 a k ha).2.trans (h.2 a k ha).2⟩⟩
theorem fr.wk (h : fr A F σ τ) (hA : ∀ a, a ∈ A → a ∈ B) (hF : ∀ q, q ∈ F → q ∈ G) : fr B G σ τ := ⟨fun a ha => h.1 a (fun q => ha (hA a q)), fun a k ha => h.2 a k (fun q => ha (hF _ q))⟩
theorem fr.wi (h : a ∈ A) : fr A F σ (hp_wi σ a i x) := ⟨fun b hb => ⟨hp_up_ne (fun q => hb (q ▸ h)), rfl⟩, fun _ _ _ => ⟨rfl, rfl⟩⟩
theorem fr.wl (h : a ∈ A) : fr A F σ (hp_wl σ a i y) := ⟨fun b hb => ⟨rfl, hp_up_ne (fun q => hb (q ▸ h))⟩, fun _ _ _ => ⟨rfl, rfl⟩⟩
theorem fr.wf (h : (a, k) ∈ F) : fr A F σ (hp_wf σ a k x) := ⟨fun _ _ => ⟨rfl, rfl⟩, fun b j hb => ⟨by
  show hp_up σ.2.2.1 a k x b j = _
  unfold hp_up
  rw [if_neg (fun q => hb (by rw [q.1, q.2]; exact h))], rfl⟩⟩
theorem fr.wg (h : (a, k) ∈ F) : fr A F σ (hp_wg σ a k y) := ⟨fun _ _ => ⟨rfl, rfl⟩, fun b j hb => ⟨rfl, by
  show hp_up σ.2.2.2 a k y b j = _
  unfold hp_up
  rw [if_neg (fun q => hb (by rw [q.1, q.2]; exact h))]⟩⟩
theorem fr.r (h : fr A F σ τ) {a : Nat} (ha : a ∉ A) : τ.1 a = σ.1 a := (h.1 a ha).1
theorem fr.l (h : fr A F σ τ) {a : Nat} (ha : a ∉ A) : τ.2.1 a = σ.2.1 a := (h.1 a ha).2
theorem fr.f (h : fr A F σ τ) {a k : Nat} (ha : (a, k) ∉ F) : τ.2.2.1 a k = σ.2.2.1 a k := (h.2 a k ha).1
theorem fr.g (h : fr A F σ τ) {a k : Nat} (ha : (a, k) ∉ F) : τ.2.2.2 a k = σ.2.2.2 a k := (h.2 a k ha).2
def kr (a : Nat) : Bool := (decide (a < 25) && decide (a ≠ 19) && decide (a ≠ 22) && decide (a ≠ 24)) || [45, 46, 47, 56, 58, 73, 74, 75, 77, 90, 99, 100, 101, 102, 103, 104, 116, 117].contains a
def kf (q : Nat × Nat) : Bool := decide (q.1 < 18) || [(20, 5), (20, 6), (44, 0), (44, 1), (44, 2), (44, 3), (44, 4), (53, 4), (57, 1), (72, 8), (72, 10), (72, 45), (72, 46), (72, 47), (72, 48), (72, 49), (72, 58), (72, 60)].contains q
def ks (q : Nat × Nat) : Bool := [(29, 0), (29, 1), (37, 0), (37, 1), (61, 4), (61, 5)].contains q
theorem kr_in {a : Nat} (h : (a < 25 ∧ a ≠ 19 ∧ a ≠ 22 ∧ a ≠ 24) ∨ a = 45 ∨ a = 46 ∨ a = 47 ∨ a = 56 ∨ a = 58 ∨ a = 73 ∨ a = 74 ∨ a = 75 ∨ a = 77 ∨ a = 90 ∨ a = 99 ∨ a = 100 ∨ a = 101 ∨ a = 102 ∨ a = 103 ∨ a = 104 ∨ a = 116) : kr a = true := by
  unfold kr
  rcases h with ⟨h1, h2, h3, h4⟩ | h
  · rw [decide_eq_true h1, decide_eq_true h2, decide_eq_true h3, decide_eq_true h4]; rfl
  · rw [Bool.or_eq_true]
    right
    rw [List.contains_iff_mem]
    simp only [List.mem_cons]
    omega
theorem fr.keptS (h : fr A F σ τ) (hA : A.all (fun a => !kr a) = true) (hF : F.all (fun q => !kf q) = true) (hS : iv_sw σ → iv_sw τ) : iv_kept σ τ := by
  have hr : ∀ a, kr a = true → a ∉ A := fun a q r => by
    have := List.all_eq_true.mp hA a r
    rw [q] at this
    cases this
  have hf : ∀ q, kf q = true → q ∉ F := fun q e r => by
    have := List.all_eq_true.mp hF q r
    rw [e] at this
    cases this
  refine ⟨fun a q => h.r (hr a (kr_in q)), fun a q => funext fun k => h.f (hf (a, k) ?_), h.f (hf _ rfl), h.f (hf _ rfl), fun k q => h.f (hf _ ?_), h.f (hf _ rfl), h.f (hf _ rfl), fun k q => h.f (hf _ ?_), hS⟩
  · unfold kf
    rw [decide_eq_true q]
    rfl
  · rcases (show k = 0 ∨ k = 1 ∨ k = 2 ∨ k = 3 ∨ k = 4 by omega) with rfl | rfl | rfl | rfl | rfl <;> rfl
  · rcases (show k = 8 ∨ k = 10 ∨ k = 45 ∨ k = 46 ∨ k = 47 ∨ k = 48 ∨ k = 49 ∨ k = 58 ∨ k = 60 by omega) with rfl | rfl | rfl | rfl | rfl | rfl | rfl | rfl | rfl <;> rfl
theorem fr.kept (h : fr A F σ τ) (hA : A.all (fun a => !kr a) = true) (hF : F.all (fun q => !kf q && !ks q) = true) : iv_kept σ τ := by
  have hs : ∀ q, ks q = true → q ∉ F := fun q e r => by
    have := List.all_eq_true.mp hF q r
    rw [e, Bool.not_true, Bool.and_false] at this
    cases this
  refine h.keptS hA (List.all_eq_true.mpr (fun q r => ?_)) (fun w => ?_)
  · have := List.all_eq_true.mp hF q r
    rw [Bool.and_eq_true] at this
    exact this.1
  · unfold iv_sw
    rw [h.g (hs (29, 0) rfl), h.g (hs (29, 1) rfl), h.g (hs (37, 0) rfl), h.g (hs (37, 1) rfl), h.g (hs (61, 4) rfl), h.g (hs (61, 5) rfl)]
    exact w
end FR
