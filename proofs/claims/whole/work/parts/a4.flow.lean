/-! ways sent one after another: a search by layers, the way back, cuts -/
theorem sm2_upd {F G : Nat → Nat → Nat} {c x0 y0 P : Nat} (hx : x0 < P) (hy : y0 < P) (h1 : ∀ x y, x < P → y < P → (x ≠ x0 ∨ y ≠ y0) → F x y = G x y) (h2 : F x0 y0 + c = G x0 y0) : sm (fun x => sm (fun y => F x y) P) P + c = sm (fun x => sm (fun y => G x y) P) P := by
  refine sm_upd (k0 := x0) hx (fun x hx' hne => sm_congr (fun y hy' => h1 x y hx' hy' (Or.inl hne))) ?_
  exact sm_upd (k0 := y0) hy (fun y hy' hne => h1 x0 y hx hy' (Or.inr hne)) h2
abbrev qS : Type := (Nat → Nat) × Nat × (Nat → Nat)
def qS.q (s : qS) : Nat → Nat := s.1
def qS.k (s : qS) : Nat := s.2.1
def qS.fm (s : qS) : Nat → Nat := s.2.2
def qS.put (s : qS) (u v : Nat) : qS := ⟨qup s.q s.k v, s.k + 1, fun x => if x = v then u else s.fm x⟩
def app (u : Nat) : List Nat → qS → qS
  | [], s => s
  | v :: l, s => app u l (s.put u v)
theorem app_append {u : Nat} : ∀ (l l' : List Nat) (s : qS), app u (l ++ l') s = app u l' (app u l s)
  | [], _, _ => rfl
  | _ :: l, l', s => app_append l l' _
def nw (E : Nat → Nat → Bool) (P : Nat) (s : qS) (u : Nat) : List Nat := (List.range P).filter (fun v => E u v && decide (s.fm v = 99))
def bfs (E : Nat → Nat → Bool) (P b : Nat) : Nat → Nat → qS → qS
  | 0, _, s => s
  | m + 1, i, s => if i < s.k ∧ s.fm b = 99 then bfs E P b m (i + 1) (app (s.q i) (nw E P s (s.q i)) s) else s
def bf0 (a : Nat) : qS := ⟨fun _ => a, 1, fun x => if x = a then a else 99⟩
/-- where the search stands -/
def BI (E : Nat → Nat → Bool) (P a : Nat) (s : qS) : Prop := (1 ≤ s.k) ∧ (s.q 0 = a) ∧ (∀ i j, i < j → j < s.k → s.q i ≠ s.q j) ∧ (∀ i, i < s.k → s.q i < P) ∧ (∀ v, v < P → (s.fm v ≠ 99 ↔ ∃ i, i < s.k ∧ s.q i = v)) ∧ (∀ j, 0 < j → j < s.k → ∃ i, i < j ∧ s.fm (s.q j) = s.q i ∧ E (s.q i) (s.q j) = true) ∧ (s.fm a = a)
theorem BI.k1 {E : Nat → Nat → Bool} {P a : Nat} {s : qS} (h : BI E P a s) : 1 ≤ s.k := h.1
theorem BI.q0 {E : Nat → Nat → Bool} {P a : Nat} {s : qS} (h : BI E P a s) : s.q 0 = a := h.2.1
theorem BI.inj {E : Nat → Nat → Bool} {P a : Nat} {s : qS} (h : BI E P a s) : ∀ i j, i < j → j < s.k → s.q i ≠ s.q j := h.2.2.1
theorem BI.lt {E : Nat → Nat → Bool} {P a : Nat} {s : qS} (h : BI E P a s) : ∀ i, i < s.k → s.q i < P := h.2.2.2.1
theorem BI.mem {E : Nat → Nat → Bool} {P a : Nat} {s : qS} (h : BI E P a s) : ∀ v, v < P → (s.fm v ≠ 99 ↔ ∃ i, i < s.k ∧ s.q i = v) := h.2.2.2.2.1
theorem BI.par {E : Nat → Nat → Bool} {P a : Nat} {s : qS} (h : BI E P a s) : ∀ j, 0 < j → j < s.k → ∃ i, i < j ∧ s.fm (s.q j) = s.q i ∧ E (s.q i) (s.q j) = true := h.2.2.2.2.2.1
theorem BI.fa {E : Nat → Nat → Bool} {P a : Nat} {s : qS} (h : BI E P a s) : s.fm a = a := h.2.2.2.2.2.2
section BF
variable {E : Nat → Nat → Bool} {P a b : Nat} {s : qS}
theorem bi_0 (hP : P ≤ 48) (ha : a < P) : BI E P a (bf0 a) := by
  refine ⟨Nat.le_refl _, rfl, fun i j h1 h2 => ?_, fun i h => ha, fun v hv => ?_, fun j h1 h2 => ?_, if_pos rfl⟩
  · have : j < 1 := h2
    omega
  · show (if v = a then a else 99) ≠ 99 ↔ _
    by_cases c : v = a
    · rw [if_pos c]
      exact ⟨fun _ => ⟨0, Nat.one_pos, c.symm⟩, fun _ => by omega⟩
    · rw [if_neg c]
      exact ⟨fun q => absurd rfl q, fun ⟨i, _, q⟩ => absurd q.symm c⟩
  · have : j < 1 := h2
    omega
theorem qc_smP {q : Nat → Nat} {P : Nat} : ∀ {k : Nat}, (∀ i, i < k → q i < P) → sm (fun j => qc q j k) P = k
  | 0, _ => sm_0
  | k + 1, h => by
    have e : sm (fun j => qc q j (k + 1)) P = sm (fun j => qc q j k) P + sm (fun j => if q k = j then 1 else 0) P := sm_add
    rw [e, qc_smP (k := k) (fun i hi => h i (by omega)), sm_point (h k (by omega))]
theorem inj_le {q : Nat → Nat} {k P : Nat} (h : ∀ i j, i < j → j < k → q i ≠ q j) (h2 : ∀ i, i < k → q i < P) : k ≤ P := by
  have e := qc_smP h2
  have : sm (fun j => qc q j k) P ≤ sm (fun _ => 1) P := sm_le (fun j _ => qc_le h)
  rw [sm_c] at this
  omega
theorem BI.le (h : BI E P a s) : s.k ≤ P := inj_le h.inj h.lt
theorem BI.put (hP : P ≤ 48) (h : BI E P a s) {i v : Nat} (hi : i < s.k) (hv : v < P) (hf : s.fm v = 99) (hE : E (s.q i) v = true) : BI E P a (s.put (s.q i) v) := by
  have hva : v ≠ a := by
    intro c
    have := h.fa
    rw [← c, hf] at this
    omega
  have hq : ∀ j, j < s.k → qup s.q s.k v j = s.q j := fun j hj => qup_ne (by omega)
  have hnew : ∀ j, j < s.k → s.q j ≠ v := fun j hj c => (h.mem v hv).mpr ⟨j, hj, c⟩ hf
  refine ⟨by show 1 ≤ s.k + 1; omega, by show qup s.q s.k v 0 = a; rw [hq 0 (by have := h.k1; omega)]; exact h.q0, fun j l hjl hl => ?_, fun j hj => ?_, fun w hw => ?_, fun j h0 hj => ?_, ?_⟩
  · have hl' : l < s.k + 1 := hl
    show qup s.q s.k v j ≠ qup s.q s.k v l
    rw [hq j (by omega)]
    by_cases c : l = s.k
    · rw [c, qup_at]; exact hnew j (by omega)
    · rw [hq l (by omega)]; exact h.inj j l hjl (by omega)
  · have hj' : j < s.k + 1 := hj
    show qup s.q s.k v j < P
    by_cases c : j = s.k
    · rw [c, qup_at]; exact hv
    · rw [hq j (by omega)]; exact h.lt j (by omega)
  · show (if w = v then s.q i else s.fm w) ≠ 99 ↔ ∃ j, j < s.k + 1 ∧ qup s.q s.k v j = w
    by_cases c : w = v
    · rw [if_pos c]
      have := h.lt i hi
      exact ⟨fun _ => ⟨s.k, by omega, by rw [qup_at, c]⟩, fun _ => by omega⟩
    · rw [if_neg c, h.mem w hw]
      constructor
      · rintro ⟨j, hj, e⟩
        exact ⟨j, by omega, by rw [hq j hj]; exact e⟩
      · rintro ⟨j, hj, e⟩
        by_cases d : j = s.k
        · rw [d, qup_at] at e; exact absurd e.symm c
        · rw [hq j (by omega)] at e; exact ⟨j, by omega, e⟩
  · have hj' : j < s.k + 1 := hj
    show ∃ i', i' < j ∧ (if qup s.q s.k v j = v then s.q i else s.fm (qup s.q s.k v j)) = qup s.q s.k v i' ∧ E (qup s.q s.k v i') (qup s.q s.k v j) = true
    by_cases c : j = s.k
    · refine ⟨i, by omega, ?_, ?_⟩
      · rw [c, qup_at, if_pos rfl, hq i hi]
      · rw [c, qup_at, hq i hi]; exact hE
    · obtain ⟨i', a1, a2, a3⟩ := h.par j h0 (by omega)
      refine ⟨i', a1, ?_, ?_⟩
      · rw [hq j (by omega), if_neg (hnew j (by omega)), hq i' (by omega)]; exact a2
      · rw [hq j (by omega), hq i' (by omega)]; exact a3
  · show (if a = v then s.q i else s.fm a) = a
    rw [if_neg (fun q => hva q.symm)]
    exact h.fa
theorem app_bi (hP : P ≤ 48) {i : Nat} : ∀ (l : List Nat) (s : qS), BI E P a s → i < s.k → l.Nodup → (∀ v, v ∈ l → v < P ∧ s.fm v = 99 ∧ E (s.q i) v = true) → BI E P a (app (s.q i) l s) ∧ s.k ≤ (app (s.q i) l s).k ∧ (∀ j, j < s.k → (app (s.q i) l s).q j = s.q j) ∧ (∀ v, (app (s.q i) l s).fm v = if v ∈ l then s.q i else s.fm v)
  | [], s, h, _, _, _ => ⟨h, Nat.le_refl _, fun _ _ => rfl, fun v => by rw [if_neg List.not_mem_nil]; rfl⟩
  | v :: l, s, h, hi, hn, hl => by
    obtain ⟨v1, v2, v3⟩ := hl v List.mem_cons_self
    have h1 := h.put hP hi v1 v2 v3
    have eq : (s.put (s.q i) v).q i = s.q i := qup_ne (by omega)
    have hn' := List.nodup_cons.mp hn
    obtain ⟨r1, r2, r3, r4⟩ := app_bi hP (i := i) l (s.put (s.q i) v) h1 (by show i < s.k + 1; omega) hn'.2 (fun w hw => by
      obtain ⟨w1, w2, w3⟩ := hl w (List.mem_cons_of_mem _ hw)
      refine ⟨w1, ?_, by rw [eq]; exact w3⟩
      show (if w = v then s.q i else s.fm w) = 99
      rw [if_neg (fun (q : w = v) => hn'.1 (by rw [← q]; exact hw))]
      exact w2)
    rw [eq] at r1 r2 r3 r4
    show BI E P a (app (s.q i) l (s.put (s.q i) v)) ∧ s.k ≤ (app (s.q i) l (s.put (s.q i) v)).k ∧ (∀ j, j < s.k → (app (s.q i) l (s.put (s.q i) v)).q j = s.q j) ∧ (∀ w, (app (s.q i) l (s.put (s.q i) v)).fm w = if w ∈ v :: l then s.q i else s.fm w)
    refine ⟨r1, Nat.le_trans (Nat.le_succ _) r2, fun j hj => ?_, fun w => ?_⟩
    · rw [r3 j (by show j < s.k + 1; omega)]
      exact qup_ne (by omega)
    · rw [r4 w]
      show (if w ∈ l then s.q i else (if w = v then s.q i else s.fm w)) = _
      by_cases c : w ∈ l
      · rw [if_pos c, if_pos (List.mem_cons_of_mem _ c)]
      · rw [if_neg c]
        by_cases d : w = v
        · rw [if_pos d, if_pos (by rw [d]; exact List.mem_cons_self)]
        · rw [if_neg d, if_neg (fun q => by rcases List.mem_cons.mp q with q | q; exact d q; exact c q)]
theorem nw_mem {u v : Nat} : v ∈ nw E P s u ↔ v < P ∧ E u v = true ∧ s.fm v = 99 := by
  unfold nw
  rw [List.mem_filter, List.mem_range, Bool.and_eq_true, decide_eq_true_iff]
theorem nw_nodup {u : Nat} : (nw E P s u).Nodup := List.Nodup.sublist List.filter_sublist List.nodup_range
theorem bstep (hP : P ≤ 48) {i : Nat} (h : BI E P a s) (hi : i < s.k) (hd : ∀ i', i' < i → ∀ v, v < P → E (s.q i') v = true → s.fm v ≠ 99) : BI E P a (app (s.q i) (nw E P s (s.q i)) s) ∧ s.k ≤ (app (s.q i) (nw E P s (s.q i)) s).k ∧ (∀ i', i' < i + 1 → ∀ v, v < P → E ((app (s.q i) (nw E P s (s.q i)) s).q i') v = true → (app (s.q i) (nw E P s (s.q i)) s).fm v ≠ 99) := by
  obtain ⟨r1, r2, r3, r4⟩ := app_bi hP (i := i) (nw E P s (s.q i)) s h hi nw_nodup (fun v hv => by
    obtain ⟨a1, a2, a3⟩ := nw_mem.mp hv
    exact ⟨a1, a3, a2⟩)
  refine ⟨r1, r2, fun i' hi' v hv he => ?_⟩
  rw [r3 i' (by omega)] at he
  rw [r4 v]
  have hqi := h.lt i hi
  by_cases c : v ∈ nw E P s (s.q i)
  · rw [if_pos c]; omega
  · rw [if_neg c]
    by_cases d : i' = i
    · intro q
      rw [d] at he
      exact c (nw_mem.mpr ⟨hv, he, q⟩)
    · exact hd i' (by omega) v hv he
theorem bfs_bi (hP : P ≤ 48) : ∀ (m i : Nat) (s : qS), i + m = 48 → i ≤ s.k → BI E P a s → (∀ i', i' < i → ∀ v, v < P → E (s.q i') v = true → s.fm v ≠ 99) → BI E P a (bfs E P b m i s) ∧ ((bfs E P b m i s).fm b = 99 → ∀ u v, u < P → v < P → (bfs E P b m i s).fm u ≠ 99 → E u v = true → (bfs E P b m i s).fm v ≠ 99) := by
  have clo : ∀ (s : qS), BI E P a s → (∀ i', i' < s.k → ∀ v, v < P → E (s.q i') v = true → s.fm v ≠ 99) → ∀ u v, u < P → v < P → s.fm u ≠ 99 → E u v = true → s.fm v ≠ 99 := by
    intro s h hd u v hu hv h1 h2
    obtain ⟨i, hi, e⟩ := (h.mem u hu).mp h1
    exact hd i hi v hv (by rw [e]; exact h2)
  intro m
  induction m with
  | zero =>
    intro i s hi hik h hd
    have := h.le
    exact ⟨h, fun _ => clo s h (fun i' hi' => hd i' (by omega))⟩
  | succ m ih =>
    intro i s hi hik h hd
    have e0 : bfs E P b (m + 1) i s = if i < s.k ∧ s.fm b = 99 then bfs E P b m (i + 1) (app (s.q i) (nw E P s (s.q i)) s) else s := rfl
    rw [e0]
    by_cases c : i < s.k ∧ s.fm b = 99
    · rw [if_pos c]
      obtain ⟨r1, r2, r3⟩ := bstep hP h c.1 hd
      exact ih (i + 1) _ (by omega) (by omega) r1 r3
    · rw [if_neg c]
      refine ⟨h, fun hb => clo s h (fun i' hi' => hd i' ?_)⟩
      have : ¬ i < s.k := fun q => c ⟨q, hb⟩
      omega
def bfr (E : Nat → Nat → Bool) (P a b : Nat) : qS := bfs E P b 48 0 (bf0 a)
theorem bfr_bi (hP : P ≤ 48) (ha : a < P) : BI E P a (bfr E P a b) ∧ ((bfr E P a b).fm b = 99 → ∀ u v, u < P → v < P → (bfr E P a b).fm u ≠ 99 → E u v = true → (bfr E P a b).fm v ≠ 99) := bfs_bi hP 48 0 (bf0 a) rfl (by omega) (bi_0 hP ha) (fun i' h => absurd h (Nat.not_lt_zero _))
end BF
/-! rooms -/
def up (ρ : Nat → Nat → Nat) (u v : Nat) : Nat → Nat → Nat := fun x y => if x = u ∧ y = v then ρ x y - 1 else if x = v ∧ y = u then ρ x y + 1 else ρ x y
def eR (ρ : Nat → Nat → Nat) : Nat → Nat → Bool := fun u v => decide (ρ u v ≠ 0)
def snd (fm : Nat → Nat) (a : Nat) : Nat → Nat → (Nat → Nat → Nat) → (Nat → Nat → Nat)
  | 0, _, ρ => ρ
  | m + 1, x, ρ => if x = a then ρ else snd fm a m (fm x) (up ρ (fm x) x)
def Ph (P : Nat) (S : Nat → Bool) (ρ : Nat → Nat → Nat) : Nat := sm (fun x => sm (fun y => if S x = true ∧ ¬ S y = true then ρ x y else 0) P) P
section RM
variable {P a b : Nat} {S : Nat → Bool} {ρ : Nat → Nat → Nat}
theorem up_at {u v : Nat} (h : u ≠ v) : up ρ u v u v = ρ u v - 1 := if_pos ⟨rfl, rfl⟩
theorem up_bk {u v : Nat} (h : u ≠ v) : up ρ u v v u = ρ v u + 1 := by
  unfold up
  rw [if_neg (fun q => h q.1.symm), if_pos ⟨rfl, rfl⟩]
theorem up_ne {u v x y : Nat} (h1 : ¬ (x = u ∧ y = v)) (h2 : ¬ (x = v ∧ y = u)) : up ρ u v x y = ρ x y := by
  unfold up
  rw [if_neg h1, if_neg h2]
theorem Ph_up {u x : Nat} (hu : u < P) (hx : x < P) (hne : u ≠ x) (h : ρ u x ≠ 0) : Ph P S (up ρ u x) + (if S u = true ∧ ¬ S x = true then 1 else 0) = Ph P S ρ + (if S x = true ∧ ¬ S u = true then 1 else 0) := by
  have e1 : sm (fun y => sm (fun z => if S y = true ∧ ¬ S z = true then (if y = u ∧ z = x then ρ y z - 1 else ρ y z) else 0) P) P + (if S u = true ∧ ¬ S x = true then 1 else 0) = Ph P S ρ := by
    refine sm2_upd (x0 := u) (y0 := x) hu hx (fun y z _ _ hyz => ?_) ?_
    · rw [if_neg (c := y = u ∧ z = x) (fun q => by omega)]
    · by_cases c : S u = true ∧ ¬ S x = true
      · rw [if_pos c, if_pos c, if_pos c, if_pos ⟨rfl, rfl⟩]; omega
      · rw [if_neg c, if_neg c, if_neg c]
  have e2 : sm (fun y => sm (fun z => if S y = true ∧ ¬ S z = true then (if y = u ∧ z = x then ρ y z - 1 else ρ y z) else 0) P) P + (if S x = true ∧ ¬ S u = true then 1 else 0) = Ph P S (up ρ u x) := by
    refine sm2_upd (x0 := x) (y0 := u) hx hu (fun y z _ _ hyz => ?_) ?_
    · unfold up
      by_cases c : y = u ∧ z = x
      · rw [if_pos c, if_pos c]
      · rw [if_neg c, if_neg c, if_neg (c := y = x ∧ z = u) (fun q => by omega)]
    · rw [up_bk hne]
      by_cases c : S x = true ∧ ¬ S u = true
      · rw [if_pos c, if_pos c, if_pos c, if_neg (fun q => hne q.1.symm)]
      · rw [if_neg c, if_neg c, if_neg c]
  omega
/-- the way back, by places in the queue -/
theorem snd_all {s : qS} (hP : P ≤ 48) (h : BI (eR ρ) P a s) (K : (Nat → Nat → Nat) → Prop) (hK : ∀ ρ' u x, K ρ' → u < P → x < P → u ≠ x → ρ' u x ≠ 0 → K (up ρ' u x)) (hS : S a = true) : ∀ (j m : Nat) (ρ' : Nat → Nat → Nat), j < m → j < s.k → K ρ' → (∀ i' j', i' < j' → j' ≤ j → ρ' (s.q i') (s.q j') = ρ (s.q i') (s.q j')) → K (snd s.fm a m (s.q j) ρ') ∧ Ph P S (snd s.fm a m (s.q j) ρ') + (if S (s.q j) = true then 0 else 1) = Ph P S ρ' := by
  intro j
  induction j using Nat.strongRecOn with
  | ind j ih =>
    intro m ρ' hm hj hk hρ
    obtain ⟨m, rfl⟩ : ∃ q, m = q + 1 := ⟨m - 1, by omega⟩
    have es : snd s.fm a (m + 1) (s.q j) ρ' = if s.q j = a then ρ' else snd s.fm a m (s.fm (s.q j)) (up ρ' (s.fm (s.q j)) (s.q j)) := rfl
    rw [es]
    by_cases c : s.q j = a
    · rw [if_pos c, c, if_pos hS]
      exact ⟨hk, rfl⟩
    · rw [if_neg c]
      have hj0 : 0 < j := by
        apply Nat.pos_of_ne_zero
        intro q
        rw [q, h.q0] at c
        exact c rfl
      obtain ⟨i, i1, i2, i3⟩ := h.par j hj0 hj
      rw [i2]
      have hne : s.q i ≠ s.q j := h.inj i j i1 hj
      have hnz : ρ' (s.q i) (s.q j) ≠ 0 := by
        rw [hρ i j i1 (Nat.le_refl _)]
        exact of_decide_eq_true i3
      have hi := h.lt i (by omega)
      have hjP := h.lt j hj
      obtain ⟨r1, r2⟩ := ih i i1 m (up ρ' (s.q i) (s.q j)) (by omega) (by omega) (hK ρ' _ _ hk hi hjP hne hnz) (fun i' j' h1 h2 => by
        rw [up_ne (fun q => h.inj j' j (by omega) hj q.2) (fun q => h.inj i' j (by omega) hj q.1)]
        exact hρ i' j' h1 (by omega))
      refine ⟨r1, ?_⟩
      have hp := Ph_up (S := S) hi hjP hne hnz
      cases hSi : S (s.q i) <;> cases hSj : S (s.q j) <;> simp [hSi, hSj] at r2 hp ⊢ <;> omega
/-- how many ways -/
def fl (P a b : Nat) : Nat → (Nat → Nat → Nat) → Nat
  | 0, _ => 0
  | m + 1, ρ => if (bfr (eR ρ) P a b).fm b = 99 then 0 else 1 + fl P a b m (snd (bfr (eR ρ) P a b).fm a 49 b ρ)
theorem snd_b (hP : P ≤ 48) (ha : a < P) (hb : b < P) (hf : ¬ (bfr (eR ρ) P a b).fm b = 99) (K : (Nat → Nat → Nat) → Prop) (hK : ∀ ρ' u x, K ρ' → u < P → x < P → u ≠ x → ρ' u x ≠ 0 → K (up ρ' u x)) (hS : S a = true) (hk : K ρ) (hSb : ¬ S b = true) : K (snd (bfr (eR ρ) P a b).fm a 49 b ρ) ∧ Ph P S (snd (bfr (eR ρ) P a b).fm a 49 b ρ) + 1 = Ph P S ρ := by
  obtain ⟨h1, -⟩ := bfr_bi (E := eR ρ) (b := b) hP ha
  obtain ⟨j, hj, e⟩ := (h1.mem b hb).mp hf
  have := h1.le
  have r := snd_all (S := S) hP h1 K hK hS j 49 ρ (by omega) hj hk (fun _ _ _ _ => rfl)
  rw [e, if_neg hSb] at r
  exact r
theorem fl_le (hP : P ≤ 48) (ha : a < P) (hb : b < P) (hS : S a = true) (hSb : ¬ S b = true) : ∀ (m : Nat) (ρ : Nat → Nat → Nat), fl P a b m ρ ≤ Ph P S ρ := by
  intro m
  induction m with
  | zero => intro ρ; exact Nat.zero_le _
  | succ m ih =>
    intro ρ
    have efl : fl P a b (m + 1) ρ = if (bfr (eR ρ) P a b).fm b = 99 then 0 else 1 + fl P a b m (snd (bfr (eR ρ) P a b).fm a 49 b ρ) := rfl
    rw [efl]
    by_cases c : (bfr (eR ρ) P a b).fm b = 99
    · rw [if_pos c]; exact Nat.zero_le _
    · rw [if_neg c]
      have := (snd_b hP ha hb c (fun _ => True) (fun _ _ _ _ _ _ _ _ => trivial) hS trivial hSb).2
      have := ih (snd (bfr (eR ρ) P a b).fm a 49 b ρ)
      omega
theorem Ph_0 (h : ∀ u v, u < P → v < P → S u = true → ρ u v ≠ 0 → S v = true) : Ph P S ρ = 0 := by
  unfold Ph
  refine (sm_congr (G := fun _ => 0) (fun x hx => (sm_congr (G := fun _ => 0) (fun y hy => ?_)).trans sm_0)).trans sm_0
  by_cases c : S x = true ∧ ¬ S y = true
  · rw [if_pos c]
    apply Classical.byContradiction
    intro q
    exact c.2 (h x y hx hy c.1 q)
  · rw [if_neg c]
def S1 (a : Nat) : Nat → Bool := fun x => decide (x = a)
theorem fl_cut (hP : P ≤ 48) (ha : a < P) (hb : b < P) (hab : a ≠ b) : ∀ (m : Nat) (ρ : Nat → Nat → Nat), Ph P (S1 a) ρ < m → ∃ S : Nat → Bool, S a = true ∧ ¬ S b = true ∧ Ph P S ρ = fl P a b m ρ := by
  intro m
  induction m with
  | zero => intro ρ h; exact absurd h (Nat.not_lt_zero _)
  | succ m ih =>
    intro ρ h
    obtain ⟨h1, h2⟩ := bfr_bi (E := eR ρ) (b := b) hP ha
    by_cases c : (bfr (eR ρ) P a b).fm b = 99
    · refine ⟨fun x => decide ((bfr (eR ρ) P a b).fm x ≠ 99), decide_eq_true (by rw [h1.fa]; omega), fun q => of_decide_eq_true q c, ?_⟩
      have e : fl P a b (m + 1) ρ = 0 := by
        show (if (bfr (eR ρ) P a b).fm b = 99 then 0 else _) = 0
        rw [if_pos c]
      rw [e]
      exact Ph_0 (fun u v hu hv q1 q2 => decide_eq_true (h2 c u v hu hv (of_decide_eq_true q1) (decide_eq_true q2)))
    · have e : fl P a b (m + 1) ρ = 1 + fl P a b m (snd (bfr (eR ρ) P a b).fm a 49 b ρ) := by
        show (if (bfr (eR ρ) P a b).fm b = 99 then 0 else _) = _
        rw [if_neg c]
      have hd := fun (S : Nat → Bool) (q1 : S a = true) (q2 : ¬ S b = true) => (snd_b (S := S) hP ha hb c (fun _ => True) (fun _ _ _ _ _ _ _ _ => trivial) q1 trivial q2).2
      have h0 := hd (S1 a) (decide_eq_true rfl) (fun q => hab (of_decide_eq_true q).symm)
      obtain ⟨S, s1, s2, s3⟩ := ih (snd (bfr (eR ρ) P a b).fm a 49 b ρ) (by omega)
      refine ⟨S, s1, s2, ?_⟩
      have := hd S s1 s2
      rw [e]
      omega
end RM
