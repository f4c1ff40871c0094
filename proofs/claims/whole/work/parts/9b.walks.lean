/-! walks: sums and powers of longs -/
def lS (F : Nat → Int64) : Nat → Int64
  | 0 => 0
  | n + 1 => lS F n + F n
def lf9 (F : Nat → Int64) (l : List Nat) (x : Int64) : Int64 := l.foldl (fun y w => y + F w) x
theorem lf9_cons (F : Nat → Int64) (a : Nat) (l : List Nat) (x : Int64) : lf9 F (a :: l) x = lf9 F l (x + F a) := rfl
theorem lS_congr {F G : Nat → Int64} : ∀ {n : Nat}, (∀ k, k < n → F k = G k) → lS F n = lS G n
  | 0, _ => rfl
  | n + 1, h => by
    unfold lS
    rw [lS_congr (fun k hk => h k (by omega)), h n (by omega)]
theorem lS_0 : ∀ {n : Nat}, lS (fun _ => 0) n = 0
  | 0 => rfl
  | n + 1 => by
    unfold lS
    rw [lS_0, Int64.add_zero]
theorem lS_add {F G : Nat → Int64} : ∀ {n : Nat}, lS (fun k => F k + G k) n = lS F n + lS G n
  | 0 => rfl
  | n + 1 => by
    unfold lS
    rw [lS_add]
    grind
theorem lS_mul {c : Int64} {F : Nat → Int64} : ∀ {n : Nat}, lS (fun k => c * F k) n = c * lS F n
  | 0 => by
    show (0 : Int64) = c * 0
    rw [Int64.mul_zero]
  | n + 1 => by
    unfold lS
    rw [lS_mul, Int64.mul_add]
theorem lS_mulr {c : Int64} {F : Nat → Int64} : ∀ {n : Nat}, lS (fun k => F k * c) n = lS F n * c
  | 0 => by
    show (0 : Int64) = 0 * c
    rw [Int64.zero_mul]
  | n + 1 => by
    unfold lS
    rw [lS_mulr, Int64.add_mul]
theorem lS_swap {F : Nat → Nat → Int64} {m : Nat} : ∀ {n : Nat}, lS (fun a => lS (fun b => F a b) m) n = lS (fun b => lS (fun a => F a b) n) m
  | 0 => by
    show 0 = lS (fun b => 0) m
    rw [lS_0]
  | n + 1 => by
    show lS (fun a => lS (fun b => F a b) m) n + lS (fun b => F n b) m = lS (fun b => lS (fun a => F a b) n + F n b) m
    rw [lS_swap, lS_add]
theorem lS_front (F : Nat → Int64) : ∀ (m : Nat), lS F (m + 1) = F 0 + lS (fun k => F (k + 1)) m
  | 0 => by
    show 0 + F 0 = F 0 + 0
    rw [Int64.zero_add, Int64.add_zero]
  | m + 1 => by
    show lS F (m + 1) + F (m + 1) = F 0 + (lS (fun k => F (k + 1)) m + F (m + 1))
    rw [lS_front F m]
    grind
theorem lf9_acc {F : Nat → Int64} : ∀ (l : List Nat) (x : Int64), lf9 F l x = x + lf9 F l 0
  | [], x => by
    show x = x + 0
    rw [Int64.add_zero]
  | a :: l, x => by
    rw [lf9_cons, lf9_cons, lf9_acc l (x + F a), lf9_acc l (0 + F a)]
    grind
theorem lf9_congr {F G : Nat → Int64} : ∀ (l : List Nat) (x : Int64), (∀ i, i ∈ l → F i = G i) → lf9 F l x = lf9 G l x
  | [], _, _ => rfl
  | i :: l, x, h => by
    rw [lf9_cons, lf9_cons, h i List.mem_cons_self]
    exact lf9_congr l _ (fun j hj => h j (List.mem_cons_of_mem _ hj))
theorem lf9_filter {F : Nat → Int64} (p : Nat → Bool) : ∀ n, lf9 F ((List.range n).filter p) 0 = lS (fun i => if p i = true then F i else 0) n
  | 0 => rfl
  | n + 1 => by
    have e : ∀ (l k : List Nat) (x : Int64), lf9 F (l ++ k) x = lf9 F k (lf9 F l x) := fun l k x => by
      unfold lf9
      rw [List.foldl_append]
    rw [List.range_succ, List.filter_append, e, lf9_filter p n]
    show _ = lS (fun i => if p i = true then F i else 0) n + (if p n = true then F n else 0)
    by_cases h : p n = true
    · rw [if_pos h, List.filter_cons_of_pos h]
      rfl
    · rw [if_neg h, List.filter_cons_of_neg h, Int64.add_zero]
      rfl
/-- powers of the matrix of lines -/
def MP (f : Nat → Int32) : Nat → Nat → Nat → Int64
  | 0, v, u => if v = u then 1 else 0
  | h + 1, v, u => lf9 (fun w => MP f h w u) (bl (f v)) 0
section MPS
variable {f : Nat → Int32} {n : Nat}
def ad (f : Nat → Int32) (v w : Nat) : Int64 := if bt (f v) w = true then 1 else 0
theorem MP_s (hn : n ≤ 24) (hw : gw f n) {h v u : Nat} (hv : v < n) : MP f (h + 1) v u = lS (fun w => ad f v w * MP f h w u) n := by
  show lf9 (fun w => MP f h w u) (bl (f v)) 0 = _
  rw [bl_n (x := f v) (n := n) (by omega) (fun i q => (hw v (by omega) i q).2.1), ← List.range_eq_range', lf9_filter]
  refine lS_congr (fun w _ => ?_)
  unfold ad
  by_cases c : bt (f v) w = true
  · rw [if_pos c, if_pos c, Int64.one_mul]
  · rw [if_neg c, if_neg c, Int64.zero_mul]
theorem lS_one {F : Nat → Int64} {x : Nat} : ∀ {n : Nat}, x < n → lS (fun u => (if x = u then 1 else 0) * F u) n = F x
  | 0, h => absurd h (Nat.not_lt_zero x)
  | n + 1, h => by
    show lS (fun u => (if x = u then 1 else 0) * F u) n + (if x = n then 1 else 0) * F n = F x
    by_cases c : x = n
    · rw [if_pos c, lS_congr (G := fun _ => 0) (fun k hk => by rw [if_neg (by omega), Int64.zero_mul]), lS_0, Int64.one_mul, Int64.zero_add, c]
    · rw [if_neg c, lS_one (by omega), Int64.zero_mul, Int64.add_zero]
theorem MP_add (hn : n ≤ 24) (hw : gw f n) {b x : Nat} : ∀ (a v : Nat), v < n → MP f (a + b) v x = lS (fun u => MP f a v u * MP f b u x) n
  | 0, v, hv => by
    rw [Nat.zero_add]
    exact (lS_one (F := fun u => MP f b u x) hv).symm
  | a + 1, v, hv => by
    rw [show a + 1 + b = a + b + 1 by omega, MP_s hn hw hv]
    rw [lS_congr (G := fun w => lS (fun u => ad f v w * (MP f a w u * MP f b u x)) n) (fun w hw' => by rw [MP_add hn hw a w hw', lS_mul])]
    rw [lS_swap]
    refine lS_congr (fun u _ => ?_)
    rw [MP_s hn hw hv, ← lS_mulr]
    refine lS_congr (fun w _ => ?_)
    rw [Int64.mul_assoc]
theorem MP_1 (hn : n ≤ 24) (hw : gw f n) {v u : Nat} (hv : v < n) (hu : u < n) : MP f 1 v u = ad f v u := by
  rw [MP_s hn hw hv]
  have : lS (fun w => ad f v w * MP f 0 w u) n = lS (fun w => (if u = w then 1 else 0) * ad f v w) n := lS_congr (fun w _ => by
    show ad f v w * (if w = u then 1 else 0) = _
    rw [Int64.mul_comm]
    by_cases c : w = u
    · rw [if_pos c, if_pos c.symm]
    · rw [if_neg c, if_neg (fun q => c q.symm)])
  rw [this, lS_one hu]
theorem ad_sym (hn : n ≤ 24) (hw : gw f n) {v u : Nat} (hv : v < n) (hu : u < n) : ad f v u = ad f u v := by
  unfold ad
  by_cases c : bt (f v) u = true
  · rw [if_pos c, if_pos (hw v (by omega) u c).2.2.2]
  · rw [if_neg c, if_neg (fun q => c (hw u (by omega) v q).2.2.2)]
theorem MP_sym (hn : n ≤ 24) (hw : gw f n) : ∀ (h v x : Nat), v < n → x < n → MP f h v x = MP f h x v
  | 0, v, x, _, _ => by
    show (if v = x then 1 else 0) = (if x = v then 1 else 0)
    by_cases c : v = x
    · rw [if_pos c, if_pos c.symm]
    · rw [if_neg c, if_neg (fun q => c q.symm)]
  | h + 1, v, x, hv, hx => by
    rw [MP_s hn hw hv, MP_add hn hw (b := 1) h x hx]
    refine lS_congr (fun w hw' => ?_)
    rw [MP_1 hn hw hw' hv, MP_sym hn hw h w x hw' hx, ad_sym hn hw hv hw', Int64.mul_comm]
/-- the trace of a power -/
def tR (f : Nat → Int32) (n k : Nat) : Int64 := lS (fun v => MP f k v v) n
theorem tR_ev (hn : n ≤ 24) (hw : gw f n) (a b : Nat) : lS (fun v => lS (fun u => MP f a v u * MP f b v u) n) n = tR f n (a + b) := by
  unfold tR
  refine lS_congr (fun v hv => ?_)
  rw [MP_add hn hw a v hv]
  refine lS_congr (fun u hu => ?_)
  rw [MP_sym hn hw b u v hu hv]
end MPS
def ur (y : Int64) : Nat := if y = 0 then 38 else 39
def ux (y : Int64) : Nat := if y = 0 then 39 else 38
theorem lay_ur (y : Int64) : hp_lay[ur y]? = some (2, 576, [], []) := by unfold ur; split <;> rfl
theorem lay_ux (y : Int64) : hp_lay[ux y]? = some (2, 576, [], []) := by unfold ux; split <;> rfl
theorem ur_ux (y : Int64) : ur y ≠ ux y := by unfold ur ux; split <;> decide
theorem ur_tog (y : Int64) : ur (tog y) = ux y := by
  unfold ur ux tog
  by_cases h : y = 0
  · rw [if_pos h, if_pos h]; rfl
  · rw [if_neg h, if_neg h]; rfl
theorem ux_in (y : Int64) : ux y ∈ [38, 39] := by unfold ux; split <;> decide
theorem ur_in (y : Int64) : ur y ∈ [38, 39] := by unfold ur; split <;> decide
theorem ur_o (y : Int64) : ur y = 38 ∨ ur y = 39 := by unfold ur; split <;> simp
theorem ux_o (y : Int64) : ux y = 38 ∨ ux y = 39 := by unfold ux; split <;> simp
theorem hp_wl_at {σ : hp_S} {a j : Nat} {x : Int64} : (hp_wl σ a j x).2.1 a j = x := by
  show hp_up σ.2.1 a j x a j = x
  unfold hp_up
  rw [if_pos ⟨rfl, rfl⟩]
theorem hp_wl_nj {σ : hp_S} {a j l : Nat} {x : Int64} (h : l ≠ j) : (hp_wl σ a j x).2.1 a l = σ.2.1 a l := by
  show hp_up σ.2.1 a j x a l = _
  unfold hp_up
  rw [if_neg (fun q => h q.2)]
theorem hp_wl_ne {σ : hp_S} {a b j : Nat} {x : Int64} (h : b ≠ a) : (hp_wl σ a j x).2.1 b = σ.2.1 b := hp_up_ne h
section WK
variable {cs : Nat × Nat} {N n : Nat} {f : Nat → Int32}
theorem uPow {σ : hp_S} {g : Nat → lf_R} : (lf_fr (hp σ, cs) 37 6 0).bind g = g (ur (σ.2.2.2 37 0)) := r37_0
theorem uHi {σ : hp_S} {g : Nat → lf_R} : (lf_fr (hp σ, cs) 37 6 1).bind g = g (ux (σ.2.2.2 37 1)) := r37_1
theorem rdL {σ : hp_S} {a j m : Nat} (h : hp_lay[a]? = some (2, m, [], [])) (hm : m < 2 ^ 31) (hj : j < m) (g : Int64 → lf_R) : (lf_rl (hp σ, cs) a (nI j)).bind g = g (σ.2.1 a j) := by rw [hp_rl h (in_nI hj hm), Option.bind_some, nI_clamp (by omega)]
theorem wrL {σ : hp_S} {a j m : Nat} {y : Int64} (h : hp_lay[a]? = some (2, m, [], [])) (hm : m < 2 ^ 31) (hj : j < m) (g : lf_W → lf_R) : (lf_wl (hp σ, cs) a (nI j) y).bind g = g (hp (hp_wl σ a j y), cs) := by rw [hp_swl h (in_nI hj hm), Option.bind_some, nI_clamp (by omega)]
/-- sumOfProducts -/
theorem c_sp1 {σ : hp_S} {o v : Nat} {k5 : Nat → Int32 → Nat → Int64 → Int32 → lf_W → lf_R} (hn : n ≤ 24) (hv : v < n) (ho : hp_lay[o]? = some (2, 576, [], [])) : ∀ (m u9 u : Nat) (acc : Int64), u9 + m = n → m < u → g70_18 N k5 u 37 (nI n) o acc (nI v) (nI (24 * v + u9)) (hp σ, cs) = k5 37 (nI n) o (acc + lS (fun i => σ.2.1 (ur (σ.2.2.2 37 0)) (24 * v + (u9 + i)) * σ.2.1 o (24 * v + (u9 + i))) m) (nI (v + 1)) (hp σ, cs) := by
  have e0 : nI v * 24 + nI n = nI (24 * v + n) := ix_b v n
  intro m
  induction m with
  | zero =>
    intro u9 u acc hu9 hu
    obtain ⟨u, rfl⟩ : ∃ q, u = q + 1 := ⟨u - 1, by omega⟩
    unfold g70_18
    rw [e0, if_pos (nI_le (by omega) (by omega)), nI_1]
    show k5 37 (nI n) o acc (nI (v + 1)) (hp σ, cs) = k5 37 (nI n) o (acc + 0) (nI (v + 1)) (hp σ, cs)
    rw [Int64.add_zero]
  | succ m ih =>
    intro u9 u acc hu9 hu
    obtain ⟨u, rfl⟩ : ∃ q, u = q + 1 := ⟨u - 1, by omega⟩
    unfold g70_18
    rw [e0, if_neg (nI_ge (by omega) (by omega)), uPow, rdL (lay_ur _) (by omega) (by omega), rdL ho (by omega) (by omega), nI_1, show 24 * v + u9 + 1 = 24 * v + (u9 + 1) by omega, ih (u9 + 1) u _ (by omega) (by omega), lS_front]
    rw [lS_congr (F := fun k => σ.2.1 (ur (σ.2.2.2 37 0)) (24 * v + (u9 + (k + 1))) * σ.2.1 o (24 * v + (u9 + (k + 1)))) (G := fun i => σ.2.1 (ur (σ.2.2.2 37 0)) (24 * v + (u9 + 1 + i)) * σ.2.1 o (24 * v + (u9 + 1 + i))) (fun k _ => by rw [show u9 + 1 + k = u9 + (k + 1) by omega]), Int64.add_assoc]
    rfl
theorem c_sp2 {σ : hp_S} {o : Nat} (hn : n ≤ 24) (hN : iv_N N) (ho : hp_lay[o]? = some (2, 576, [], [])) : ∀ (m v u : Nat) (acc : Int64), v + m = n → m < u → g70_5 N u 37 (nI n) o acc (nI v) (hp σ, cs) = some (.inl (some (.long (acc + lS (fun j => lS (fun i => σ.2.1 (ur (σ.2.2.2 37 0)) (24 * (v + j) + i) * σ.2.1 o (24 * (v + j) + i)) n) m))), (hp σ, cs)) := by
  intro m
  induction m with
  | zero =>
    intro v u acc hv hu
    obtain ⟨u, rfl⟩ : ∃ q, u = q + 1 := ⟨u - 1, by omega⟩
    unfold g70_5
    rw [if_pos (nI_le (by omega) (by omega))]
    show _ = some (Sum.inl (some (Value.long (acc + 0))), _)
    rw [Int64.add_zero]
  | succ m ih =>
    intro v u acc hv hu
    obtain ⟨u, rfl⟩ : ∃ q, u = q + 1 := ⟨u - 1, by omega⟩
    have := c_sp1 (σ := σ) (cs := cs) (N := N) (o := o) (v := v) (k5 := g70_5 N u) hn (by omega) ho n 0 N acc (by omega) (by unfold iv_N at hN; omega)
    unfold g70_5
    rw [if_neg (nI_ge (by omega) (by omega)), show nI v * 24 = nI (24 * v + 0) by rw [show (24 : Int32) = nI 24 from rfl, pk_mul, Nat.mul_comm, Nat.add_zero], this, ih (v + 1) u _ (by omega) (by omega), lS_front]
    rw [lS_congr (F := fun i => σ.2.1 (ur (σ.2.2.2 37 0)) (24 * v + (0 + i)) * σ.2.1 o (24 * v + (0 + i))) (G := fun i => σ.2.1 (ur (σ.2.2.2 37 0)) (24 * (v + 0) + i) * σ.2.1 o (24 * (v + 0) + i)) (fun i _ => by rw [Nat.zero_add, Nat.add_zero])]
    rw [lS_congr (F := fun k => lS (fun i => σ.2.1 (ur (σ.2.2.2 37 0)) (24 * (v + (k + 1)) + i) * σ.2.1 o (24 * (v + (k + 1)) + i)) n) (G := fun j => lS (fun i => σ.2.1 (ur (σ.2.2.2 37 0)) (24 * (v + 1 + j) + i) * σ.2.1 o (24 * (v + 1 + j) + i)) n) (fun k _ => by rw [show v + 1 + k = v + (k + 1) by omega]), Int64.add_assoc]
theorem c_sop {σ : hp_S} {o a b : Nat} (hn : n ≤ 24) (hw : gw f n) (hN : iv_N N) (ho : hp_lay[o]? = some (2, 576, [], [])) (h1 : ∀ v u, v < n → u < n → σ.2.1 (ur (σ.2.2.2 37 0)) (24 * v + u) = MP f a v u) (h2 : ∀ v u, v < n → u < n → σ.2.1 o (24 * v + u) = MP f b v u) : f70 N 37 (nI n) o (hp σ, cs) = some (.inl (some (.long (tR f n (a + b)))), (hp σ, cs)) := by
  have := c_sp2 (σ := σ) (cs := cs) (N := N) (o := o) hn hN ho n 0 N 0 (by omega) (by unfold iv_N at hN; omega)
  unfold f70
  rw [show (0 : Int32) = nI 0 from rfl, this, Int64.zero_add, ← tR_ev hn hw a b]
  rw [lS_congr (fun v hv => lS_congr (fun u hu => by rw [Nat.zero_add, h1 v u hv hu, h2 v u hv hu]))]
/-- multiply -/
theorem c_mu1 {v w : Nat} {x1 : Nat} {x4 : Int32} {k7 : Nat → Nat → Int32 → Int32 → lf_W → lf_R} {k48 : Nat → Nat → Int32 → Int32 → Int32 → lf_W → lf_R} (hn : n ≤ 24) (hv : v < n) (hw9 : w < n) : ∀ (m u9 u : Nat) (σ : hp_S), u9 + m = n → m < u → σ.2.2.2 37 0 = σ.2.2.2 37 1 → ∃ τ, fr [38, 39] [] σ τ ∧ τ.2.1 (ur (σ.2.2.2 37 0)) = σ.2.1 (ur (σ.2.2.2 37 0)) ∧ (∀ t, u9 ≤ t → t < n → τ.2.1 (ux (σ.2.2.2 37 0)) (24 * v + t) = σ.2.1 (ux (σ.2.2.2 37 0)) (24 * v + t) + σ.2.1 (ur (σ.2.2.2 37 0)) (24 * w + t)) ∧ (∀ j, (j < 24 * v + u9 ∨ 24 * v + n ≤ j) → τ.2.1 (ux (σ.2.2.2 37 0)) j = σ.2.1 (ux (σ.2.2.2 37 0)) j) ∧ g71_63 N k7 k48 u 37 x1 (nI n) (nI v) x4 (nI w) (nI u9) (hp σ, cs) = k48 37 x1 (nI n) (nI v) (x4 &&& (x4 - 1)) (hp τ, cs) := by
  intro m
  induction m with
  | zero =>
    intro u9 u σ hu9 hu hsw
    obtain ⟨u, rfl⟩ : ∃ q, u = q + 1 := ⟨u - 1, by omega⟩
    refine ⟨σ, fr.rf, rfl, fun t q1 q2 => by omega, fun _ _ => rfl, ?_⟩
    unfold g71_63
    rw [if_pos (nI_le (by omega) (by omega))]
  | succ m ih =>
    intro u9 u σ hu9 hu hsw
    obtain ⟨u, rfl⟩ : ∃ q, u = q + 1 := ⟨u - 1, by omega⟩
    obtain ⟨τ, q1, q2, q3, q4, q5⟩ := ih (u9 + 1) u (hp_wl σ (ux (σ.2.2.2 37 0)) (24 * v + u9) (σ.2.1 (ux (σ.2.2.2 37 0)) (24 * v + u9) + σ.2.1 (ur (σ.2.2.2 37 0)) (24 * w + u9))) (by omega) (by omega) hsw
    have e2 : (hp_wl σ (ux (σ.2.2.2 37 0)) (24 * v + u9) (σ.2.1 (ux (σ.2.2.2 37 0)) (24 * v + u9) + σ.2.1 (ur (σ.2.2.2 37 0)) (24 * w + u9))).2.2.2 = σ.2.2.2 := rfl
    rw [e2] at q2 q3 q4
    rw [hp_wl_ne (ur_ux _)] at q2 q3
    refine ⟨τ, (fr.wl (ux_in _)).tr q1, q2, fun t t1 t2 => ?_, fun j hj => ?_, ?_⟩
    · by_cases c : t = u9
      · rw [c, q4 _ (by omega), hp_wl_at]
      · rw [q3 t (by omega) t2, hp_wl_nj (by omega)]
    · rw [q4 j (by omega), hp_wl_nj (by omega)]
    · unfold g71_63
      rw [if_neg (nI_ge (by omega) (by omega)), uHi, ← hsw, ix_b, rdL (lay_ux _) (by omega) (by omega), uPow, ix_b, rdL (lay_ur _) (by omega) (by omega), wrL (lay_ux _) (by omega) (by omega), nI_1]
      exact q5
theorem c_mu2 {h v : Nat} {x1 : Nat} {k7 : Nat → Nat → Int32 → Int32 → lf_W → lf_R} (hn : n ≤ 24) (hN : iv_N N) (hv : v < n) : ∀ (l : List Nat) (u : Nat) (x : Int32) (σ : hp_S), bl x = l → l.length < u → (∀ i, bt x i = true → i < n) → σ.2.2.2 37 0 = σ.2.2.2 37 1 → (∀ a b, a < n → b < n → σ.2.1 (ur (σ.2.2.2 37 0)) (24 * a + b) = MP f h a b) → ∃ τ, fr [38, 39] [] σ τ ∧ τ.2.1 (ur (σ.2.2.2 37 0)) = σ.2.1 (ur (σ.2.2.2 37 0)) ∧ (∀ t, t < n → τ.2.1 (ux (σ.2.2.2 37 0)) (24 * v + t) = lf9 (fun w => MP f h w t) l (σ.2.1 (ux (σ.2.2.2 37 0)) (24 * v + t))) ∧ (∀ j, (j < 24 * v ∨ 24 * v + n ≤ j) → τ.2.1 (ux (σ.2.2.2 37 0)) j = σ.2.1 (ux (σ.2.2.2 37 0)) j) ∧ g71_48 N k7 u 37 x1 (nI n) (nI v) x (hp σ, cs) = k7 37 x1 (nI n) (nI (v + 1)) (hp τ, cs) := by
  intro l
  induction l with
  | nil =>
    intro u x σ hl hu hx hsw hp'
    obtain ⟨u, rfl⟩ : ∃ q, u = q + 1 := ⟨u - 1, by omega⟩
    have hx0 : x = 0 := by
      apply Classical.byContradiction
      intro q
      obtain ⟨l, -, -, -, e, -⟩ := bl_low q
      rw [hl] at e
      cases e
    subst hx0
    refine ⟨σ, fr.rf, rfl, fun t _ => rfl, fun _ _ => rfl, ?_⟩
    unfold g71_48
    rw [if_pos rfl, nI_1]
  | cons a l ih =>
    intro u x σ hl hu hx hsw hp'
    rw [List.length_cons] at hu
    obtain ⟨u, rfl⟩ : ∃ q, u = q + 1 := ⟨u - 1, by omega⟩
    have hx0 : ¬ x = 0 := by
      intro q
      rw [q, bl_0] at hl
      cases hl
    obtain ⟨b, l1, l2, l3, e, el⟩ := bl_low hx0
    rw [hl] at e
    cases e
    have ha := hx a l2
    obtain ⟨τ, q1, q2, q3, q4, q5⟩ := c_mu1 (N := N) (cs := cs) (v := v) (w := a) (x1 := x1) (x4 := x) (k7 := k7) (k48 := g71_48 N k7 u) hn hv ha n 0 N σ (by omega) (by unfold iv_N at hN; omega) hsw
    have eg : τ.2.2.2 37 0 = σ.2.2.2 37 0 := q1.g List.not_mem_nil
    obtain ⟨υ, p1, p2, p3, p4, p5⟩ := ih u (x &&& (x - 1)) τ rfl (by omega) (fun i q => hx i (by rw [l3, Bool.and_eq_true] at q; exact q.1)) (by rw [q1.g List.not_mem_nil, q1.g List.not_mem_nil]; exact hsw) (fun a b ha hb => by rw [eg, q2]; exact hp' a b ha hb)
    rw [eg] at p2 p3 p4
    refine ⟨υ, q1.tr p1, p2.trans q2, fun t ht => ?_, fun j hj => by rw [p4 j hj, q4 j (by omega)], ?_⟩
    · rw [p3 t ht, q3 t (by omega) ht, hp' a t ha ht, lf9_cons]
    · unfold g71_48
      rw [if_neg hx0, (el N _).1, lf_nest_r, lf_ci_r, show (0 : Int32) = nI 0 from rfl, q5]
      exact p5
theorem c_mu0 {v s : Nat} {k7 : Nat → Nat → Int32 → Int32 → lf_W → lf_R} (hs : s < 8) (hn : n ≤ 24) (hv : v < n) : ∀ (m u9 u : Nat) (σ : hp_S), u9 + m = n → m < u → σ.2.2.2 37 0 = σ.2.2.2 37 1 → σ.1 (3 + 2 * s) v = f v → ∃ τ, fr [38, 39] [] σ τ ∧ τ.2.1 (ur (σ.2.2.2 37 0)) = σ.2.1 (ur (σ.2.2.2 37 0)) ∧ (∀ t, u9 ≤ t → t < n → τ.2.1 (ux (σ.2.2.2 37 0)) (24 * v + t) = 0) ∧ (∀ j, (j < 24 * v + u9 ∨ 24 * v + n ≤ j) → τ.2.1 (ux (σ.2.2.2 37 0)) j = σ.2.1 (ux (σ.2.2.2 37 0)) j) ∧ g71_15 N k7 u 37 (2 + 2 * s) (nI n) (nI v) (nI u9) (hp σ, cs) = g71_48 N k7 N 37 (2 + 2 * s) (nI n) (nI v) (f v) (hp τ, cs) := by
  intro m
  induction m with
  | zero =>
    intro u9 u σ hu9 hu hsw ef
    obtain ⟨u, rfl⟩ : ∃ q, u = q + 1 := ⟨u - 1, by omega⟩
    refine ⟨σ, fr.rf, rfl, fun t q1 q2 => by omega, fun _ _ => rfl, ?_⟩
    unfold g71_15
    rw [if_pos (nI_le (by omega) (by omega)), sN_r hs, sN_ri hs (by omega), ef]
  | succ m ih =>
    intro u9 u σ hu9 hu hsw ef
    obtain ⟨u, rfl⟩ : ∃ q, u = q + 1 := ⟨u - 1, by omega⟩
    obtain ⟨τ, q1, q2, q3, q4, q5⟩ := ih (u9 + 1) u (hp_wl σ (ux (σ.2.2.2 37 0)) (24 * v + u9) 0) (by omega) (by omega) hsw ef
    have e2 : (hp_wl σ (ux (σ.2.2.2 37 0)) (24 * v + u9) 0).2.2.2 = σ.2.2.2 := rfl
    rw [e2] at q2 q3 q4
    rw [hp_wl_ne (ur_ux _)] at q2
    refine ⟨τ, (fr.wl (ux_in _)).tr q1, q2, fun t t1 t2 => ?_, fun j hj => ?_, ?_⟩
    · by_cases c : t = u9
      · rw [c, q4 _ (by omega), hp_wl_at]
      · exact q3 t (by omega) t2
    · rw [q4 j (by omega), hp_wl_nj (by omega)]
    · unfold g71_15
      rw [if_neg (nI_ge (by omega) (by omega)), uHi, ← hsw, ix_b, wrL (lay_ux _) (by omega) (by omega), nI_1]
      exact q5
theorem c_mu3 {h s : Nat} (hs : s < 8) (hn : n ≤ 24) (hw : gw f n) (hN : iv_N N) : ∀ (m v u : Nat) (σ : hp_S), v + m = n → m < u → σ.2.2.2 37 0 = σ.2.2.2 37 1 → (∀ k, k < 24 → σ.1 (3 + 2 * s) k = f k) → (∀ a b, a < n → b < n → σ.2.1 (ur (σ.2.2.2 37 0)) (24 * a + b) = MP f h a b) → (∀ a b, a < v → b < n → σ.2.1 (ux (σ.2.2.2 37 0)) (24 * a + b) = MP f (h + 1) a b) → ∃ τ, fr [38, 39] [] σ τ ∧ τ.2.1 (ur (σ.2.2.2 37 0)) = σ.2.1 (ur (σ.2.2.2 37 0)) ∧ (∀ a b, a < n → b < n → τ.2.1 (ux (σ.2.2.2 37 0)) (24 * a + b) = MP f (h + 1) a b) ∧ g71_7 N u 37 (2 + 2 * s) (nI n) (nI v) (hp σ, cs) = some (.inl none, (hp τ, cs)) := by
  intro m
  induction m with
  | zero =>
    intro v u σ hv hu hsw ef hp' hh
    obtain ⟨u, rfl⟩ : ∃ q, u = q + 1 := ⟨u - 1, by omega⟩
    refine ⟨σ, fr.rf, rfl, fun a b ha hb => hh a b (by omega) hb, ?_⟩
    unfold g71_7
    rw [if_pos (nI_le (by omega) (by omega))]
  | succ m ih =>
    intro v u σ hv hu hsw ef hp' hh
    obtain ⟨u, rfl⟩ : ∃ q, u = q + 1 := ⟨u - 1, by omega⟩
    obtain ⟨τ, q1, q2, q3, q4, q5⟩ := c_mu0 (N := N) (cs := cs) (f := f) (v := v) (k7 := g71_7 N u) hs hn (by omega) n 0 N σ (by omega) (by unfold iv_N at hN; omega) hsw (ef v (by omega))
    have eg : τ.2.2.2 37 0 = σ.2.2.2 37 0 := q1.g List.not_mem_nil
    obtain ⟨υ, p1, p2, p3, p4, p5⟩ := c_mu2 (N := N) (cs := cs) (f := f) (h := h) (v := v) (x1 := 2 + 2 * s) (k7 := g71_7 N u) hn hN (by omega) (bl (f v)) N (f v) τ rfl (by have := bl_le (f v); unfold iv_N at hN; omega) (fun i q => (hw v (by omega) i q).2.1) (by rw [q1.g List.not_mem_nil, q1.g List.not_mem_nil]; exact hsw) (fun a b ha hb => by rw [eg, q2]; exact hp' a b ha hb)
    rw [eg] at p2 p3 p4
    have w1 := q1.tr p1
    have eg2 : υ.2.2.2 37 0 = σ.2.2.2 37 0 := w1.g List.not_mem_nil
    obtain ⟨ω, z1, z2, z3, z4⟩ := ih (v + 1) u υ (by omega) (by omega) (by rw [w1.g List.not_mem_nil, w1.g List.not_mem_nil]; exact hsw) (fun k hk => by rw [w1.r (by simp; omega)]; exact ef k hk) (fun a b ha hb => by rw [eg2, p2, q2]; exact hp' a b ha hb) (fun a b ha hb => by
      rw [eg2]
      by_cases c : a = v
      · rw [c, p3 b hb, q3 b (by omega) hb]
        rfl
      · rw [p4 _ (by omega), q4 _ (by omega)]
        exact hh a b (by omega) hb)
    rw [eg2] at z2 z3
    refine ⟨ω, w1.tr z1, z2.trans (p2.trans q2), z3, ?_⟩
    unfold g71_7
    rw [if_neg (nI_ge (by omega) (by omega)), show (0 : Int32) = nI 0 from rfl, q5, p5]
    exact z4
end WK
