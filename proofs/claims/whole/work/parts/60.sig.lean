/-- the layout after the start: kind (0 ints, 1 booleans, 2 longs, 3 references, 4 an object), length or class, references, fields as they begin -/
def hp_lay : List (Nat × Nat × List (Option Nat) × List Value) := [(4, 11, [], [.ref 1, .ref 18, .ref 20, .ref 25, .ref 29, .ref 33, .ref 37, .ref 42, .ref 44, .ref 53, .ref 57, .ref 61]), (3, 8, [some 2, some 4, some 6, some 8, some 10, some 12, some 14, some 16], []), (4, 5, [], [.ref 3, .int 0, .int 0]), (0, 24, [], []), (4, 5, [], [.ref 5, .int 0, .int 0]), (0, 24, [], []), (4, 5, [], [.ref 7, .int 0, .int 0]), (0, 24, [], []), (4, 5, [], [.ref 9, .int 0, .int 0]), (0, 24, [], []), (4, 5, [], [.ref 11, .int 0, .int 0]), (0, 24, [], []), (4, 5, [], [.ref 13, .int 0, .int 0]), (0, 24, [], []), (4, 5, [], [.ref 15, .int 0, .int 0]), (0, 24, [], []), (4, 5, [], [.ref 17, .int 0, .int 0]), (0, 24, [], []), (4, 5, [], [.ref 19, .int 0, .int 0]), (0, 24, [], []), (4, 7, [], [.ref 21, .ref 23, .ref 24, .int 0, .int 0, .int 0, .int (-1), .int 0, .int 0, .int 0, .int 0, .int 0]), (4, 5, [], [.ref 22, .int 0, .int 0]), (0, 24, [], []), (0, 400, [], []), (0, 12, [], []), (4, 4, [], [.int 0, .int 1, .int 1, .int 0, .ref 26, .ref 27, .int 0, .ref 28, .int 0, .int 0, .int 0]), (0, 24, [], []), (0, 576, [], []), (0, 216, [], []), (4, 9, [], [.retAddr 30, .retAddr 31, .ref 32, .int 0, .int 0]), (0, 24, [], []), (0, 24, [], []), (0, 1024, [], []), (4, 3, [], [.ref 34, .ref 35, .ref 36]), (2, 48, [], []), (0, 48, [], []), (0, 48, [], []), (4, 6, [], [.retAddr 38, .retAddr 39, .ref 40, .ref 41]), (2, 576, [], []), (2, 576, [], []), (2, 13, [], []), (2, 13, [], []), (4, 0, [], [.ref 29, .ref 43, .int 0, .int 0, .int 0, .int 0]), (0, 96, [], []), (4, 8, [], [.int 0, .int 0, .int 0, .int 0, .int 0, .ref 45, .ref 46, .ref 47, .ref 48, .ref 49, .int 0, .ref 50, .ref 51, .ref 52]), (0, 1092, [], []), (0, 1092, [], []), (0, 7, [], []), (0, 1024, [], []), (0, 720, [], []), (0, 6, [], []), (0, 6, [], []), (0, 6, [], []), (4, 1, [], [.ref 29, .ref 54, .ref 55, .ref 56, .int 0, .int 0, .int 0, .int 0, .int 0, .int 0]), (0, 96, [], []), (0, 2, [], []), (0, 2, [], []), (4, 2, [], [.ref 58, .int 0, .ref 59, .ref 60, .int 0]), (0, 24, [], []), (0, 576, [], []), (0, 24, [], []), (4, 10, [], [.ref 62, .ref 63, .ref 64, .ref 65, .retAddr 66, .retAddr 67, .int 0, .int 0, .ref 68, .ref 69, .int 0, .ref 70, .ref 71, .int 0, .int 0]), (0, 576, [], []), (0, 576, [], []), (0, 576, [], []), (0, 192, [], []), (0, 24, [], []), (0, 24, [], []), (0, 24, [], []), (0, 24, [], []), (0, 24, [], []), (0, 24, [], []), (4, 12, [], [.int 0, .ref 73, .ref 74, .ref 75, .int 0, .int 0, .ref 76, .ref 77, .int 0, .int 0, .int (-1), .int 0, .int 0, .int 0, .int 0, .int 0, .int 0, .long 0, .ref 78, .int 0, .int 0, .ref 79, .ref 80, .ref 81, .int 0, .int 0, .ref 82, .ref 83, .ref 84, .ref 85, .ref 86, .ref 87, .ref 88, .ref 89, .int 0, .ref 90, .ref 91, .ref 92, .int 0, .int 0, .int 0, .int 0, .int 0, .ref 93, .ref 94, .int 0, .int 0, .int 0, .int 0, .int 0, .ref 95, .ref 96, .ref 97, .ref 98, .ref 99, .ref 100, .ref 101, .ref 102, .int 0, .ref 103, .int 0, .int 0, .ref 104, .ref 105, .ref 106, .ref 107, .ref 108, .ref 109, .ref 110, .ref 111, .ref 112, .ref 113, .ref 114, .ref 115, .ref 116]), (0, 8, [], []), (0, 8, [], []), (0, 192, [], []), (0, 24, [], []), (0, 400, [], []), (0, 13, [], []), (0, 96, [], []), (0, 96, [], []), (0, 576, [], []), (0, 2304, [], []), (0, 48, [], []), (0, 48, [], []), (2, 13, [], []), (2, 144, [], []), (2, 144, [], []), (2, 24, [], []), (2, 24, [], []), (0, 11250, [], []), (0, 24, [], []), (0, 25, [], []), (0, 576, [], []), (0, 24, [], []), (1, 32768, [], []), (1, 32768, [], []), (0, 36, [], []), (0, 6, [], []), (0, 504, [], []), (0, 504, [], []), (0, 504, [], []), (0, 504, [], []), (0, 2, [], []), (0, 24, [], []), (0, 24, [], []), (0, 24, [], []), (0, 576, [], []), (1, 576, [], []), (0, 576, [], []), (0, 24, [], []), (0, 24, [], []), (0, 24, [], []), (0, 24, [], []), (0, 48, [], []), (1, 1024, [], []), (1, 1024, [], []), (2, 1, [], [])]
/-- contents: int rows, long rows, int fields, long fields, each by address and place -/
abbrev hp_S : Type := (Nat → Nat → Int32) × (Nat → Nat → Int64) × (Nat → Nat → Int32) × (Nat → Nat → Int64)
/-- rows that change places: 30 31, 38 39, 66 67 -/
def hp_tw (p : Nat) : Nat := if p % 2 = 0 then p + 1 else p - 1
def hp_f (σ : hp_S) (a k : Nat) (v : Value) : Value := match v with
  | .int _ => .int (σ.2.2.1 a k)
  | .long _ => .long (σ.2.2.2 a k)
  | .retAddr p => .ref (if σ.2.2.2 a k = 0 then p else hp_tw p)
  | v => v
def hp_c (σ : hp_S) (a : Nat) : Nat × Nat × List (Option Nat) × List Value → pm_C
  | (0, n, _, _) => .inl (0, n, σ.1 a)
  | (1, n, _, _) => .inl (1, n, σ.1 a)
  | (2, n, _, _) => .inr (.inl (n, σ.2.1 a))
  | (3, _, rs, _) => .inr (.inr (.inl rs))
  | (_, n, _, tp) => .inr (.inr (.inr (n, tp.mapIdx (hp_f σ a))))
def hp (σ : hp_S) : pm_H := fun a => match hp_lay[a]? with
  | some q => hp_c σ a q
  | none => .inl (0, 0, fun _ => 0)
def hp_up {α : Type} (f : Nat → Nat → α) (a i : Nat) (x : α) : Nat → Nat → α := fun b j => if b = a ∧ j = i then x else f b j
def hp_wi (σ : hp_S) (a i : Nat) (x : Int32) : hp_S := (hp_up σ.1 a i x, σ.2)
def hp_wl (σ : hp_S) (a i : Nat) (x : Int64) : hp_S := (σ.1, hp_up σ.2.1 a i x, σ.2.2)
def hp_wf (σ : hp_S) (a k : Nat) (x : Int32) : hp_S := (σ.1, σ.2.1, hp_up σ.2.2.1 a k x, σ.2.2.2)
def hp_wg (σ : hp_S) (a k : Nat) (x : Int64) : hp_S := (σ.1, σ.2.1, σ.2.2.1, hp_up σ.2.2.2 a k x)
theorem hp_len : hp_lay.length = lf_T := by decide +kernel
section HP
variable {σ : hp_S} {cs : Nat × Nat} {a n ci k : Nat} {rs : List (Option Nat)} {tp : List Value} {i x : Int32}
theorem hp_at {q : Nat × Nat × List (Option Nat) × List Value} (h : hp_lay[a]? = some q) : a < lf_T ∧ hp σ a = hp_c σ a q := by
  refine ⟨by rw [← hp_len]; exact (List.getElem?_eq_some_iff.mp h).1, ?_⟩
  unfold hp
  rw [h]
theorem hp_ia (h : hp_lay[a]? = some (0, n, rs, tp)) : pm_ia 0 (lf_em (hp σ, cs)) a = some (n, σ.1 a) := by
  obtain ⟨h1, h2⟩ := hp_at (σ := σ) h
  unfold pm_ia lf_em
  simp only
  rw [if_pos h1, h2]
  rfl
theorem hp_iz (h : hp_lay[a]? = some (1, n, rs, tp)) : pm_ia 1 (lf_em (hp σ, cs)) a = some (n, σ.1 a) := by
  obtain ⟨h1, h2⟩ := hp_at (σ := σ) h
  unfold pm_ia lf_em
  simp only
  rw [if_pos h1, h2]
  rfl
theorem hp_il (h : hp_lay[a]? = some (2, n, rs, tp)) : pm_la (lf_em (hp σ, cs)) a = some (n, σ.2.1 a) := by
  obtain ⟨h1, h2⟩ := hp_at (σ := σ) h
  unfold pm_la lf_em
  simp only
  rw [if_pos h1, h2]
  rfl
theorem hp_ir (h : hp_lay[a]? = some (3, n, rs, tp)) : pm_ra (lf_em (hp σ, cs)) a = some rs := by
  obtain ⟨h1, h2⟩ := hp_at (σ := σ) h
  unfold pm_ra lf_em
  simp only
  rw [if_pos h1, h2]
  rfl
theorem hp_ob (h : hp_lay[a]? = some (4, ci, rs, tp)) : pm_obj (lf_em (hp σ, cs)) a = some (ci, tp.mapIdx (hp_f σ a)) := by
  obtain ⟨h1, h2⟩ := hp_at (σ := σ) h
  unfold pm_obj lf_em
  simp only
  rw [if_pos h1, h2]
  rfl
theorem hp_ri (h : hp_lay[a]? = some (0, n, rs, tp)) (hi : pm_in i n = true) : lf_ri (hp σ, cs) a i = some (σ.1 a i.toNatClampNeg) := by
  unfold lf_ri
  rw [hp_ia h, Option.bind_some, if_pos hi]
theorem hp_rz (h : hp_lay[a]? = some (1, n, rs, tp)) (hi : pm_in i n = true) : lf_rz (hp σ, cs) a i = some (σ.1 a i.toNatClampNeg) := by
  unfold lf_rz
  rw [hp_iz h, Option.bind_some, if_pos hi]
theorem hp_rl (h : hp_lay[a]? = some (2, n, rs, tp)) (hi : pm_in i n = true) : lf_rl (hp σ, cs) a i = some (σ.2.1 a i.toNatClampNeg) := by
  unfold lf_rl
  rw [hp_il h, Option.bind_some, if_pos hi]
theorem hp_ra {v : Nat} (h : hp_lay[a]? = some (3, n, rs, tp)) (hi : pm_in i rs.length = true) (hv : rs[i.toNatClampNeg]? = some (some v)) : lf_ra (hp σ, cs) a i = some v := by
  unfold lf_ra
  rw [hp_ir h, Option.bind_some, if_pos hi, hv]
theorem hp_is (h : hp_lay[a]? = some (4, ci, rs, tp)) : lf_is (hp σ, cs) a ci = true := by
  unfold lf_is
  rw [hp_ob h]
  exact Nat.beq_refl ci
theorem hp_fv {v : Value} (h : hp_lay[a]? = some (4, ci, rs, tp)) (hv : tp[k]? = some v) : lf_fv (hp σ, cs) a ci k = some (hp_f σ a k v) := by
  unfold lf_fv
  rw [hp_ob h, Option.bind_some]
  simp only [if_true]
  rw [List.getElem?_mapIdx, hv]
  rfl
theorem hp_fi {d : Int32} (h : hp_lay[a]? = some (4, ci, rs, tp)) (hv : tp[k]? = some (.int d)) : lf_fi (hp σ, cs) a ci k = some (σ.2.2.1 a k) := by
  unfold lf_fi
  rw [hp_fv h hv]
  rfl
theorem hp_fl {d : Int64} (h : hp_lay[a]? = some (4, ci, rs, tp)) (hv : tp[k]? = some (.long d)) : lf_fl (hp σ, cs) a ci k = some (σ.2.2.2 a k) := by
  unfold lf_fl
  rw [hp_fv h hv]
  rfl
theorem hp_fr {b : Nat} (h : hp_lay[a]? = some (4, ci, rs, tp)) (hv : tp[k]? = some (.ref b)) : lf_fr (hp σ, cs) a ci k = some b := by
  unfold lf_fr
  rw [hp_fv h hv]
  rfl
theorem hp_len_i (h : hp_lay[a]? = some (0, n, rs, tp)) : lf_len (hp σ, cs) a = some (Int32.ofNat n) := by
  obtain ⟨h1, h2⟩ := hp_at (σ := σ) h
  unfold lf_len pm_alen lf_em
  simp only
  rw [if_pos h1, h2]
  rfl
/-- a cell that is changed, the others as they were -/
theorem hp_chg {τ : hp_S} {q : Nat × Nat × List (Option Nat) × List Value} {y : pm_C} (h : hp_lay[a]? = some q) (h1 : hp_c τ a q = y) (h2 : ∀ b p, b ≠ a → hp_lay[b]? = some p → hp_c τ b p = hp_c σ b p) : va_up (hp σ) a y = hp τ := by
  funext b
  unfold va_up
  by_cases hb : b = a
  · subst hb
    rw [if_pos rfl, (hp_at h).2, h1]
  · rw [if_neg hb]
    unfold hp
    cases hq : hp_lay[b]? with
    | none => rfl
    | some p => exact (h2 b p hb hq).symm
theorem hp_c_eq {τ : hp_S} {b : Nat} {p : Nat × Nat × List (Option Nat) × List Value} (e1 : τ.1 b = σ.1 b) (e2 : τ.2.1 b = σ.2.1 b) (e3 : τ.2.2.1 b = σ.2.2.1 b) (e4 : τ.2.2.2 b = σ.2.2.2 b) : hp_c τ b p = hp_c σ b p := by
  have e5 : hp_f τ b = hp_f σ b := by
    funext k v
    unfold hp_f
    rw [e3, e4]
  unfold hp_c
  rw [e1, e2, e5]
theorem hp_up_ne {α : Type} {f : Nat → Nat → α} {b j : Nat} {y : α} (h : b ≠ a) : hp_up f a j y b = f b := by
  funext k
  unfold hp_up
  rw [if_neg (fun q => h q.1)]
theorem hp_up_at {f : Nat → Nat → Int32} {j : Nat} {y : Int32} : hp_up f a j y a = upd (f a) j y := by
  funext k
  unfold hp_up upd
  by_cases hk : k = j
  · rw [if_pos ⟨rfl, hk⟩, if_pos hk]
  · rw [if_neg (fun q => hk q.2), if_neg hk]
theorem hp_swi (h : hp_lay[a]? = some (0, n, rs, tp)) (hi : pm_in i n = true) : lf_wi (hp σ, cs) a i x = some (hp (hp_wi σ a i.toNatClampNeg x), cs) := by
  unfold lf_wi
  rw [hp_ia h, Option.bind_some, if_pos hi]
  congr 2
  refine hp_chg h ?_ (fun b p hb _ => hp_c_eq (hp_up_ne hb) rfl rfl rfl)
  show (Sum.inl (0, n, hp_up σ.1 a i.toNatClampNeg x a) : pm_C) = _
  rw [hp_up_at]
theorem hp_swz (h : hp_lay[a]? = some (1, n, rs, tp)) (hi : pm_in i n = true) : lf_wz (hp σ, cs) a i x = some (hp (hp_wi σ a i.toNatClampNeg (vp_nar .boolean x)), cs) := by
  unfold lf_wz
  rw [hp_iz h, Option.bind_some, if_pos hi]
  congr 2
  refine hp_chg h ?_ (fun b p hb _ => hp_c_eq (hp_up_ne hb) rfl rfl rfl)
  show (Sum.inl (1, n, hp_up σ.1 a i.toNatClampNeg (vp_nar .boolean x) a) : pm_C) = _
  rw [hp_up_at]
theorem hp_updL {f : Nat → Nat → Int64} {j : Nat} {y : Int64} : hp_up f a j y a = vp_updL (f a) j y := by
  funext k
  unfold hp_up vp_updL
  by_cases hk : k = j
  · rw [if_pos ⟨rfl, hk⟩, if_pos hk]
  · rw [if_neg (fun q => hk q.2), if_neg hk]
theorem hp_swl {y : Int64} (h : hp_lay[a]? = some (2, n, rs, tp)) (hi : pm_in i n = true) : lf_wl (hp σ, cs) a i y = some (hp (hp_wl σ a i.toNatClampNeg y), cs) := by
  unfold lf_wl
  rw [hp_il h, Option.bind_some, if_pos hi]
  congr 2
  refine hp_chg h ?_ (fun b p hb _ => hp_c_eq rfl (hp_up_ne hb) rfl rfl)
  show (Sum.inr (Sum.inl (n, hp_up σ.2.1 a i.toNatClampNeg y a)) : pm_C) = _
  rw [hp_updL]
theorem hp_swf {tk : Nat} {d : Int32} (h : hp_lay[a]? = some (4, ci, rs, tp)) (hv : tp[k]? = some (.int d)) (ht : pm_fit tk (.int x) = true) : lf_wf (hp σ, cs) a ci k tk (.int x) = some (hp (hp_wf σ a k x), cs) := by
  unfold lf_wf
  have hk : k < tp.length := (List.getElem?_eq_some_iff.mp hv).1
  rw [hp_ob h, Option.bind_some, if_pos ⟨rfl, by rw [List.length_mapIdx]; exact hk, ht⟩]
  congr 2
  refine hp_chg h ?_ (fun b p hb _ => hp_c_eq rfl rfl (hp_up_ne hb) rfl)
  show (Sum.inr (Sum.inr (Sum.inr (ci, tp.mapIdx (hp_f (hp_wf σ a k x) a)))) : pm_C) = _
  congr 4
  apply List.ext_getElem?
  intro j
  rw [List.getElem?_mapIdx]
  by_cases hj : k = j
  · subst hj
    rw [List.getElem?_set_self (by rw [List.length_mapIdx]; exact hk), hv]
    show some (Value.int (hp_up σ.2.2.1 a k x a k)) = _
    unfold hp_up
    rw [if_pos ⟨rfl, rfl⟩]
  · rw [List.getElem?_set_ne hj, List.getElem?_mapIdx]
    congr 1
    funext v
    unfold hp_f
    have e1 : (hp_wf σ a k x).2.2.1 a j = σ.2.2.1 a j := by
      show hp_up σ.2.2.1 a k x a j = _
      unfold hp_up
      rw [if_neg (fun q => hj q.2.symm)]
    rw [e1]
    rfl
theorem hp_swg {d y : Int64} (h : hp_lay[a]? = some (4, ci, rs, tp)) (hv : tp[k]? = some (.long d)) : lf_wf (hp σ, cs) a ci k 3 (.long y) = some (hp (hp_wg σ a k y), cs) := by
  unfold lf_wf
  have hk : k < tp.length := (List.getElem?_eq_some_iff.mp hv).1
  rw [hp_ob h, Option.bind_some, if_pos ⟨rfl, by rw [List.length_mapIdx]; exact hk, rfl⟩]
  congr 2
  refine hp_chg h ?_ (fun b p hb _ => hp_c_eq rfl rfl rfl (hp_up_ne hb))
  show (Sum.inr (Sum.inr (Sum.inr (ci, tp.mapIdx (hp_f (hp_wg σ a k y) a)))) : pm_C) = _
  congr 4
  apply List.ext_getElem?
  intro j
  rw [List.getElem?_mapIdx]
  by_cases hj : k = j
  · subst hj
    rw [List.getElem?_set_self (by rw [List.length_mapIdx]; exact hk), hv]
    show some (Value.long (hp_up σ.2.2.2 a k y a k)) = _
    unfold hp_up
    rw [if_pos ⟨rfl, rfl⟩]
  · rw [List.getElem?_set_ne hj, List.getElem?_mapIdx]
    congr 1
    funext v
    unfold hp_f
    have e1 : (hp_wg σ a k y).2.2.2 a j = σ.2.2.2 a j := by
      show hp_up σ.2.2.2 a k y a j = _
      unfold hp_up
      rw [if_neg (fun q => hj q.2.symm)]
    rw [e1]
    rfl
theorem hp_frs {p : Nat} (h : hp_lay[a]? = some (4, ci, rs, tp)) (hv : tp[k]? = some (.retAddr p)) : lf_fr (hp σ, cs) a ci k = some (if σ.2.2.2 a k = 0 then p else hp_tw p) := by
  unfold lf_fr
  rw [hp_fv h hv]
  rfl
theorem hp_sws {p tk v : Nat} {y : Int64} (h : hp_lay[a]? = some (4, ci, rs, tp)) (hv : tp[k]? = some (.retAddr p)) (ht : pm_fit tk (.ref v) = true) (e : v = if y = 0 then p else hp_tw p) : lf_wf (hp σ, cs) a ci k tk (.ref v) = some (hp (hp_wg σ a k y), cs) := by
  unfold lf_wf
  have hk : k < tp.length := (List.getElem?_eq_some_iff.mp hv).1
  rw [hp_ob h, Option.bind_some, if_pos ⟨rfl, by rw [List.length_mapIdx]; exact hk, ht⟩]
  congr 2
  refine hp_chg h ?_ (fun b p hb _ => hp_c_eq rfl rfl rfl (hp_up_ne hb))
  show (Sum.inr (Sum.inr (Sum.inr (ci, tp.mapIdx (hp_f (hp_wg σ a k y) a)))) : pm_C) = _
  congr 4
  apply List.ext_getElem?
  intro j
  rw [List.getElem?_mapIdx]
  by_cases hj : k = j
  · subst hj
    rw [List.getElem?_set_self (by rw [List.length_mapIdx]; exact hk), hv]
    show some (Value.ref (if hp_up σ.2.2.2 a k y a k = 0 then p else hp_tw p)) = _
    have e9 : hp_up σ.2.2.2 a k y a k = y := by
      unfold hp_up
      rw [if_pos ⟨rfl, rfl⟩]
    rw [e9, e]
  · rw [List.getElem?_set_ne hj, List.getElem?_mapIdx]
    congr 1
    funext v
    unfold hp_f
    have e1 : (hp_wg σ a k y).2.2.2 a j = σ.2.2.2 a j := by
      show hp_up σ.2.2.2 a k y a j = _
      unfold hp_up
      rw [if_neg (fun q => hj q.2.symm)]
    rw [e1]
    rfl
end HP
def σ0 : hp_S := (fun _ _ => 0, fun _ _ => 0, (fun a k => match a, k with
  | 20, 6 => (-1)
  | 25, 1 => 1
  | 25, 2 => 1
  | 72, 10 => (-1)
  | _, _ => 0), fun _ _ => 0)
set_option maxRecDepth 100000 in
theorem w0_hp : w0 = (hp σ0, 118, 98559) := by
  show ((fun i => hl239.getD i (.inl (0, 0, fun _ => 0)), 118, 98559) : lf_W) = _
  congr 1
  funext i
  match i with
  | 0 => rfl
  | 1 => rfl
  | 2 => rfl
  | 3 => rfl
  | 4 => rfl
  | 5 => rfl
  | 6 => rfl
  | 7 => rfl
  | 8 => rfl
  | 9 => rfl
  | 10 => rfl
  | 11 => rfl
  | 12 => rfl
  | 13 => rfl
  | 14 => rfl
  | 15 => rfl
  | 16 => rfl
  | 17 => rfl
  | 18 => rfl
  | 19 => rfl
  | 20 => rfl
  | 21 => rfl
  | 22 => rfl
  | 23 => rfl
  | 24 => rfl
  | 25 => rfl
  | 26 => rfl
  | 27 => rfl
  | 28 => rfl
  | 29 => rfl
  | 30 => rfl
  | 31 => rfl
  | 32 => rfl
  | 33 => rfl
  | 34 => rfl
  | 35 => rfl
  | 36 => rfl
  | 37 => rfl
  | 38 => rfl
  | 39 => rfl
  | 40 => rfl
  | 41 => rfl
  | 42 => rfl
  | 43 => rfl
  | 44 => rfl
  | 45 => rfl
  | 46 => rfl
  | 47 => rfl
  | 48 => rfl
  | 49 => rfl
  | 50 => rfl
  | 51 => rfl
  | 52 => rfl
  | 53 => rfl
  | 54 => rfl
  | 55 => rfl
  | 56 => rfl
  | 57 => rfl
  | 58 => rfl
  | 59 => rfl
  | 60 => rfl
  | 61 => rfl
  | 62 => rfl
  | 63 => rfl
  | 64 => rfl
  | 65 => rfl
  | 66 => rfl
  | 67 => rfl
  | 68 => rfl
  | 69 => rfl
  | 70 => rfl
  | 71 => rfl
  | 72 => rfl
  | 73 => rfl
  | 74 => rfl
  | 75 => rfl
  | 76 => rfl
  | 77 => rfl
  | 78 => rfl
  | 79 => rfl
  | 80 => rfl
  | 81 => rfl
  | 82 => rfl
  | 83 => rfl
  | 84 => rfl
  | 85 => rfl
  | 86 => rfl
  | 87 => rfl
  | 88 => rfl
  | 89 => rfl
  | 90 => rfl
  | 91 => rfl
  | 92 => rfl
  | 93 => rfl
  | 94 => rfl
  | 95 => rfl
  | 96 => rfl
  | 97 => rfl
  | 98 => rfl
  | 99 => rfl
  | 100 => rfl
  | 101 => rfl
  | 102 => rfl
  | 103 => rfl
  | 104 => rfl
  | 105 => rfl
  | 106 => rfl
  | 107 => rfl
  | 108 => rfl
  | 109 => rfl
  | 110 => rfl
  | 111 => rfl
  | 112 => rfl
  | 113 => rfl
  | 114 => rfl
  | 115 => rfl
  | 116 => rfl
  | 117 => rfl
  | j + 118 =>
    show hl239.getD (j + 118) _ = hp σ0 (j + 118)
    have e1 : hp_lay[j + 118]? = none := List.getElem?_eq_none (by rw [hp_len]; show 118 ≤ j + 118; omega)
    unfold hp
    rw [e1, List.getD_eq_getElem?_getD, List.getElem?_eq_none (by show 118 ≤ j + 118; omega)]
    rfl
