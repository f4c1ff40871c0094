/-! makings: a heap that is a list -/
def lz (l : List pm_C) (c s : Nat) : pm_Z := (fun i => l.getD i (.inl (0, 0, fun _ => 0)), l.length, c, s)
theorem lz_app (l : List pm_C) (c s k : Nat) (x : pm_C) : pm_new (lz l c s) x k = lz (l ++ [x]) (c + 1) (s + k) := by
  unfold pm_new lz
  simp only [List.length_append, List.length_cons, List.length_nil, Nat.zero_add]
  congr 1
  funext i
  unfold va_up
  by_cases hi : i = l.length
  · subst hi
    rw [if_pos rfl, List.getD_eq_getElem?_getD, List.getElem?_append_right (Nat.le_refl _), Nat.sub_self]
    rfl
  · rw [if_neg hi]
    show l.getD i _ = (l ++ [x]).getD i _
    rw [List.getD_eq_getElem?_getD, List.getD_eq_getElem?_getD]
    by_cases hl : i < l.length
    · rw [List.getElem?_append_left hl]
    · rw [List.getElem?_eq_none (by omega), List.getElem?_eq_none (by rw [List.length_append]; simp only [List.length_cons, List.length_nil]; omega)]
theorem lz_set {l : List pm_C} {c s a : Nat} {x : pm_C} (ha : a < l.length) : pm_set (lz l c s) a x = lz (l.set a x) c s := by
  unfold pm_set lz
  simp only [List.length_set]
  congr 1
  funext i
  unfold va_up
  by_cases hi : i = a
  · subst hi
    rw [if_pos rfl, List.getD_eq_getElem?_getD, List.getElem?_set_self ha]
    rfl
  · rw [if_neg hi]
    show l.getD i _ = (l.set a x).getD i _
    rw [List.getD_eq_getElem?_getD, List.getD_eq_getElem?_getD, List.getElem?_set_ne (fun e => hi e.symm)]
theorem lz_get {l : List pm_C} {c s a : Nat} {x : pm_C} (h : l[a]? = some x) : a < (lz l c s).2.1 ∧ (lz l c s).1 a = x := by
  refine ⟨(List.getElem?_eq_some_iff.mp h).1, ?_⟩
  show l.getD a _ = x
  rw [List.getD_eq_getElem?_getD, h]
  rfl
theorem lz_obj {l : List pm_C} {c s a : Nat} {o : Nat × List Value} (h : l[a]? = some (.inr (.inr (.inr o)))) : pm_obj (lz l c s) a = some o := by
  obtain ⟨h1, h2⟩ := lz_get (c := c) (s := s) h
  unfold pm_obj
  rw [if_pos h1, h2]
theorem lz_ra {l : List pm_C} {c s a : Nat} {o : List (Option Nat)} (h : l[a]? = some (.inr (.inr (.inl o)))) : pm_ra (lz l c s) a = some o := by
  obtain ⟨h1, h2⟩ := lz_get (c := c) (s := s) h
  unfold pm_ra
  rw [if_pos h1, h2]
theorem lz_okh {l : List pm_C} {c s : Nat} (h : l.all (pm_okc l.length) = true) : pm_okh (lz l c s) = true := by
  unfold pm_okh
  rw [List.all_eq_true]
  intro i hi
  have hl : i < l.length := List.mem_range.mp hi
  have h1 : l[i]? = some l[i] := List.getElem?_eq_getElem hl
  obtain ⟨h2, h3⟩ := lz_get (c := c) (s := s) h1
  rw [h3]
  exact List.all_eq_true.mp h _ (List.getElem_mem hl)
section LZ
variable {sc : Nat × (Nat → Int32)} {net : Nat} {F : pm_F} {P : Nat → Option pm_M} {d : Nat} {M : pm_M} {pc idx c s : Nat} {L : List (Option Value)} {st rest : List Value} {r : pm_O × pm_Z} {l l' : List pm_C}
def lz_ok (l : List pm_C) (L : List (Option Value)) (st : List Value) : Bool := decide (l.length < 1000) && pm_okL l.length L && st.all (pm_okv l.length) && l.all (pm_okc l.length)
theorem lz_ok.use (h : lz_ok l L st = true) : (lz l c s).2.1 < 1000 ∧ pm_okL (lz l c s).2.1 L = true ∧ st.all (pm_okv (lz l c s).2.1) = true ∧ pm_okh (lz l c s) = true := by
  unfold lz_ok at h
  simp only [Bool.and_eq_true, decide_eq_true_eq] at h
  exact ⟨h.1.1.1, h.1.1.2, h.1.2, lz_okh h.2⟩
theorem lz_step_new {o : Nat × List Value} (hi : pm_mi M pc = some (.new idx)) (hx : pm_mx M idx = none) (hn : pm_mn M idx = some o) (hk : lz_ok l L st = true) (e : l ++ [.inr (.inr (.inr o))] = l') : pm_step sc net F M pc L st (lz l c s) = some (.inl ((pc + 3, L, .ref l.length :: st), lz l' (c + 1) (s + o.2.length))) := by
  subst e
  rw [← lz_app]
  unfold pm_step
  rw [hi]
  show (match pm_ht M (.new idx) pc st (lz l c s) with
    | some r => some r
    | none => match pm_hc (pm_mn M) (pm_ma M) (.new idx) pc L st (lz l c s) with
      | some r => some (Sum.inl r : pm_G)
      | none => _) = _
  have e1 : pm_ht M (.new idx) pc st (lz l c s) = none := by unfold pm_ht; simp only [hx]
  have e2 : pm_hc (pm_mn M) (pm_ma M) (.new idx) pc L st (lz l c s) = some ((pc + 3, L, .ref l.length :: st), pm_new (lz l c s) (.inr (.inr (.inr o))) o.2.length) := by
    unfold pm_hc pm_hc0
    simp only
    rw [if_pos (lz_ok.use hk), hn]
    rfl
  rw [e1]
  simp only
  rw [e2]
theorem lz_step_na {t : ArrayType} {n : Int32} {x : pm_C} (hi : pm_mi M pc = some (.newarray t)) (hn : ¬ (n < 0 ∨ 100000 < n.toNatClampNeg)) (hx : (t = .int ∧ x = .inl (0, n.toNatClampNeg, fun _ => 0)) ∨ (t = .boolean ∧ x = .inl (1, n.toNatClampNeg, fun _ => 0)) ∨ (t = .long ∧ x = .inr (.inl (n.toNatClampNeg, fun _ => 0)))) (hk : lz_ok l L (.int n :: rest) = true) (e : l ++ [x] = l') : pm_step sc net F M pc L (.int n :: rest) (lz l c s) = some (.inl ((pc + 2, L, .ref l.length :: rest), lz l' (c + 1) (s + n.toNatClampNeg))) := by
  subst e
  rw [← lz_app]
  unfold pm_step
  rw [hi]
  show (match pm_hc (pm_mn M) (pm_ma M) (.newarray t) pc L (.int n :: rest) (lz l c s) with
      | some r => some (Sum.inl r : pm_G)
      | none => _) = _
  have e2 : pm_hc (pm_mn M) (pm_ma M) (.newarray t) pc L (.int n :: rest) (lz l c s) = some ((pc + 2, L, .ref l.length :: rest), pm_new (lz l c s) x n.toNatClampNeg) := by
    unfold pm_hc pm_hc0
    simp only
    rw [if_pos (lz_ok.use hk), if_neg hn]
    rcases hx with ⟨rfl, rfl⟩ | ⟨rfl, rfl⟩ | ⟨rfl, rfl⟩ <;> rfl
  rw [e2]
theorem lz_step_an {n : Int32} (hi : pm_mi M pc = some (.anewarray idx)) (hn : ¬ (n < 0 ∨ 100000 < n.toNatClampNeg ∨ pm_ma M idx = false)) (hk : lz_ok l L (.int n :: rest) = true) (e : l ++ [.inr (.inr (.inl (List.replicate n.toNatClampNeg none)))] = l') : pm_step sc net F M pc L (.int n :: rest) (lz l c s) = some (.inl ((pc + 3, L, .ref l.length :: rest), lz l' (c + 1) (s + n.toNatClampNeg))) := by
  subst e
  rw [← lz_app]
  unfold pm_step
  rw [hi]
  show (match pm_hc (pm_mn M) (pm_ma M) (.anewarray idx) pc L (.int n :: rest) (lz l c s) with
      | some r => some (Sum.inl r : pm_G)
      | none => _) = _
  have e2 : pm_hc (pm_mn M) (pm_ma M) (.anewarray idx) pc L (.int n :: rest) (lz l c s) = some ((pc + 3, L, .ref l.length :: rest), pm_new (lz l c s) (.inr (.inr (.inl (List.replicate n.toNatClampNeg none)))) n.toNatClampNeg) := by
    unfold pm_hc pm_hc0
    simp only
    rw [if_pos (lz_ok.use hk), if_neg hn]
    rfl
  rw [e2]
theorem lz_go.nw {o : Nat × List Value} {t : pm_T} (hi : pm_mi M pc = some (.new idx)) (hx : pm_mx M idx = none) (hn : pm_mn M idx = some o) (hk : lz_ok l L st = true) (e : l ++ [.inr (.inr (.inr o))] = l') (et : (pc + 3, L, .ref l.length :: st) = t) (k : pm_go sc net P d M t (lz l' (c + 1) (s + o.2.length)) r) : pm_go sc net P d M (pc, L, st) (lz l c s) r := pm_go.step ⟨0, fun N _ d' _ => by rw [lz_step_new hi hx hn hk e, et]⟩ k
theorem lz_go.na {t : ArrayType} {n : Int32} {x : pm_C} {t' : pm_T} (hi : pm_mi M pc = some (.newarray t)) (hn : ¬ (n < 0 ∨ 100000 < n.toNatClampNeg)) (hx : (t = .int ∧ x = .inl (0, n.toNatClampNeg, fun _ => 0)) ∨ (t = .boolean ∧ x = .inl (1, n.toNatClampNeg, fun _ => 0)) ∨ (t = .long ∧ x = .inr (.inl (n.toNatClampNeg, fun _ => 0)))) (hk : lz_ok l L (.int n :: rest) = true) (e : l ++ [x] = l') (et : (pc + 2, L, .ref l.length :: rest) = t') (k : pm_go sc net P d M t' (lz l' (c + 1) (s + n.toNatClampNeg)) r) : pm_go sc net P d M (pc, L, .int n :: rest) (lz l c s) r := pm_go.step ⟨0, fun N _ d' _ => by rw [lz_step_na hi hn hx hk e, et]⟩ k
theorem lz_go.an {n : Int32} {t' : pm_T} (hi : pm_mi M pc = some (.anewarray idx)) (hn : ¬ (n < 0 ∨ 100000 < n.toNatClampNeg ∨ pm_ma M idx = false)) (hk : lz_ok l L (.int n :: rest) = true) (e : l ++ [.inr (.inr (.inl (List.replicate n.toNatClampNeg none)))] = l') (et : (pc + 3, L, .ref l.length :: rest) = t') (k : pm_go sc net P d M t' (lz l' (c + 1) (s + n.toNatClampNeg)) r) : pm_go sc net P d M (pc, L, .int n :: rest) (lz l c s) r := pm_go.step ⟨0, fun N _ d' _ => by rw [lz_step_an hi hn hk e, et]⟩ k
theorem lz_go.pf {q : Nat × Nat × Nat} {fs : List Value} {v : Value} {a : Nat} (hi : pm_mi M pc = some (.putfield idx)) (hf : pm_mp M idx = some q) (ho : l[a]? = some (.inr (.inr (.inr (q.1, fs))))) (hl : q.2.1 < fs.length) (hv : pm_fit q.2.2 v = true) (e : l.set a (.inr (.inr (.inr (q.1, fs.set q.2.1 v)))) = l') (k : pm_go sc net P d M (pc + 3, L, rest) (lz l' c s) r) : pm_go sc net P d M (pc, L, v :: .ref a :: rest) (lz l c s) r := by
  refine pm_go.putf hi hf (lz_obj ho) hl hv ?_
  rw [lz_set (List.getElem?_eq_some_iff.mp ho).1, e]
  exact k
theorem lz_go.gf {q : Nat × Nat × Nat} {fs : List Value} {v : Value} {a : Nat} (hi : pm_mi M pc = some (.getfield idx)) (hf : pm_mf M idx = some q) (ho : l[a]? = some (.inr (.inr (.inr (q.1, fs))))) (hv : fs[q.2.1]? = some v) (k : pm_go sc net P d M (pc + 3, L, v :: rest) (lz l c s) r) : pm_go sc net P d M (pc, L, .ref a :: rest) (lz l c s) r := pm_go.getf hi hf (lz_obj ho) hv k
theorem lz_go.aa {i : Int32} {v a : Nat} {o : List (Option Nat)} {fs : List Value} (hi : pm_mi M pc = some .aastore) (ho : l[a]? = some (.inr (.inr (.inl o)))) (hv : l[v]? = some (.inr (.inr (.inr (net, fs))))) (hin : pm_in i o.length = true) (e : l.set a (.inr (.inr (.inl (o.set i.toNatClampNeg (some v))))) = l') (k : pm_go sc net P d M (pc + 1, L, rest) (lz l' c s) r) : pm_go sc net P d M (pc, L, .ref v :: .int i :: .ref a :: rest) (lz l c s) r := by
  refine pm_go.step ⟨0, fun N _ d' _ => pm_step_hb hi rfl rfl ?_⟩ k
  show ((pm_ra (lz l c s) a).bind fun o => (pm_obj (lz l c s) v).bind fun w => if pm_in i o.length = true ∧ w.1 = net then some ((pc + 1, L, rest), pm_set (lz l c s) a (.inr (.inr (.inl (o.set i.toNatClampNeg (some v)))))) else none) = _
  rw [lz_ra ho, Option.bind_some, lz_obj hv, Option.bind_some, if_pos ⟨hin, rfl⟩, lz_set (List.getElem?_eq_some_iff.mp ho).1, e]
theorem lz_lw.nw {o : Nat × List Value} {t : pm_T} (hi : pm_mi mL_law pc = some (.new idx)) (hx : pm_mx mL_law idx = none) (hn : pm_mn mL_law idx = some o) (hk : lz_ok l L st = true) (e : l ++ [.inr (.inr (.inr o))] = l') (et : (pc + 3, L, .ref l.length :: st) = t) (k : lw_go sc t (lz l' (c + 1) (s + o.2.length)) r) : lw_go sc (pc, L, st) (lz l c s) r := lw_go.step ⟨0, fun N _ => by rw [lz_step_new hi hx hn hk e, et]⟩ k
theorem lz_lw.na {t : ArrayType} {n : Int32} {x : pm_C} {t' : pm_T} (hi : pm_mi mL_law pc = some (.newarray t)) (hn : ¬ (n < 0 ∨ 100000 < n.toNatClampNeg)) (hx : (t = .int ∧ x = .inl (0, n.toNatClampNeg, fun _ => 0)) ∨ (t = .boolean ∧ x = .inl (1, n.toNatClampNeg, fun _ => 0)) ∨ (t = .long ∧ x = .inr (.inl (n.toNatClampNeg, fun _ => 0)))) (hk : lz_ok l L (.int n :: rest) = true) (e : l ++ [x] = l') (et : (pc + 2, L, .ref l.length :: rest) = t') (k : lw_go sc t' (lz l' (c + 1) (s + n.toNatClampNeg)) r) : lw_go sc (pc, L, .int n :: rest) (lz l c s) r := lw_go.step ⟨0, fun N _ => by rw [lz_step_na hi hn hx hk e, et]⟩ k
theorem lz_lw.cI {v : Option Value} {b n id9 ci : Nat} {As : List Value} {z z' : pm_Z} (hi : pm_mi mL_law pc = some (.invokespecial idx)) (hm : pm_mm mL_law idx = some (2, id9, n, ci)) (hn : As.length = n) (hc : (z'.2.1 = z.2.1 ∨ (pm_okL z.2.1 L = true ∧ rest.all (pm_okv z.2.1) = true)) ∧ pm_cat rest ≤ 8) (hv : lw_cv sc id9 (.ref b :: As) z (.inl v, z')) (k : lw_go sc (pc + 3, L, v.toList ++ rest) z' r) : lw_go sc (pc, L, As.reverse ++ .ref b :: rest) z r := by
  obtain ⟨B, hB⟩ := hv
  refine lw_go.step ⟨B, fun N hN => pm_step_inv hi (Or.inr (Or.inr ⟨_, rfl⟩)) ?_⟩ k
  unfold pm_hi
  simp only [hm]
  rw [pm_pop_app hn]
  simp only
  rw [hB N hN]
  exact pm_beh_ret hc
end LZ
