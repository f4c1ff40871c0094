/-! a catch whose classes may still be unresolved: the search of a table of handlers, row by row -/
/-- a row names a class, which links, and which the thrown object's class fits (b) or doesn't -/
def ow_at (pl : Platform) (s₀ : State) (d thrown : ClassId) (y : ExceptionTableEntry) (b : Bool) : Prop := y.catchType ≠ 0 ∧ ∃ k, s₀.vm.ClassLinks pl d y.catchType k ∧ s₀.vm.assignable thrown k = b
section OWA
variable {e : Env} {f : JFrame} {a : Addr} {cell : Cell}
/-- one row that covers the place: its class is looked up and noted, then the row is taken or passed -/
theorem ow_one {s₀ S : State} {y : ExceptionTableEntry} {b : Bool} (hW : s₀.WarmedH S.vm) (hcell : S.heap[a]? = some cell) (hobj : ∀ k, cell.vm ≠ .statics k) (hk0 : ∃ k, s₀.vm.classes[cell.cls]? = some k) (hy : covers y f.pc = true) (h : ow_at e.platform s₀ f.method.cls cell.cls y b) :
    ∃ v, s₀.WarmedH v ∧ ∀ (t : List ExceptionTableEntry) (Q : Handler → Pre) (E : CtlPost) (d : Bool) (acts : List Action), wp (findHandler.go f a (y :: t)) Q E e d acts S ↔ if b = true then Q (.found y.handlerPc) d acts (S.setVm v) else wp (findHandler.go f a t) Q E e d acts (S.setVm v) := by
  obtain ⟨h0, k, hl, hb⟩ := h
  obtain ⟨dk, _, _, kt, hd, _, _, _, _, hkt, _, hopen⟩ := hl.here
  obtain ⟨ko, hko⟩ := hk0
  have W2 := hW.noted hd hopen (State.rightAt_cls hl)
  obtain ⟨u1, hu1, -⟩ := W2.alike.2.2 _ _ hko
  obtain ⟨u2, hu2, -⟩ := W2.alike.2.2 _ _ hkt
  obtain ⟨g1, g2⟩ := (resolveClass_links e.toSetting (hW.classLinks hl)).op (op := VmOp.resolveClass f.method.cls y.catchType) rfl
  have fits : (S.vm.noted f.method.cls y.catchType (.cls k)).assignable cell.cls k = b := by
    rw [W2.alike.assignable]
    exact hb
  refine ⟨_, W2, fun t Q E d acts => ?_⟩
  unfold covers at hy
  cases b with
  | true => simp [findHandler.go, hy, h0, g1, g2, hcell, hobj, hu1, hu2, fits, VmOp.dirties, VmOp.acts]
  | false => simp [findHandler.go, hy, h0, g1, g2, hcell, hobj, hu1, hu2, fits, VmOp.dirties, VmOp.acts]
/-- rows that are passed, then one that is taken -/
theorem ow_search {s₀ : State} {x : ExceptionTableEntry} {rest : List ExceptionTableEntry} (hobj : ∀ k, cell.vm ≠ .statics k) (hk0 : ∃ k, s₀.vm.classes[cell.cls]? = some k) (hx : covers x f.pc = true) (hend : ow_at e.platform s₀ f.method.cls cell.cls x true) :
    ∀ (pre : List ExceptionTableEntry) (S : State), s₀.WarmedH S.vm → S.heap[a]? = some cell → (∀ y ∈ pre, covers y f.pc = false ∨ ow_at e.platform s₀ f.method.cls cell.cls y false) →
      ∃ v, s₀.WarmedH v ∧ ∀ (Q : Handler → Pre) (E : CtlPost) (d : Bool) (acts : List Action), wp (findHandler.go f a (pre ++ x :: rest)) Q E e d acts S ↔ Q (.found x.handlerPc) d acts (S.setVm v)
  | [], S, hW, hcell, _ => by
    obtain ⟨v, w1, w2⟩ := ow_one hW hcell hobj hk0 hx hend
    refine ⟨v, w1, fun Q E d acts => ?_⟩
    rw [List.nil_append, w2, if_pos rfl]
  | y :: ys, S, hW, hcell, hp => by
    have later := fun z hz => hp z (List.mem_cons_of_mem y hz)
    by_cases cy : covers y f.pc = true
    · have hy : ow_at e.platform s₀ f.method.cls cell.cls y false := (hp y List.mem_cons_self).resolve_left (fun q => by rw [q] at cy; cases cy)
      obtain ⟨v1, w1, w2⟩ := ow_one hW hcell hobj hk0 cy hy
      obtain ⟨v, w3, w4⟩ := ow_search hobj hk0 hx hend ys (S.setVm v1) w1 hcell later
      refine ⟨v, w3, fun Q E d acts => ?_⟩
      rw [List.cons_append, w2, if_neg (by decide), w4]
      exact Iff.rfl
    · obtain ⟨v, w3, w4⟩ := ow_search hobj hk0 hx hend ys S hW hcell later
      refine ⟨v, w3, fun Q E d acts => ?_⟩
      rw [List.cons_append, W.findHandler_go_skip (by simpa using cy)]
      exact w4 Q E d acts
end OWA
section OWB
variable {p : Program} {l : Launch} {e : Env} {R : Room} {s : State} {m : MethodId} {args : Array Value} {below : List Frame} {meth : Method} {c : Code} {T : State} {locs : List Loc} {cells slots : Nat}
/-- from the throw to the handler's first instruction -/
theorem ow_then (X : Stand p l e R s m args below meth c T locs cells slots) (a : Addr) {g : JFrame} (hg : g.method = m) {cell : Cell} (hcell : T.heap[a]? = some cell) (hobj : cell.vm.isStatics = false) (hk0 : ∃ k, s.vm.classes[cell.cls]? = some k) {pre : List ExceptionTableEntry} {x : ExceptionTableEntry} {rest : List ExceptionTableEntry} (hsplit : c.exceptionTable.toList = pre ++ x :: rest)
    (hpass : ∀ y ∈ pre, covers y g.pc = false ∨ ow_at e.platform s m.cls cell.cls y false) (hx : covers x g.pc = true) (hend : ow_at e.platform s m.cls cell.cls x true) :
    ∃ v, Stand p l e R s m args below meth c (T.setVm v) locs cells slots ∧ Steps p.tables e below ((T.setTop g).pushFrame (.throwing a)) ((T.setVm v).setTop { g with pc := x.handlerPc, stack := [.ref a] }) := by
  subst hg
  obtain ⟨g0, hfr⟩ := X.frames_eq
  have eS : (T.setTop g).pushFrame (.throwing a) = T.setFrames (.throwing a :: .java g :: below) := by
    rw [State.pushFrame, State.frames_setTop _ hfr, State.setTop_of_frames _ hfr, State.setFrames_setFrames]
  obtain ⟨hgo, hw⟩ := X.here.throwing a
  obtain ⟨v, hv, hq⟩ := ow_search (e := e) (f := g) (a := a) (VmData.ne_statics_of hobj) hk0 hx hend pre ((T.setTop g).pushFrame (.throwing a)) (rest := rest) X.warmed hcell hpass
  have all : ∀ (Q : Handler → Pre) (E : CtlPost) (d : Bool) (acts : List Action), wp (findHandler g a) Q E e d acts ((T.setTop g).pushFrame (.throwing a)) ↔ Q (.found x.handlerPc) d acts (((T.setTop g).pushFrame (.throwing a)).setVm v) := fun Q E d acts => by
    rw [W.findHandler_eq (s := (T.setTop g).pushFrame (.throwing a)) X.method' X.code, hsplit]
    exact hq Q E d acts
  have eV : (T.setFrames (.throwing a :: .java g :: below)).setVm v = (T.setVm v).setFrames (.throwing a :: .java g :: below) := rfl
  refine ⟨v, X.noted hv, Steps.head hgo hw ?_⟩
  have one : (stepThrowing e ((T.setTop g).pushFrame (.throwing a)) a (.java g :: T.frames.tail)).Is ((((T.setTop g).pushFrame (.throwing a)).setVm v).setFrames (.java { g with pc := x.handlerPc, stack := [.ref a] } :: T.frames.tail)) [] := by
    simp only [stepThrowing, searchFrame, vmDo]
    generalize hr : Sem.go _ e false [] ((T.setTop g).pushFrame (.throwing a)) = res
    obtain ⟨as, rfl, ha⟩ := Sem.eq_ok_of hr (a := Handler.found x.handlerPc) (s' := ((T.setTop g).pushFrame (.throwing a)).setVm v) (acts' := []) (by simp [all _ _ _ _])
    exact ⟨rfl, ha⟩
  rw [stepThread_throwing (frames_entered X.here.top _), one.1, eS, eV, State.setFrames_setFrames, hfr, List.tail_cons, State.setTop_of_frames (s := T.setVm v) (f := g0) (r := below) _ hfr]
  exact Steps.refl _
end OWB
section OWC
variable {p : Program} {l : Launch} {e : Env} {R : Room} {s : State} {m : MethodId} {args : Array Value} {below : List Frame} {meth : Method} {c : Code} {H : Heap} {locs : List Loc} {cells slots : Nat} {Q : State → Prop}
variable {pc : Nat} {ls : Array Slot} {rest : List Value}
/-- a class of the table's words, as the search meets it -/
theorem ow_link {own nm E : String} {ce : Cell} {k : Nat} {b : Bool} (hown : s.vm.findClass own = some m.cls) (hpl : e.platform.magicAccessors = ({} : Platform).magicAccessors) (hcl : s.vm.findClass E = some ce.cls) (y : ExceptionTableEntry) (h0 : y.catchType ≠ 0) (hlink : (Cond.classLink own y.catchType nm).before args s = true) (hk : s.vm.findClass nm = some k) (hb : s.vm.assignable ce.cls k = b) : ow_at e.platform s m.cls ce.cls y b := by
  obtain ⟨k1, w1, w2⟩ := Cond.classLink_spec hown hlink e.platform hpl
  cases Option.some.inj (w1.symm.trans hk)
  exact ⟨h0, _, w2, hb⟩
/-- a throw that the method's own table catches -/
theorem ow_catch {own name E : String} {ce : Cell} {q : Addr} (hown : s.vm.findClass own = some m.cls) (pre : List ExceptionTableEntry) (x : ExceptionTableEntry) (suf : List ExceptionTableEntry) (hsplit : c.exceptionTable.toList = pre ++ x :: suf)
    (hpass : ∀ z ∈ pre, covers z pc = false ∨ (z.catchType ≠ 0 ∧ ∃ nm : String, (Cond.classLink own z.catchType nm).before args s = true ∧ va_Nc E nm s)) (hx : covers x pc = true) (h0 : x.catchType ≠ 0)
    (hlink : (Cond.classLink own x.catchType name).before args s = true) (hcast : (Cond.castable E name).before args s = true) (hcell : H[q]? = some ce) (hv : ce.vm = .none) (hcl : s.vm.findClass E = some ce.cls)
    (kk : W p l e R s m args below meth c H locs cells slots Q (F0 m x.handlerPc ls [.ref q])) : vx_W p l e R s m args below meth c H locs cells slots Q (F0 m pc ls rest) q := by
  intro T hT X
  have hpl : e.platform.magicAccessors = ({} : Platform).magicAccessors := by rw [X.admits.platform]
  obtain ⟨k1, k2, w1, w2, fit⟩ := Cond.castable_spec hcast
  cases Option.some.inj (w1.symm.trans hcl)
  obtain ⟨kc, hkc, -⟩ := Vm.findClass_spec hcl
  have passed : ∀ z ∈ pre, covers z pc = false ∨ ow_at e.platform s m.cls ce.cls z false := by
    intro z hz
    refine (hpass z hz).imp_right (fun w => ?_)
    obtain ⟨z0, nm, l1, l2⟩ := w
    obtain ⟨u1, u2, v1, v2, v3⟩ := l2
    cases Option.some.inj (v1.symm.trans hcl)
    exact ow_link hown hpl hcl z z0 l1 v2 v3
  obtain ⟨v, X2, st⟩ := ow_then X q (g := F0 m pc ls rest) rfl (by rw [hT]; exact hcell) (by rw [hv]; rfl) ⟨kc, hkc⟩ hsplit passed hx (ow_link hown hpl hcl x h0 hlink w2 fit)
  obtain ⟨t, r1, r2⟩ := kk (T.setVm v) hT X2
  exact ⟨t, st.trans r1, r2⟩
end OWC
