/-- a method's contract, out of PM's answer -/
def pm_Met (l : Launch) (D : va_G) (cl : List vw_C) (cA : Nat → ClassId) (NC : String) (base : Nat) (sp : Nat → Nat) (sc : Nat × (Nat → Int32)) (tbl xw : List Cond) (strs : List (String × Nat × String × Nat)) (d : Nat) (y : MethodName) (b : ByteArray) (n : Nat) (rt : Option FieldType) (vs : List Value) (z : pm_Z) (o : pm_O) (z' : pm_Z) (ad : Nat → Nat) : Prop := match o with
  | .inl v => Met l y (Cond.code y b n rt :: tbl) (pm_rm d (z'.2.2.1 - z.2.2.1) (z'.2.2.2 - z.2.2.2)) (pm_Pc D cl cA NC base sp sc xw strs ad vs z) (pm_Qc D cl cA base sp ad z v z') (z'.2.2.1 - z.2.2.1) (z'.2.2.2 - z.2.2.2) (fun q : Nat => base ≤ q)
  | .inr E => vx_Met l y (Cond.code y b n rt :: tbl) (pm_rm d (z'.2.2.1 - z.2.2.1) (z'.2.2.2 - z.2.2.2)) (pm_Pc D cl cA NC base sp sc xw strs ad vs z) (fun _ _ _ _ => False) (pm_XC D cl cA base sp ad z E z') (z'.2.2.1 - z.2.2.1) (z'.2.2.2 - z.2.2.2) (fun q : Nat => base ≤ q)
/-- what a call of a method by any road wants -/
def pm_okb (tbl : List Cond) (y : MethodName) (b : ByteArray) (mL : Nat) (rt : Option FieldType) (n : Nat) : Prop := Cond.code y b mL rt ∈ tbl ∧ Cond.initialized y.cls ∈ tbl ∧ (y.cls ≠ "java/lang/invoke/MethodHandle" ∧ y.cls ≠ "java/lang/invoke/VarHandle" ∧ (parseMethodDescriptor y.desc).map (fun d => d.parameters.length) = some n) ∧ mL ≤ 30
theorem pm_good_tbl {tbl : List Cond} (hg : ∀ w ∈ tbl, goodWord w = true) {x : Cond} {ws : List Cond} (h : ∀ w ∈ ws, w ∈ tbl) : GoodIn (x :: tbl) ws := fun w hw => ⟨List.mem_cons_of_mem _ (h w hw), good_of_word (hg w (h w hw))⟩
theorem pm_in_tbl {tbl : List Cond} {x : Cond} (h : x ∈ tbl) : ∀ w ∈ x :: tbl, w ∈ tbl := fun w hw => (List.mem_cons.mp hw).elim (fun q => q ▸ h) id
section PMI
variable {p : Program} {l : Launch} {e : Env} {R : Room} {s : State} {m : MethodId} {args : Array Value} {below : List Frame} {meth : Method} {c : Code} {H : Heap} {locs : List Loc} {cells slots : Nat} {Q : State → Prop} {cc : ByteArray} {pc nL : Nat} {ls : Array Slot} {ad : Nat → Nat}
variable {D : va_G} {cl : List vw_C} {cA : Nat → ClassId} {NC : String} {base : Nat} {sp : Nat → Nat} {sc : Nat × (Nat → Int32)} {tbl xw : List Cond} {strs : List (String × Nat × String × Nat)} {own : String} {x0 : Cond} {d : Nat}
variable {y : MethodName} {b : ByteArray} {mL n idx : Nat} {rt : Option FieldType} {vs rest : List Value} {z z' : pm_Z} {o : pm_O}
/-- what stands at the call: the caller, its words, its room -/
def pm_Fix (p : Program) (R : Room) (s : State) (m : MethodId) (args : Array Value) (c : Code) (cc : ByteArray) (nL : Nat) (tbl : List Cond) (x0 : Cond) (own : String) (d : Nat) : Prop := CallFix p m c cc nL s args (x0 :: tbl) own ∧ (∀ w ∈ tbl, goodWord w = true) ∧ d + 9 ≤ R.frames ∧ 60 * d + 260 ≤ R.locals
theorem pm_pre (hx : pm_warm xw) (hb : base ≤ s.heap.size) (hK : va_K D cl (pm_tys cA NC) s) (hR : pm_R D cl cA base sp ad z H) (hS : va_S (fun q : Nat => base ≤ q) s.heap H locs) (hSp : pm_Sp NC base sp sc xw strs s s.heap) : ∀ U : State, U.heap = H → s.WarmedH U.vm → pm_Pc D cl cA NC base sp sc xw strs ad vs z (vs.map (pm_v ad)).toArray U := by
  intro U hU hW
  refine ⟨rfl, by rw [hU]; exact Nat.le_trans hb hS.1, va_K.moved hW.alike hK, by rw [hU]; exact hR, hSp.to hx hW hb (by rw [hU]; exact hS.2.1)⟩
theorem pm_cb (hF : pm_Fix p R s m args c cc nL tbl x0 own d) (hy : pm_okb tbl y b mL rt n) (hl : Cond.methodLink own idx y ∈ tbl) {mc ms : Nat} : CallB R s args own idx y b mL rt (Cond.code y b mL rt :: tbl) (pm_rm d mc ms) mc ms n := by
  obtain ⟨⟨-, -, -, -, hts⟩, hg, hf1, hf2⟩ := hF
  obtain ⟨h1, h2, h3, h4⟩ := hy
  refine callB_of n hts (pm_good_tbl hg (pm_in_tbl h1)) rfl rfl rfl (hts _ (List.mem_cons_of_mem _ h2)) (hts _ (List.mem_cons_of_mem _ hl)) h3 ⟨?_, ?_⟩
  · show d + 8 + 1 ≤ _; omega
  · show 8 + (mL + 11) + (60 * d + 200) ≤ _; omega
theorem pm_cn (hF : pm_Fix p R s m args c cc nL tbl x0 own d) (hy : pm_okb tbl y b mL rt n) {host : String} (hl : va_Nw (.methodLinkNest own idx y host) s) {mc ms : Nat} : va_CN R s args own idx y host b mL rt (Cond.code y b mL rt :: tbl) (pm_rm d mc ms) mc ms n := by
  obtain ⟨⟨-, -, -, -, hts⟩, hg, hf1, hf2⟩ := hF
  obtain ⟨h1, h2, h3, h4⟩ := hy
  refine va_cnB n hts (pm_good_tbl hg (pm_in_tbl h1)) rfl rfl rfl hl (hts _ (List.mem_cons_of_mem _ h2)) h3 ⟨?_, ?_⟩
  · show d + 8 + 1 ≤ _; omega
  · show 8 + (mL + 11) + (60 * d + 200) ≤ _; omega
theorem pm_fl (h : pm_cat rest ≤ 8) (m : MethodId) (pc : Nat) (ls : Array Slot) (st : List Value) : 2 * (F0 m pc ls st).monitorRoom + ((rest.map (pm_v ad)).map fun v => v.category).sum ≤ 8 := by
  have e1 : (rest.map (pm_v ad)).map (fun v => v.category) = rest.map fun v => v.category := by
    rw [List.map_map]
    exact List.map_congr_left fun v _ => pm_v_cat ad v
  rw [e1]
  exact lv_room (m := m) (pc := pc) (ls := ls) (rest := st) h
theorem pm_rev (vs rest : List Value) (ad : Nat → Nat) : (vs.reverse ++ rest).map (pm_v ad) = (vs.map (pm_v ad)).reverse ++ rest.map (pm_v ad) := by
  rw [List.map_append, List.map_reverse]
/-- a static call -/
theorem pm_callS (hF : pm_Fix p R s m args c cc nL tbl x0 own d) (hy : pm_okb tbl y b mL rt n) (hl : Cond.methodLink own idx y ∈ tbl) (hst : Cond.static y ∈ tbl) (hx : pm_warm xw) (hb : base ≤ s.heap.size) (hK : va_K D cl (pm_tys cA NC) s) (hR : pm_R D cl cA base sp ad z H) (hS : va_S (fun q : Nat => base ≤ q) s.heap H locs) (hSp : pm_Sp NC base sp sc xw strs s s.heap) (hn : vs.length = n) (hsz : ls.size = nL) (hc : pm_cat rest ≤ 8) (hd : decode cc pc = .ok (.invokestatic idx, 3)) (hle : pm_le z z') (hc1 : cells + z'.2.2.1 ≤ R.cells + z.2.2.1) (hs1 : slots + z'.2.2.2 ≤ R.slots + z.2.2.2)
    (hM : pm_Met l D cl cA NC base sp sc tbl xw strs d y b mL rt vs z o z' ad)
    (kr : ∀ (v : Option Value) (ad' : Nat → Nat) (H1 : Heap) (locs1 : List Loc), o = .inl v → pm_ex z z' ad ad' → pm_R D cl cA base sp ad' z' H1 → va_S (fun q : Nat => base ≤ q) s.heap H1 locs1 → W p l e R s m args below meth c H1 locs1 (cells + (z'.2.2.1 - z.2.2.1)) (slots + (z'.2.2.2 - z.2.2.2)) Q (F0 m (pc + 3) ls ((v.map (pm_v ad')).toList ++ rest.map (pm_v ad))))
    (kx : ∀ (E : String) (q : Addr) (ce : Cell) (ad' : Nat → Nat) (H1 : Heap) (locs1 : List Loc), o = .inr E → pm_ex z z' ad ad' → pm_R D cl cA base sp ad' z' H1 → va_S (fun q : Nat => base ≤ q) s.heap H1 locs1 → H1[q]? = some ce → ce.vm = .none → s.vm.findClass E = some ce.cls → vx_W p l e R s m args below meth c H1 locs1 (cells + (z'.2.2.1 - z.2.2.1)) (slots + (z'.2.2.2 - z.2.2.2)) Q (F0 m pc ls (rest.map (pm_v ad))) q) :
    W p l e R s m args below meth c H locs cells slots Q (F0 m pc ls ((vs.reverse ++ rest).map (pm_v ad))) := by
  have hcb := pm_cb (mc := z'.2.2.1 - z.2.2.1) (ms := z'.2.2.2 - z.2.2.2) hF hy hl
  have hts := hF.1.2.2.2.2
  have hpre : PreS s H (pm_Pc D cl cA NC base sp sc xw strs ad vs z) (vs.map (pm_v ad)) := ⟨pm_Pc.blind hx ad vs z, pm_pre hx hb hK hR hS hSp⟩
  have h1 := hle.2.1
  have h2 := hle.2.2
  cases o with
  | inl v => exact pm_backR (va_runS (rest := rest.map (pm_v ad)) hF.1 hM ⟨hcb, hts _ (List.mem_cons_of_mem _ hst)⟩ hpre rfl (by rw [List.length_map]; exact hn) hsz (pm_rev vs rest ad) (pm_fl hc m pc ls _) hd ⟨by omega, by omega⟩) hS (fun ad' H1 locs1 a1 a2 a3 => kr v ad' H1 locs1 rfl a1 a2 a3)
  | inr E => exact pm_backX (vx_runS (rest := rest.map (pm_v ad)) hF.1 hM ⟨hcb, hts _ (List.mem_cons_of_mem _ hst)⟩ hpre rfl (by rw [List.length_map]; exact hn) hsz (pm_rev vs rest ad) (pm_fl hc m pc ls _) hd ⟨by omega, by omega⟩) hS (fun q ce ad' H1 locs1 a1 a2 a3 a4 a5 a6 => kx E q ce ad' H1 locs1 rfl a1 a2 a3 a4 a5 a6)
/-- a static call in the nest: it comes back -/
theorem pm_callSN {v : Option Value} (hF : pm_Fix p R s m args c cc nL tbl x0 own d) (hy : pm_okb tbl y b mL rt n) {host : String} (hl : Cond.methodLinkNest own idx y host ∈ xw) (hst : Cond.static y ∈ tbl) (hx : pm_warm xw) (hb : base ≤ s.heap.size) (hK : va_K D cl (pm_tys cA NC) s) (hR : pm_R D cl cA base sp ad z H) (hS : va_S (fun q : Nat => base ≤ q) s.heap H locs) (hSp : pm_Sp NC base sp sc xw strs s s.heap) (hn : vs.length = n) (hsz : ls.size = nL) (hc : pm_cat rest ≤ 8) (hd : decode cc pc = .ok (.invokestatic idx, 3)) (hle : pm_le z z') (hc1 : cells + z'.2.2.1 ≤ R.cells + z.2.2.1) (hs1 : slots + z'.2.2.2 ≤ R.slots + z.2.2.2)
    (hM : pm_Met l D cl cA NC base sp sc tbl xw strs d y b mL rt vs z (.inl v) z' ad)
    (kr : ∀ (ad' : Nat → Nat) (H1 : Heap) (locs1 : List Loc), pm_ex z z' ad ad' → pm_R D cl cA base sp ad' z' H1 → va_S (fun q : Nat => base ≤ q) s.heap H1 locs1 → W p l e R s m args below meth c H1 locs1 (cells + (z'.2.2.1 - z.2.2.1)) (slots + (z'.2.2.2 - z.2.2.2)) Q (F0 m (pc + 3) ls ((v.map (pm_v ad')).toList ++ rest.map (pm_v ad)))) :
    W p l e R s m args below meth c H locs cells slots Q (F0 m pc ls ((vs.reverse ++ rest).map (pm_v ad))) := by
  have hcb := pm_cn (mc := z'.2.2.1 - z.2.2.1) (ms := z'.2.2.2 - z.2.2.2) hF hy (hSp.2.2.2.2.2.1 _ hl)
  have hts := hF.1.2.2.2.2
  have hpre : PreS s H (pm_Pc D cl cA NC base sp sc xw strs ad vs z) (vs.map (pm_v ad)) := ⟨pm_Pc.blind hx ad vs z, pm_pre hx hb hK hR hS hSp⟩
  have h1 := hle.2.1
  have h2 := hle.2.2
  exact pm_backR (va_runSN (rest := rest.map (pm_v ad)) hF.1 hM ⟨hcb, hts _ (List.mem_cons_of_mem _ hst), trivial⟩ hpre rfl (by rw [List.length_map]; exact hn) hsz (pm_rev vs rest ad) (pm_fl hc m pc ls _) hd ⟨by omega, by omega⟩) hS (fun ad' H1 locs1 a1 a2 a3 => kr ad' H1 locs1 a1 a2 a3)
/-- the words of a static call of a method with a table -/
def pm_ok4 (tbl : List Cond) (own : String) (idx : Nat) (y : MethodName) (b : ByteArray) (mL : Nat) (rt : Option FieldType) (hh : List (Nat × Nat × Nat × Nat)) (n : Nat) : Prop := Cond.codeWith y b mL rt hh ∈ tbl ∧ Cond.initialized y.cls ∈ tbl ∧ (y.cls ≠ "java/lang/invoke/MethodHandle" ∧ y.cls ≠ "java/lang/invoke/VarHandle" ∧ (parseMethodDescriptor y.desc).map (fun d => d.parameters.length) = some n) ∧ mL ≤ 30 ∧ Cond.methodLink own idx y ∈ tbl ∧ Cond.static y ∈ tbl
/-- its contract: it comes back -/
def pm_Met4 (l : Launch) (D : va_G) (cl : List vw_C) (cA : Nat → ClassId) (NC : String) (base : Nat) (sp : Nat → Nat) (sc : Nat × (Nat → Int32)) (tbl xw : List Cond) (strs : List (String × Nat × String × Nat)) (d : Nat) (y : MethodName) (b : ByteArray) (n : Nat) (rt : Option FieldType) (hh : List (Nat × Nat × Nat × Nat)) (vs : List Value) (z : pm_Z) (v : Option Value) (z' : pm_Z) (ad : Nat → Nat) : Prop := Met l y (Cond.codeWith y b n rt hh :: tbl) (pm_rm d (z'.2.2.1 - z.2.2.1) (z'.2.2.2 - z.2.2.2)) (pm_Pc D cl cA NC base sp sc xw strs ad vs z) (pm_Qc D cl cA base sp ad z v z') (z'.2.2.1 - z.2.2.1) (z'.2.2.2 - z.2.2.2) (fun q : Nat => base ≤ q)
theorem pm_callSW {v : Option Value} {hh : List (Nat × Nat × Nat × Nat)} (hF : pm_Fix p R s m args c cc nL tbl x0 own d) (hy : pm_ok4 tbl own idx y b mL rt hh n) (hx : pm_warm xw) (hb : base ≤ s.heap.size) (hK : va_K D cl (pm_tys cA NC) s) (hR : pm_R D cl cA base sp ad z H) (hS : va_S (fun q : Nat => base ≤ q) s.heap H locs) (hSp : pm_Sp NC base sp sc xw strs s s.heap) (hn : vs.length = n) (hsz : ls.size = nL) (hc : pm_cat rest ≤ 8) (hd : decode cc pc = .ok (.invokestatic idx, 3)) (hle : pm_le z z') (hc1 : cells + z'.2.2.1 ≤ R.cells + z.2.2.1) (hs1 : slots + z'.2.2.2 ≤ R.slots + z.2.2.2)
    (hM : pm_Met4 l D cl cA NC base sp sc tbl xw strs d y b mL rt hh vs z v z' ad)
    (kr : ∀ (ad' : Nat → Nat) (H1 : Heap) (locs1 : List Loc), pm_ex z z' ad ad' → pm_R D cl cA base sp ad' z' H1 → va_S (fun q : Nat => base ≤ q) s.heap H1 locs1 → W p l e R s m args below meth c H1 locs1 (cells + (z'.2.2.1 - z.2.2.1)) (slots + (z'.2.2.2 - z.2.2.2)) Q (F0 m (pc + 3) ls ((v.map (pm_v ad')).toList ++ rest.map (pm_v ad)))) :
    W p l e R s m args below meth c H locs cells slots Q (F0 m pc ls ((vs.reverse ++ rest).map (pm_v ad))) := by
  obtain ⟨q1, q2, q3, q4, q5, q6⟩ := hy
  have hts := hF.1.2.2.2.2
  have hcb : vx_CSW R s args own idx y b mL rt hh (Cond.codeWith y b mL rt hh :: tbl) (pm_rm d (z'.2.2.1 - z.2.2.1) (z'.2.2.2 - z.2.2.2)) (z'.2.2.1 - z.2.2.1) (z'.2.2.2 - z.2.2.2) n := by
    refine vx_cwSW (ws' := tbl) n hts (pm_good_tbl hF.2.1 ?_) rfl rfl rfl q3 ⟨?_, ?_⟩
    · intro w hw
      unfold va_wsS at hw
      rcases List.mem_append.mp hw with h | h
      · simp only [List.mem_cons, List.not_mem_nil, or_false] at h
        rcases h with rfl | rfl | rfl
        · exact q5
        · exact q6
        · exact q2
      · exact pm_in_tbl q1 w h
    · have := hF.2.2.1; show d + 8 + 1 ≤ _; omega
    · have := hF.2.2.2; show 8 + (mL + 11) + (60 * d + 200) ≤ _; omega
  have hpre : PreS s H (pm_Pc D cl cA NC base sp sc xw strs ad vs z) (vs.map (pm_v ad)) := ⟨pm_Pc.blind hx ad vs z, pm_pre hx hb hK hR hS hSp⟩
  have h1 := hle.2.1
  have h2 := hle.2.2
  exact pm_backR (vx_runSW (rest := rest.map (pm_v ad)) hF.1 hM hcb hpre rfl (by rw [List.length_map]; exact hn) hsz (pm_rev vs rest ad) (pm_fl hc m pc ls _) hd ⟨by omega, by omega⟩) hS (fun ad' H1 locs1 a1 a2 a3 => kr ad' H1 locs1 a1 a2 a3)
theorem pm_revR (vs rest : List Value) (r : Nat) (ad : Nat → Nat) : (vs.reverse ++ .ref r :: rest).map (pm_v ad) = (vs.map (pm_v ad)).reverse ++ .ref (ad r) :: rest.map (pm_v ad) := by
  rw [List.map_append, List.map_reverse]
  rfl
/-- a virtual call -/
theorem pm_callV {r ci : Nat} {fs : List Value} {T : u_T} {N : Nat} (hF : pm_Fix p R s m args c cc nL tbl x0 own d) (hy : pm_okb tbl y b mL rt n) (hl : Cond.methodLink own idx y ∈ tbl) (hin : Cond.instanceMethod y ∈ tbl) (hse : Cond.selects y.cls y y ∈ tbl) (hci : cl[ci]? = some (y.cls, T, N)) (hob : pm_obj z r = some (ci, fs)) (hx : pm_warm xw) (hb : base ≤ s.heap.size) (hK : va_K D cl (pm_tys cA NC) s) (hR : pm_R D cl cA base sp ad z H) (hS : va_S (fun q : Nat => base ≤ q) s.heap H locs) (hSp : pm_Sp NC base sp sc xw strs s s.heap) (hn : vs.length = n) (hsz : ls.size = nL) (hc : pm_cat rest ≤ 8) (hd : decode cc pc = .ok (.invokevirtual idx, 3)) (hle : pm_le z z') (hc1 : cells + z'.2.2.1 ≤ R.cells + z.2.2.1) (hs1 : slots + z'.2.2.2 ≤ R.slots + z.2.2.2)
    (hM : pm_Met l D cl cA NC base sp sc tbl xw strs d y b mL rt (.ref r :: vs) z o z' ad)
    (kr : ∀ (v : Option Value) (ad' : Nat → Nat) (H1 : Heap) (locs1 : List Loc), o = .inl v → pm_ex z z' ad ad' → pm_R D cl cA base sp ad' z' H1 → va_S (fun q : Nat => base ≤ q) s.heap H1 locs1 → W p l e R s m args below meth c H1 locs1 (cells + (z'.2.2.1 - z.2.2.1)) (slots + (z'.2.2.2 - z.2.2.2)) Q (F0 m (pc + 3) ls ((v.map (pm_v ad')).toList ++ rest.map (pm_v ad))))
    (kx : ∀ (E : String) (q : Addr) (ce : Cell) (ad' : Nat → Nat) (H1 : Heap) (locs1 : List Loc), o = .inr E → pm_ex z z' ad ad' → pm_R D cl cA base sp ad' z' H1 → va_S (fun q : Nat => base ≤ q) s.heap H1 locs1 → H1[q]? = some ce → ce.vm = .none → s.vm.findClass E = some ce.cls → vx_W p l e R s m args below meth c H1 locs1 (cells + (z'.2.2.1 - z.2.2.1)) (slots + (z'.2.2.2 - z.2.2.2)) Q (F0 m pc ls (rest.map (pm_v ad))) q) :
    W p l e R s m args below meth c H locs cells slots Q (F0 m pc ls ((vs.reverse ++ .ref r :: rest).map (pm_v ad))) := by
  have hcb := pm_cb (mc := z'.2.2.1 - z.2.2.1) (ms := z'.2.2.2 - z.2.2.2) hF hy hl
  have hts := hF.1.2.2.2.2
  obtain ⟨g1, g2⟩ := pm_obj_some hob
  have hrv := va_recv (q0 := r) (ci := ci) (fs := fs.map (pm_v ad)) hK hR.1 hci (by rw [pm_ws_get g1 g2]; rfl)
  have hpre : PreV s H y.cls (ad r) (pm_Pc D cl cA NC base sp sc xw strs ad (.ref r :: vs) z) (vs.map (pm_v ad)) := ⟨pm_Pc.blind hx ad (.ref r :: vs) z, hrv, pm_pre hx hb hK hR hS hSp⟩
  have hcw : CallW R s args own y.cls idx y b mL rt (Cond.code y b mL rt :: tbl) (pm_rm d (z'.2.2.1 - z.2.2.1) (z'.2.2.2 - z.2.2.2)) (z'.2.2.1 - z.2.2.1) (z'.2.2.2 - z.2.2.2) n := ⟨hcb, hts _ (List.mem_cons_of_mem _ hin), hts _ (List.mem_cons_of_mem _ hse)⟩
  have h1 := hle.2.1
  have h2 := hle.2.2
  cases o with
  | inl v => exact pm_backR (va_runV (rest := rest.map (pm_v ad)) hF.1 hM hcw hpre rfl (by rw [List.length_map]; exact hn) hsz (pm_revR vs rest r ad) (pm_fl hc m pc ls _) hd ⟨by omega, by omega⟩) hS (fun ad' H1 locs1 a1 a2 a3 => kr v ad' H1 locs1 rfl a1 a2 a3)
  | inr E => exact pm_backX (vx_runV (rest := rest.map (pm_v ad)) hF.1 hM hcw hpre rfl (by rw [List.length_map]; exact hn) hsz (pm_revR vs rest r ad) (pm_fl hc m pc ls _) hd ⟨by omega, by omega⟩) hS (fun q ce ad' H1 locs1 a1 a2 a3 a4 a5 a6 => kx E q ce ad' H1 locs1 rfl a1 a2 a3 a4 a5 a6)
/-- a making: it comes back -/
theorem pm_callI {r : Nat} {v : Option Value} (hF : pm_Fix p R s m args c cc nL tbl x0 own d) (hy : pm_okb tbl y b mL none n) (hl : Cond.methodLink own idx y ∈ tbl) (hin : Cond.instanceMethod y ∈ tbl) (hnm : y.name = "<init>") (hx : pm_warm xw) (hb : base ≤ s.heap.size) (hK : va_K D cl (pm_tys cA NC) s) (hR : pm_R D cl cA base sp ad z H) (hS : va_S (fun q : Nat => base ≤ q) s.heap H locs) (hSp : pm_Sp NC base sp sc xw strs s s.heap) (hn : vs.length = n) (hsz : ls.size = nL) (hc : pm_cat rest ≤ 8) (hd : decode cc pc = .ok (.invokespecial idx, 3)) (hle : pm_le z z') (hc1 : cells + z'.2.2.1 ≤ R.cells + z.2.2.1) (hs1 : slots + z'.2.2.2 ≤ R.slots + z.2.2.2)
    (hM : pm_Met l D cl cA NC base sp sc tbl xw strs d y b mL none (.ref r :: vs) z (.inl v) z' ad)
    (kr : ∀ (ad' : Nat → Nat) (H1 : Heap) (locs1 : List Loc), pm_ex z z' ad ad' → pm_R D cl cA base sp ad' z' H1 → va_S (fun q : Nat => base ≤ q) s.heap H1 locs1 → W p l e R s m args below meth c H1 locs1 (cells + (z'.2.2.1 - z.2.2.1)) (slots + (z'.2.2.2 - z.2.2.2)) Q (F0 m (pc + 3) ls ((v.map (pm_v ad')).toList ++ rest.map (pm_v ad)))) :
    W p l e R s m args below meth c H locs cells slots Q (F0 m pc ls ((vs.reverse ++ .ref r :: rest).map (pm_v ad))) := by
  have hcb := pm_cb (mc := z'.2.2.1 - z.2.2.1) (ms := z'.2.2.2 - z.2.2.2) hF hy hl
  have hts := hF.1.2.2.2.2
  have hpre : PreS s H (pm_Pc D cl cA NC base sp sc xw strs ad (.ref r :: vs) z) (.ref (ad r) :: vs.map (pm_v ad)) := ⟨pm_Pc.blind hx ad (.ref r :: vs) z, pm_pre hx hb hK hR hS hSp⟩
  have h1 := hle.2.1
  have h2 := hle.2.2
  exact pm_backR (va_runI (rest := rest.map (pm_v ad)) hF.1 hM ⟨hcb, hnm, hts _ (List.mem_cons_of_mem _ hin)⟩ hpre rfl (by rw [List.length_map]; exact hn) hsz (pm_revR vs rest r ad) (pm_fl hc m pc ls _) hd ⟨by omega, by omega⟩) hS (fun ad' H1 locs1 a1 a2 a3 => kr ad' H1 locs1 a1 a2 a3)
theorem pm_callIN {r : Nat} {v : Option Value} (hF : pm_Fix p R s m args c cc nL tbl x0 own d) (hy : pm_okb tbl y b mL none n) {host : String} (hl : Cond.methodLinkNest own idx y host ∈ xw) (hin : Cond.instanceMethod y ∈ tbl) (hnm : y.name = "<init>") (hx : pm_warm xw) (hb : base ≤ s.heap.size) (hK : va_K D cl (pm_tys cA NC) s) (hR : pm_R D cl cA base sp ad z H) (hS : va_S (fun q : Nat => base ≤ q) s.heap H locs) (hSp : pm_Sp NC base sp sc xw strs s s.heap) (hn : vs.length = n) (hsz : ls.size = nL) (hc : pm_cat rest ≤ 8) (hd : decode cc pc = .ok (.invokespecial idx, 3)) (hle : pm_le z z') (hc1 : cells + z'.2.2.1 ≤ R.cells + z.2.2.1) (hs1 : slots + z'.2.2.2 ≤ R.slots + z.2.2.2)
    (hM : pm_Met l D cl cA NC base sp sc tbl xw strs d y b mL none (.ref r :: vs) z (.inl v) z' ad)
    (kr : ∀ (ad' : Nat → Nat) (H1 : Heap) (locs1 : List Loc), pm_ex z z' ad ad' → pm_R D cl cA base sp ad' z' H1 → va_S (fun q : Nat => base ≤ q) s.heap H1 locs1 → W p l e R s m args below meth c H1 locs1 (cells + (z'.2.2.1 - z.2.2.1)) (slots + (z'.2.2.2 - z.2.2.2)) Q (F0 m (pc + 3) ls ((v.map (pm_v ad')).toList ++ rest.map (pm_v ad)))) :
    W p l e R s m args below meth c H locs cells slots Q (F0 m pc ls ((vs.reverse ++ .ref r :: rest).map (pm_v ad))) := by
  have hcb := pm_cn (mc := z'.2.2.1 - z.2.2.1) (ms := z'.2.2.2 - z.2.2.2) hF hy (hSp.2.2.2.2.2.1 _ hl)
  have hts := hF.1.2.2.2.2
  have hpre : PreS s H (pm_Pc D cl cA NC base sp sc xw strs ad (.ref r :: vs) z) (.ref (ad r) :: vs.map (pm_v ad)) := ⟨pm_Pc.blind hx ad (.ref r :: vs) z, pm_pre hx hb hK hR hS hSp⟩
  have h1 := hle.2.1
  have h2 := hle.2.2
  exact pm_backR (va_runIN (rest := rest.map (pm_v ad)) hF.1 hM ⟨hcb, hnm, hts _ (List.mem_cons_of_mem _ hin)⟩ hpre rfl (by rw [List.length_map]; exact hn) hsz (pm_revR vs rest r ad) (pm_fl hc m pc ls _) hd ⟨by omega, by omega⟩) hS (fun ad' H1 locs1 a1 a2 a3 => kr ad' H1 locs1 a1 a2 a3)
end PMI
