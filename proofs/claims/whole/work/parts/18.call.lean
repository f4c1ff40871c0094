/-- what stands beside PM's cells: the script, two statics of Throwable, words that calls want, texts -/
def pm_Sp (NC : String) (base : Nat) (sp : Nat → Nat) (sc : Nat × (Nat → Int32)) (xw : List Cond) (strs : List (String × Nat × String × Nat)) (U : State) (H : Heap) : Prop :=
  sp 1000000 < base ∧ va_X (sp 1000000) sc.1 sc.2 U H ∧ vx_Zq Bundle.tN "UNASSIGNED_STACK" Bundle.steD (fun q : Nat => base ≤ q) U H ∧ vx_Zq Bundle.tN "SUPPRESSED_SENTINEL" Bundle.listD (fun q : Nat => base ≤ q) U H ∧ va_AO NC U ∧ (∀ w ∈ xw, va_Nw w U) ∧ (∀ q ∈ strs, vk_R q.1 q.2.1 q.2.2.1 (sp q.2.2.2) U) ∧ ∃ adV : Nat → Nat, tx_B 7 tx_len tx_byt (fun j => sp (1000001 + j)) adV (fun q : Nat => base ≤ q) U H
/-- words that stay as the tables warm -/
def pm_warm (xw : List Cond) : Prop := ∀ w ∈ xw, ∀ s U : State, s.WarmedH U.vm → va_Nw w s → va_Nw w U
theorem pm_Sp.to {NC : String} {base : Nat} {sp : Nat → Nat} {sc : Nat × (Nat → Int32)} {xw : List Cond} {strs : List (String × Nat × String × Nat)} {s U : State} {Hs H : Heap} (hx : pm_warm xw) (h : pm_Sp NC base sp sc xw strs s Hs) (hW : s.WarmedH U.vm) (hb : base ≤ Hs.size) (hH : ∀ q : Nat, q < Hs.size → ¬ base ≤ q → H[q]? = Hs[q]?) : pm_Sp NC base sp sc xw strs U H := by
  obtain ⟨h1, h2, h3, h4, h5, h6, h7, adV, h8⟩ := h
  refine ⟨h1, (h2.moved hW.alike).kept (hH _ (by omega) (by omega)), (h3.moved hW.alike).kept hH, (h4.moved hW.alike).kept hH, h5.moved hW.alike, fun w hw => hx w hw s U hW (h6 w hw), fun q hq => (h7 q hq).warm hW, adV, h8.to hW.alike hH⟩
def pm_rm (d mc ms : Nat) : Room := { frames := d + 8, cells := mc, slots := ms, locals := 60 * d + 200 }
def pm_ex (z z' : pm_Z) (ad ad' : Nat → Nat) : Prop := ∀ i, i < z.2.1 ∨ 1000 ≤ i ∨ z'.2.1 = z.2.1 → ad' i = ad i
theorem pm_ex.rf (z z' : pm_Z) (ad : Nat → Nat) : pm_ex z z' ad ad := fun _ _ => rfl
theorem pm_ex.tr {z z1 z2 : pm_Z} {ad ad1 ad2 : Nat → Nat} (h : pm_ex z z1 ad ad1) (k : pm_ex z1 z2 ad1 ad2) (l1 : pm_le z z1) (l2 : pm_le z1 z2) : pm_ex z z2 ad ad2 := by
  intro i hi
  have h1 := l1.1
  have h2 := l2.1
  rcases hi with q | q | q
  · rw [k i (Or.inl (by omega)), h i (Or.inl q)]
  · rw [k i (Or.inr (Or.inl q)), h i (Or.inr (Or.inl q))]
  · rw [k i (Or.inr (Or.inr (by omega))), h i (Or.inr (Or.inr (by omega)))]
def pm_Pc (D : va_G) (cl : List vw_C) (cA : Nat → ClassId) (NC : String) (base : Nat) (sp : Nat → Nat) (sc : Nat × (Nat → Int32)) (xw : List Cond) (strs : List (String × Nat × String × Nat)) (ad : Nat → Nat) (vs : List Value) (z : pm_Z) : Array Value → State → Prop :=
  va_Pc (vs.map (pm_v ad)) (fun U => base ≤ U.heap.size ∧ va_K D cl (pm_tys cA NC) U ∧ pm_R D cl cA base sp ad z U.heap ∧ pm_Sp NC base sp sc xw strs U U.heap)
theorem pm_Pc.blind {D : va_G} {cl : List vw_C} {cA : Nat → ClassId} {NC : String} {base : Nat} {sp : Nat → Nat} {sc : Nat × (Nat → Int32)} {xw : List Cond} {strs : List (String × Nat × String × Nat)} (hx : pm_warm xw) (ad : Nat → Nat) (vs : List Value) (z : pm_Z) : FrameBlind (pm_Pc D cl cA NC base sp sc xw strs ad vs z) := by
  intro a U g mk h
  obtain ⟨h1, h2, h3, h4, h5⟩ := h
  exact ⟨h1, h2, va_K.moved (u := U) (U := U.calling g mk a) (Vm.Alike.refl U.vm) h3, h4, h5.to (U := U.calling g mk a) hx (State.WarmedH.refl U) h2 (fun _ _ _ => rfl)⟩
def pm_Qc (D : va_G) (cl : List vw_C) (cA : Nat → ClassId) (base : Nat) (sp ad : Nat → Nat) (z : pm_Z) (v : Option Value) (z' : pm_Z) : Array Value → State → Outcome → State → Prop := fun _ st oc t => ∃ ad', pm_ex z z' ad ad' ∧ oc = .returned (v.map (pm_v ad')) ∧ pm_R D cl cA base sp ad' z' t.heap ∧ va_F (fun q : Nat => base ≤ q) st t
def pm_XC (D : va_G) (cl : List vw_C) (cA : Nat → ClassId) (base : Nat) (sp ad : Nat → Nat) (z : pm_Z) (E : String) (z' : pm_Z) : String → State → State → Prop := fun E' st t => E' = E ∧ ∃ ad', pm_ex z z' ad ad' ∧ pm_R D cl cA base sp ad' z' t.heap ∧ va_F (fun q : Nat => base ≤ q) st t
section PMB
variable {p : Program} {l : Launch} {e : Env} {R : Room} {s : State} {m : MethodId} {args : Array Value} {below : List Frame} {meth : Method} {c : Code} {H : Heap} {locs : List Loc} {cells slots : Nat} {Q : State → Prop} {pc : Nat} {ls : Array Slot} {st0 rest : List Value} {ad : Nat → Nat} {a : Array Value} {mc ms : Nat}
variable {D : va_G} {cl : List vw_C} {cA : Nat → ClassId} {base : Nat} {sp : Nat → Nat} {z z' : pm_Z} {v : Option Value} {E : String}
theorem pm_keep {st₀ t T' : State} {L : List Loc} (h0 : st₀.heap = H) (e1 : T'.heap = t.heap) (hL : ∀ q ∈ L, base ≤ q.base) (hS : va_S (fun q : Nat => base ≤ q) s.heap H locs) (hF : va_F (fun q : Nat => base ≤ q) st₀ t) : va_S (fun q : Nat => base ≤ q) s.heap T'.heap (locs ++ L) := by
  obtain ⟨hz, hk⟩ := hF
  rw [h0] at hz hk
  refine ⟨Nat.le_trans hS.1 (by rw [e1]; exact hz), fun q h1 h2 => ?_, fun q hq => ?_⟩
  · rw [e1, hk q (Nat.lt_of_lt_of_le h1 hS.1) h2]
    exact hS.2.1 q h1 h2
  · rcases List.mem_append.mp hq with h | h
    · exact hS.2.2 q h
    · exact hL q h
theorem pm_backR (hr : va_Run p l e R s m args below meth c H locs cells slots mc ms (F0 m pc ls st0) rest (pm_Qc D cl cA base sp ad z v z' a) (fun q : Nat => base ≤ q)) (hS : va_S (fun q : Nat => base ≤ q) s.heap H locs)
    (kk : ∀ (ad' : Nat → Nat) (H1 : Heap) (locs1 : List Loc), pm_ex z z' ad ad' → pm_R D cl cA base sp ad' z' H1 → va_S (fun q : Nat => base ≤ q) s.heap H1 locs1 → W p l e R s m args below meth c H1 locs1 (cells + mc) (slots + ms) Q (F0 m (pc + 3) ls ((v.map (pm_v ad')).toList ++ rest))) : W p l e R s m args below meth c H locs cells slots Q (F0 m pc ls st0) := by
  intro T hT X
  obtain ⟨v1, st₀, t, T', L, h0, X', hL, e1, e2, ⟨ad', hex, hv, hR', hF⟩, st⟩ := hr T hT X
  cases hv
  obtain ⟨t2, a1, b1⟩ := kk ad' T'.heap (locs ++ L) hex (by rw [e1]; exact hR') (pm_keep h0 e1 hL hS hF) T' rfl X'
  exact ⟨t2, st t2 a1, b1⟩
theorem pm_backX (hr : vx_Run p l e R s m args below meth c H locs cells slots mc ms (F0 m pc ls st0) rest (fun _ _ _ => False) (pm_XC D cl cA base sp ad z E z') (fun q : Nat => base ≤ q)) (hS : va_S (fun q : Nat => base ≤ q) s.heap H locs)
    (kk : ∀ (q : Addr) (ce : Cell) (ad' : Nat → Nat) (H1 : Heap) (locs1 : List Loc), pm_ex z z' ad ad' → pm_R D cl cA base sp ad' z' H1 → va_S (fun q : Nat => base ≤ q) s.heap H1 locs1 → H1[q]? = some ce → ce.vm = .none → s.vm.findClass E = some ce.cls → vx_W p l e R s m args below meth c H1 locs1 (cells + mc) (slots + ms) Q (F0 m pc ls rest) q) : W p l e R s m args below meth c H locs cells slots Q (F0 m pc ls st0) := by
  intro T hT X
  rcases hr T hT X with ⟨v1, st₀, t, T', L, h0, X', hL, e1, e2, hF, st⟩ | ⟨q, st₀, t, T', L, E', ce, h0, X', hL, e1, e2, ⟨rfl, ad', hex, hR', hF⟩, hce, hcv, hcl, st⟩
  · exact False.elim hF
  · obtain ⟨t2, a1, b1⟩ := kk q ce ad' T'.heap (locs ++ L) hex (by rw [e1]; exact hR') (pm_keep h0 e1 hL hS hF) (by rw [e1]; exact hce) hcv hcl T' rfl X'
    exact ⟨t2, st.trans a1, b1⟩
end PMB
