theorem pm_arg_len (vs : List Value) (ad : Nat → Nat) : (lg_sl (vs.map (pm_v ad))).length = (pm_arg vs).length := by
  induction vs with
  | nil => rfl
  | cons v vs ih =>
    have e1 : lg_sl ((v :: vs).map (pm_v ad)) = (if (pm_v ad v).category = 2 then [.val (pm_v ad v), .second] else [.val (pm_v ad v)]) ++ lg_sl (vs.map (pm_v ad)) := rfl
    rw [e1, pm_v_cat, List.length_append, ih]
    show _ = (if v.category = 2 then some v :: none :: pm_arg vs else some v :: pm_arg vs).length
    split
    · simp only [List.length_cons, List.length_nil]; omega
    · simp only [List.length_cons, List.length_nil]; omega
theorem pm_arg_in (vs : List Value) (ad : Nat → Nat) : ∀ (k i : Nat) (w : Value), (pm_arg vs)[i]? = some (some w) → (k + i, pm_v ad w) ∈ lv_args k (vs.map (pm_v ad)) := by
  induction vs with
  | nil => intro k i w h; simp [pm_arg] at h
  | cons v vs ih =>
    intro k i w h
    show (k + i, pm_v ad w) ∈ (k, pm_v ad v) :: lv_args (if (pm_v ad v).category = 2 then k + 2 else k + 1) (vs.map (pm_v ad))
    rw [pm_v_cat]
    unfold pm_arg at h
    split at h
    · next hc =>
      rw [if_pos hc]
      match i, h with
      | 0, h => cases h; exact List.mem_cons_self
      | 1, h => cases h
      | i + 2, h =>
        have h2 := ih (k + 2) i w h
        rw [show k + 2 + i = k + (i + 2) by omega] at h2
        exact List.mem_cons_of_mem _ h2
    · next hc =>
      rw [if_neg hc]
      match i, h with
      | 0, h => cases h; exact List.mem_cons_self
      | i + 1, h =>
        have h2 := ih (k + 1) i w h
        rw [show k + 1 + i = k + (i + 1) by omega] at h2
        exact List.mem_cons_of_mem _ h2
theorem pm_ini_L {n : Nat} {vs : List Value} (ad : Nat → Nat) (h : (pm_arg vs).length ≤ n) : pm_L ad n (pm_ini n vs) ((lg_sl (vs.map (pm_v ad)) ++ List.replicate (n - (lg_sl (vs.map (pm_v ad))).length) Slot.unset).toArray) := by
  obtain ⟨h1, h2, h3⟩ := lv_entry (vs.map (pm_v ad)) (n := n) (by rw [pm_arg_len]; exact h)
  refine ⟨h1, ?_, h2, fun i v hi => ?_⟩
  · unfold pm_ini
    rw [List.length_append, List.length_replicate]
    omega
  · unfold pm_ini at hi
    by_cases hl : i < (pm_arg vs).length
    · rw [List.getElem?_append_left hl] at hi
      have h4 := pm_arg_in vs ad 0 i v hi
      rw [Nat.zero_add] at h4
      exact h3 _ h4
    · rw [List.getElem?_append_right (Nat.le_of_not_lt hl), List.getElem?_replicate] at hi
      split at hi <;> cases hi
section PMC
variable {l : Launch} {D : va_G} {cl : List vw_C} {cA : Nat → ClassId} {NC : String} {base net : Nat} {sp : Nat → Nat} {sc : Nat × (Nat → Int32)} {tbl xw : List Cond} {strs : List (String × Nat × String × Nat)} {P : Nat → Option pm_M} {nm : Nat → MethodName} {bs : Nat → ByteArray} {rt : Nat → Option FieldType}
set_option maxHeartbeats 4000000 in
/-- an end of a method that comes back -/
theorem pm_ends {p : Program} {e : Env} {R : Room} {s : State} {m : MethodId} {args : Array Value} {below : List Frame} {meth : Method} {c : Code} {cc : ByteArray} {t : Nat} {r : Option FieldType} {z z' : pm_Z} {ad0 : Nat → Nat} {mc ms : Nat} {v : Option Value} (hx : p.tables.exec = Jvm.exec) (hb : c.code = cc) (hr : meth.sig.returnType = r) (hlk : meth.locks = false) (ho : pm_okr t r) (i : Instr) (pc : Nat) (ls : Array Slot) (st : List Value) (ad : Nat → Nat) (H : Heap) (locs : List Loc) (cells slots : Nat) (h : pm_end t i st v) (hd : pm_dec cc pc i) (hex : pm_ex z z' ad0 ad) (hR : pm_R D cl cA base sp ad z' H) (hS : va_S (fun q : Nat => base ≤ q) s.heap H locs) (hc : cells ≤ mc) (hs : slots ≤ ms) :
    W p l e R s m args below meth c H locs cells slots (MQ below (pm_Qc D cl cA base sp ad0 z v z') args s mc ms (fun q : Nat => base ≤ q)) (F0 m pc ls (st.map (pm_v ad))) := by
  refine W.widen hc hs ?_
  rcases h with ⟨x, rfl, rfl, rfl, rfl⟩ | ⟨x, rfl, rfl, rfl, rfl, hx9⟩ | ⟨x, rfl, rfl, rfl, rfl⟩ | ⟨x, rfl, rfl, rfl, rfl⟩ | ⟨rfl, rfl, rfl, rfl⟩
  · have hr1 : meth.sig.returnType = some .int := by
      rcases ho with ⟨q, -⟩ | ⟨-, q⟩ | ⟨q, -⟩ | ⟨q, -⟩ | ⟨q, -⟩
      · exact absurd q (by decide)
      · rw [hr]; exact q
      · exact absurd q (by decide)
      · exact absurd q (by decide)
      · exact absurd q (by decide)
    exact W.iret hx hb hr1 (fun t ht _ => ⟨ad, hex, rfl, by rw [ht]; exact hR, hS.F ht⟩) hS.2.2 (hd.of (by simp [pm_len]))
  · have hr1 : meth.sig.returnType = some .boolean := by
      rcases ho with ⟨q, -⟩ | ⟨q, -⟩ | ⟨-, q⟩ | ⟨q, -⟩ | ⟨q, -⟩
      · exact absurd q (by decide)
      · exact absurd q (by decide)
      · rw [hr]; exact q
      · exact absurd q (by decide)
      · exact absurd q (by decide)
    exact W.zret hx hb hr1 (by rcases hx9 with rfl | rfl <;> rfl) (fun t ht _ => ⟨ad, hex, rfl, by rw [ht]; exact hR, hS.F ht⟩) hS.2.2 (hd.of (by simp [pm_len]))
  · have hr1 : meth.sig.returnType = some .long := by
      rcases ho with ⟨q, -⟩ | ⟨q, -⟩ | ⟨q, -⟩ | ⟨-, q⟩ | ⟨q, -⟩
      · exact absurd q (by decide)
      · exact absurd q (by decide)
      · exact absurd q (by decide)
      · rw [hr]; exact q
      · exact absurd q (by decide)
    exact W.lret hx hb hr1 (fun t ht _ => ⟨ad, hex, rfl, by rw [ht]; exact hR, hS.F ht⟩) hS.2.2 (hd.of (by simp [pm_len]))
  · have hr1 : ∃ n, meth.sig.returnType = some (.object n) := by
      rcases ho with ⟨q, -⟩ | ⟨q, -⟩ | ⟨q, -⟩ | ⟨q, -⟩ | ⟨-, n, q⟩
      · exact absurd q (by decide)
      · exact absurd q (by decide)
      · exact absurd q (by decide)
      · exact absurd q (by decide)
      · exact ⟨n, by rw [hr]; exact q⟩
    obtain ⟨n, hr1⟩ := hr1
    exact W.aret hx hb hr1 (Or.inl ⟨n, rfl⟩) (Or.inr ⟨ad x, rfl⟩) (fun t ht _ => ⟨ad, hex, rfl, by rw [ht]; exact hR, hS.F ht⟩) hS.2.2 (hd.of (by simp [pm_len]))
  · have hr1 : meth.sig.returnType = none := by
      rcases ho with ⟨-, q⟩ | ⟨q, -⟩ | ⟨q, -⟩ | ⟨q, -⟩ | ⟨q, -⟩
      · rw [hr]; exact q
      · exact absurd q (by decide)
      · exact absurd q (by decide)
      · exact absurd q (by decide)
      · exact absurd q (by decide)
    exact W.vret hx hb hr1 (fun t ht _ => ⟨ad, hex, rfl, by rw [ht]; exact hR, hS.F ht⟩) hS.2.2 (hd.of (by simp [pm_len]))
set_option maxHeartbeats 4000000 in
/-- every call of PM is a call of the machine -/
theorem pm_calls (hT : pm_okT cl NC net tbl xw) (hP : ∀ y M, P y = some M → pm_okM cl NC tbl xw strs P nm bs rt y M) (hst : l.stackTraces = false) (N : Nat) : ∀ (d y : Nat) (M : pm_M) (vs : List Value) (z : pm_Z) (o : pm_O) (z' : pm_Z), P y = some M → pm_call sc net P N d y vs z = some (o, z') → ∀ ad, pm_Met l D cl cA NC base sp sc tbl xw strs d (nm y) (bs y) (pm_mL M) (rt y) vs z o z' ad := by
  intro d
  induction d with
  | zero => intro y M vs z o z' _ h; cases h
  | succ d ih =>
    intro y M vs z o z' hy h ad
    unfold pm_call at h
    rw [hy] at h
    simp only at h
    split at h
    · next hlen =>
      have hM := hP y M hy
      have hle := pm_run_le (pm_call_le sc net P N d) _ _ _ _ _ h
      have h1 := hle.2.1
      have h2 := hle.2.2
      cases o with
      | inl v =>
        refine Met.ofW (cc := bs y) (maxL := pm_mL M) (ret := rt y) hM.1 rfl ?_
        intro p e s m args below meth c s₁ B hml hv
        obtain ⟨rfl, hb, hK, hR, hSp⟩ := hv
        have hts := atoms_spec (ws := Cond.code (nm y) (bs y) (pm_mL M) (rt y) :: tbl) B.pre
        have hown : s.vm.findClass (nm y).cls = some m.cls := findClass_of_methodNamed B.named
        have hnm := (name_of_methodNamed B.named B.method).1
        rw [lg_entry_eq]
        exact pm_runs (zz := z) (ad0 := ad) (mc := z'.2.2.1 - z.2.2.1) (ms := z'.2.2.2 - z.2.2.2) hT hM.wk (pm_call_le sc net P N d) (fun y' M' vs' z1 o1 z2 a1 a2 ad' => ih y' M' vs' z1 o1 z2 a1 a2 ad') (fun idx id n x h4 => absurd (hM.2.2.2.2.2.2.2.2.2.1 _ _ h4) pm_okm.not4) ⟨B.exec, B.bytes, hml, hown, hts⟩ (by show d + 9 ≤ d + 1 + 8; omega) (by show 60 * d + 260 ≤ 60 * (d + 1) + 200; omega) (Nat.le_refl _) (Nat.le_refl _) hnm B.notSynchronized hst hb hK hSp
          (fun v9 e9 i pc ls st ad' H locs cells slots a1 a2 a3 a4 a5 a6 a7 => by cases e9; exact pm_ends B.exec B.bytes B.returns B.notSynchronized hM.2.2.2.2.2.2.2.2.2.2.2.2 i pc ls st ad' H locs cells slots a1 a2 a3 a4 a5 a6 a7) (fun E e9 => by cases e9) N _ _ h ad s.heap [] 0 0 _ hR va_S.rf (pm_ini_L ad hlen.1) (by omega) (by omega) (pm_le.rf z) (pm_ex.rf _ _ _)
      | inr E =>
        refine vx_ofW (cc := bs y) (maxL := pm_mL M) (ret := rt y) hM.1 rfl ?_
        intro p e s m args below meth c s₁ B hml htab hv
        obtain ⟨rfl, hb, hK, hR, hSp⟩ := hv
        have hts := atoms_spec (ws := Cond.code (nm y) (bs y) (pm_mL M) (rt y) :: tbl) B.pre
        have hown : s.vm.findClass (nm y).cls = some m.cls := findClass_of_methodNamed B.named
        have hnm := (name_of_methodNamed B.named B.method).1
        rw [lg_entry_eq]
        exact pm_runs (zz := z) (ad0 := ad) (mc := z'.2.2.1 - z.2.2.1) (ms := z'.2.2.2 - z.2.2.2) hT hM.wk (pm_call_le sc net P N d) (fun y' M' vs' z1 o1 z2 a1 a2 ad' => ih y' M' vs' z1 o1 z2 a1 a2 ad') (fun idx id n x h4 => absurd (hM.2.2.2.2.2.2.2.2.2.1 _ _ h4) pm_okm.not4) ⟨B.exec, B.bytes, hml, hown, hts⟩ (by show d + 9 ≤ d + 1 + 8; omega) (by show 60 * d + 260 ≤ 60 * (d + 1) + 200; omega) (Nat.le_refl _) (Nat.le_refl _) hnm B.notSynchronized hst hb hK hSp
          (fun v9 e9 => by cases e9) (fun E9 e9 => Or.inl ⟨htab, by cases e9; rfl⟩) N _ _ h ad s.heap [] 0 0 _ hR va_S.rf (pm_ini_L ad hlen.1) (by omega) (by omega) (pm_le.rf z) (pm_ex.rf _ _ _)
    · cases h
end PMC
