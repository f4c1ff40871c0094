def pm_tys (cA : Nat → ClassId) (NC : String) : List (ClassId × FieldType) := [(cA 0, .int), (cA 1, .boolean), (cA 2, .long), (cA 3, .object NC)]
/-- the world of PM's heap in the machine's -/
def pm_R (D : va_G) (cl : List vw_C) (cA : Nat → ClassId) (base : Nat) (sp ad : Nat → Nat) (z : pm_Z) (H : Heap) : Prop := va_P D cl (pm_ws cA ad z) H ∧ va_D (fun q : Nat => base ≤ q) (pm_ws cA ad z) ∧ (∀ i, 1000 ≤ i → ad i = sp i) ∧ z.2.1 ≤ 1000
def pm_okf (cl : List vw_C) (tbl : List Cond) (own : String) (idx : Nat) (q : Nat × Nat × Nat) : Prop := ∃ (C : String) (T : u_T) (N : Nat) (ty : Nat → FieldType), cl[q.1]? = some (C, T, N) ∧ q.2.1 < N ∧ (∀ w ∈ u_ws C T N, w ∈ tbl) ∧ Cond.fieldLink own idx (T q.2.1).1 (T q.2.1).2.1 (T q.2.1).2.2.1 ∈ tbl ∧ (∀ k, k < N → parseFieldDescriptor (T k).2.2.1 = some (ty k)) ∧ (∀ a, a < N → ∀ b, b < N → a ≠ b → (T a).2.1 ≠ (T b).2.1) ∧ (∀ (ad : Nat → Nat) (v : Value), pm_fit q.2.2 v = true → narrow (ty q.2.1) (pm_v ad v) = pm_v ad v ∧ fits (ty q.2.1) (pm_v ad v) = true)
/-- what may be put: not final, or final in the making of its own kind -/
def pm_okp (cl : List vw_C) (own : String) (q : Nat × Nat × Nat) (nm : String) : Prop := ∀ (C : String) (T : u_T) (N : Nat), cl[q.1]? = some (C, T, N) → (T q.2.1).2.2.2 = true → nm = "<init>" ∧ (T q.2.1).1 = own
section PMH
variable {p : Program} {l : Launch} {e : Env} {R : Room} {s : State} {m : MethodId} {args : Array Value} {below : List Frame} {meth : Method} {c : Code} {H : Heap} {locs : List Loc} {cells slots : Nat} {Q : State → Prop} {cc : ByteArray} {pc nL : Nat} {L : List (Option Value)} {st : List Value} {ls : Array Slot} {ad : Nat → Nat} {i : Instr}
variable {D : va_G} {cl : List vw_C} {cA : Nat → ClassId} {NC : String} {base net : Nat} {sp : Nat → Nat} {tbl : List Cond} {own : String} {fld fldp : Nat → Option (Nat × Nat × Nat)} {cst : Nat → Option Int32} {csl : Nat → Option Int64} {csr : Nat → Option Nat} {sc : Nat × (Nat → Int32)} {z : pm_Z}
set_option maxHeartbeats 4000000 in
theorem pm_ha_ok {r : pm_T} (hx : p.tables.exec = Jvm.exec) (hb : c.code = cc) (hown : s.vm.findClass own = some m.cls) (hts : ∀ w ∈ tbl, w.before args s = true) (hd : pm_dec cc pc i) (hL : pm_L ad nL L ls)
    (hK : va_K D cl (pm_tys cA NC) s) (hR : pm_R D cl cA base sp ad z H) (hS : va_S (fun q : Nat => base ≤ q) s.heap H locs)
    (hX : va_X (sp 1000000) sc.1 sc.2 s s.heap) (hXb : sp 1000000 < base) (hXs : base ≤ s.heap.size)
    (hF : ∀ idx q, fld idx = some q → pm_okf cl tbl own idx q) (hC : ∀ idx v, cst idx = some v → Cond.constant own idx v ∈ tbl) (hC2 : ∀ idx v, csl idx = some v → Cond.constantLong own idx v ∈ tbl)
    (hCr : ∀ idx a, csr idx = some a → 1000 ≤ a ∧ ∃ tx, vk_R own idx tx (sp a) s)
    (h : pm_ha fld cst csl csr sc i pc L st z = some r)
    (k : W p l e R s m args below meth c H locs cells slots Q (F0 m r.1 ls (r.2.2.map (pm_v ad)))) (kL : r.2.1 = L → True) : W p l e R s m args below meth c H locs cells slots Q (F0 m pc ls (st.map (pm_v ad))) := by
  obtain ⟨hP, hD, hA, hn⟩ := hR
  unfold pm_ha at h
  split at h
  · next idx =>
    split at h
    · next v hv => cases h; exact lv_ldc hx hb hown (hts _ (hC _ _ hv)) (hd.of (by simp [pm_len])) k
    · obtain ⟨a, ha, e⟩ := Option.map_eq_some_iff.mp h
      cases e
      obtain ⟨h1, tx, h2⟩ := hCr _ _ ha
      refine va_ldcS hx hb hown h2 (hd.of (by simp [pm_len])) ?_
      have e2 : pm_v ad (.ref a) = .ref (sp a) := by show Value.ref (ad a) = _; rw [hA a h1]
      simp only [List.map_cons, e2] at k
      exact k
  · obtain ⟨v, hv, e⟩ := Option.map_eq_some_iff.mp h
    cases e
    exact lv_ldcw hx hb hown (hts _ (hC _ _ hv)) (hd.of (by simp [pm_len])) k
  · obtain ⟨v, hv, e⟩ := Option.map_eq_some_iff.mp h
    cases e
    exact lv_ldc2 hx hb hown (hts _ (hC2 _ _ hv)) (hd.of (by simp [pm_len])) k
  · next idx =>
    obtain ⟨a, t, rfl, h9⟩ := pm_rf_some h
    replace h := h9; clear h9
    obtain ⟨q, hq, h⟩ := Option.bind_eq_some_iff.mp h
    obtain ⟨o, ho, h⟩ := Option.bind_eq_some_iff.mp h
    split at h
    · next hc =>
      obtain ⟨v, hv, e⟩ := Option.map_eq_some_iff.mp h
      cases e
      obtain ⟨C, T, N, ty, h1, h2, h3, h4, h5, h6, h7⟩ := hF _ _ hq
      obtain ⟨g1, g2⟩ := pm_obj_some ho
      refine va_get (D := D) (ci := q.1) (v := pm_v ad v) (C := C) (T := T) (N := N) hx hb hts h3 hown hK hP a (fs := o.2.map (pm_v ad)) ?_ h1 q.2.1 h2 (hts _ h4) (fun _ h9 => h9) ?_ (hd.of (by simp [pm_len])) k
      · rw [pm_ws_get g1 g2]
        show some (ad a, (Sum.inr (o.1, o.2.map (pm_v ad)) : va_E)) = _
        rw [hc]
      · rw [List.getElem?_map, hv]; rfl
    · cases h
  · obtain ⟨a, t, rfl, h9⟩ := pm_rf_some h
    replace h := h9; clear h9
    split at h
    · next ha =>
      cases h
      subst ha
      have e2 : pm_v ad (.ref 1000000) = .ref (sp 1000000) := by show Value.ref (ad _) = _; rw [hA _ (by omega)]
      simp only [List.map_cons, e2]
      exact va_slen hx hb hX (by omega) (by omega) hS (hd.of (by simp [pm_len])) k
    · obtain ⟨n, hn2, e⟩ := Option.map_eq_some_iff.mp h
      cases e
      unfold pm_alen at hn2
      split at hn2
      · next hl =>
        split at hn2
        · next u n f e3 =>
          split at hn2
          · next hu =>
            subst hu
            cases hn2
            exact va_alen (D := D) (x := (n, .inl f)) hx hb hK hP a 0 (pm_ws_get hl e3) rfl rfl (hd.of (by simp [pm_len])) k
          · split at hn2
            · next hu =>
              subst hu
              cases hn2
              exact va_alen (D := D) (x := (n, .inl f)) hx hb hK hP a 1 (pm_ws_get hl e3) rfl rfl (hd.of (by simp [pm_len])) k
            · cases hn2
        · next o e3 =>
          cases hn2
          exact va_alen (D := D) (x := (o.1, .inr (.inl o.2))) hx hb hK hP a 2 (pm_ws_get hl e3) rfl rfl (hd.of (by simp [pm_len])) k
        · next o e3 =>
          cases hn2
          exact va_alen (D := D) (x := (o.length, .inr (.inr (.inr (.inr (fun j => (o[j]?.join).map ad)))))) hx hb hK hP a 3 (pm_ws_get hl e3) rfl rfl (hd.of (by simp [pm_len])) k
        · cases hn2
      · cases hn2
  · obtain ⟨j, a, t, rfl, h9⟩ := pm_at_some h
    replace h := h9; clear h9
    split at h
    · next ha =>
      subst ha
      split at h
      · next hj =>
        cases h
        have e2 : pm_v ad (.ref 1000000) = .ref (sp 1000000) := by show Value.ref (ad _) = _; rw [hA _ (by omega)]
        simp only [List.map_cons, e2]
        exact va_sld hx hb hX (by omega) (by omega) hS (pm_in_iff.mp hj) (hd.of (by simp [pm_len])) k
      · cases h
    · obtain ⟨o, ho, h⟩ := Option.bind_eq_some_iff.mp h
      split at h
      · next hj =>
        cases h
        obtain ⟨g1, g2⟩ := pm_ia_some ho
        exact va_iald (D := D) (f := o.2) hx hb hK hP a 0 (pm_ws_get g1 g2) rfl (pm_in_iff.mp hj) (hd.of (by simp [pm_len])) k
      · cases h
  · obtain ⟨j, a, t, rfl, h9⟩ := pm_at_some h
    replace h := h9; clear h9
    obtain ⟨o, ho, h⟩ := Option.bind_eq_some_iff.mp h
    split at h
    · next hj =>
      cases h
      obtain ⟨g1, g2⟩ := pm_ia_some ho
      exact va_zald (D := D) (f := o.2) hx hb hK hP a 1 (pm_ws_get g1 g2) rfl (pm_in_iff.mp hj) (hd.of (by simp [pm_len])) k
    · cases h
  · obtain ⟨j, a, t, rfl, h9⟩ := pm_at_some h
    replace h := h9; clear h9
    obtain ⟨o, ho, h⟩ := Option.bind_eq_some_iff.mp h
    split at h
    · next hj =>
      cases h
      obtain ⟨g1, g2⟩ := pm_la_some ho
      exact va_lald (D := D) (f := o.2) hx hb hK hP a 2 (pm_ws_get g1 g2) rfl (pm_in_iff.mp hj) (hd.of (by simp [pm_len])) k
    · cases h
  · obtain ⟨j, a, t, rfl, h9⟩ := pm_at_some h
    replace h := h9; clear h9
    obtain ⟨o, ho, h⟩ := Option.bind_eq_some_iff.mp h
    split at h
    · next hj =>
      split at h
      · next v hv =>
        cases h
        obtain ⟨g1, g2⟩ := pm_ra_some ho
        refine va_aldq (D := D) (C := NC) (f := fun j => (o[j]?.join).map ad) hx hb hK hP a 3 (pm_ws_get g1 g2) rfl (pm_in_iff.mp hj) (hd.of (by simp [pm_len])) ?_
        rw [hv]
        exact k
      · cases h
    · cases h
  · cases h
set_option maxHeartbeats 4000000 in
theorem pm_hb_ok {r : pm_T × pm_Z} (hx : p.tables.exec = Jvm.exec) (hb : c.code = cc) (hown : s.vm.findClass own = some m.cls) (hts : ∀ w ∈ tbl, w.before args s = true) (hd : pm_dec cc pc i)
    (hK : va_K D cl (pm_tys cA NC) s) (hR : pm_R D cl cA base sp ad z H) (hS : va_S (fun q : Nat => base ≤ q) s.heap H locs)
    (hF : ∀ idx q, fldp idx = some q → pm_okf cl tbl own idx q ∧ pm_okp cl own q meth.name) (hnet : ∃ T N, cl[net]? = some (NC, T, N))
    (h : pm_hb fldp net i pc L st z = some r)
    (k : ∀ (H1 : Heap) (locs1 : List Loc), pm_R D cl cA base sp ad r.2 H1 → va_S (fun q : Nat => base ≤ q) s.heap H1 locs1 → W p l e R s m args below meth c H1 locs1 cells slots Q (F0 m r.1.1 ls (r.1.2.2.map (pm_v ad)))) : W p l e R s m args below meth c H locs cells slots Q (F0 m pc ls (st.map (pm_v ad))) := by
  obtain ⟨hP, hD, hA, hn⟩ := hR
  unfold pm_hb at h
  split at h
  · next idx =>
    split at h
    · next v a t =>
      obtain ⟨q, hq, h⟩ := Option.bind_eq_some_iff.mp h
      obtain ⟨o, ho, h⟩ := Option.bind_eq_some_iff.mp h
      split at h
      · next hc =>
        cases h
        obtain ⟨hc1, hc2, hc3⟩ := hc
        obtain ⟨⟨C, T, N, ty, h1, h2, h3, h4, h5, h6, h7⟩, hfin⟩ := hF _ _ hq
        obtain ⟨g1, g2⟩ := pm_obj_some ho
        have hw : (pm_ws cA ad z)[a]? = some (ad a, .inr (q.1, o.2.map (pm_v ad))) := by
          rw [pm_ws_get g1 g2]
          show some (ad a, (Sum.inr (o.1, o.2.map (pm_v ad)) : va_E)) = _
          rw [hc1]
        have es : (pm_ws cA ad z).set a (ad a, .inr (q.1, (o.2.map (pm_v ad)).set q.2.1 (pm_v ad v))) = pm_ws cA ad (pm_set z a (.inr (.inr (.inr (o.1, o.2.set q.2.1 v))))) := by
          rw [← pm_ws_set _ g1]
          show _ = (pm_ws cA ad z).set a (ad a, (Sum.inr (o.1, (o.2.set q.2.1 v).map (pm_v ad)) : va_E))
          rw [List.map_set, hc1]
        cases hf : (T q.2.1).2.2.2 with
        | false =>
          exact va_put (D := D) (ci := q.1) (v := pm_v ad v) (C := C) (T := T) (N := N) hx hb hts h3 ty h5 h6 hown hK hP hD hS a hw h1 q.2.1 h2 (hts _ h4) (fun _ h9 => h9) hf (h5 _ h2) (h7 ad v hc3).1 (h7 ad v hc3).2 (by rw [List.length_map]; exact hc2) (hd.of (by simp [pm_len])) (fun H1 locs1 hP1 hD1 hS1 => k H1 locs1 ⟨by rw [← es]; exact hP1, by rw [← es]; exact hD1, hA, hn⟩ hS1)
        | true =>
          exact va_putF (D := D) (ci := q.1) (v := pm_v ad v) (C := C) (T := T) (N := N) hx hb hts h3 ty h5 h6 hown hK hP hD hS a hw h1 q.2.1 h2 (hts _ h4) (fun _ h9 => h9) hf (hfin C T N h1 hf).1 (hfin C T N h1 hf).2 (h5 _ h2) (h7 ad v hc3).1 (h7 ad v hc3).2 (by rw [List.length_map]; exact hc2) (hd.of (by simp [pm_len])) (fun H1 locs1 hP1 hD1 hS1 => k H1 locs1 ⟨by rw [← es]; exact hP1, by rw [← es]; exact hD1, hA, hn⟩ hS1)
      · cases h
    · cases h
  · split at h
    · next x j a t =>
      obtain ⟨o, ho, h⟩ := Option.bind_eq_some_iff.mp h
      split at h
      · next hj =>
        cases h
        obtain ⟨g1, g2⟩ := pm_ia_some ho
        have es := pm_ws_set (cA := cA) (ad := ad) (.inl (0, o.1, upd o.2 j.toNatClampNeg x)) g1
        exact va_iast (D := D) (f := o.2) hx hb hK hP hD hS a 0 (pm_ws_get g1 g2) rfl (pm_in_iff.mp hj) (hd.of (by simp [pm_len])) (fun H1 locs1 hP1 hD1 hS1 => k H1 locs1 ⟨by rw [← es]; exact hP1, by rw [← es]; exact hD1, hA, hn⟩ hS1)
      · cases h
    · cases h
  · split at h
    · next x j a t =>
      obtain ⟨o, ho, h⟩ := Option.bind_eq_some_iff.mp h
      split at h
      · next hj =>
        cases h
        obtain ⟨g1, g2⟩ := pm_ia_some ho
        have es := pm_ws_set (cA := cA) (ad := ad) (.inl (1, o.1, upd o.2 j.toNatClampNeg (vp_nar .boolean x))) g1
        exact va_zast (D := D) (f := o.2) hx hb hK hP hD hS a 1 (pm_ws_get g1 g2) rfl (pm_in_iff.mp hj) (hd.of (by simp [pm_len])) (fun H1 locs1 hP1 hD1 hS1 => k H1 locs1 ⟨by rw [← es]; exact hP1, by rw [← es]; exact hD1, hA, hn⟩ hS1)
      · cases h
    · cases h
  · split at h
    · next x j a t =>
      obtain ⟨o, ho, h⟩ := Option.bind_eq_some_iff.mp h
      split at h
      · next hj =>
        cases h
        obtain ⟨g1, g2⟩ := pm_la_some ho
        have es := pm_ws_set (cA := cA) (ad := ad) (.inr (.inl (o.1, vp_updL o.2 j.toNatClampNeg x))) g1
        exact va_last (D := D) (f := o.2) hx hb hK hP hD hS a 2 (pm_ws_get g1 g2) rfl (pm_in_iff.mp hj) (hd.of (by simp [pm_len])) (fun H1 locs1 hP1 hD1 hS1 => k H1 locs1 ⟨by rw [← es]; exact hP1, by rw [← es]; exact hD1, hA, hn⟩ hS1)
      · cases h
    · cases h
  · split at h
    · next v j a t =>
      obtain ⟨o, ho, h⟩ := Option.bind_eq_some_iff.mp h
      obtain ⟨w, hw, h⟩ := Option.bind_eq_some_iff.mp h
      split at h
      · next hj =>
        cases h
        obtain ⟨hj, hwn⟩ := hj
        obtain ⟨T, N, hnc⟩ := hnet
        obtain ⟨g1, g2⟩ := pm_ra_some ho
        obtain ⟨g3, g4⟩ := pm_obj_some hw
        have hin := pm_in_iff.mp hj
        have hlt : j.toNatClampNeg < o.length := Nat.not_le.mp fun q => hin (Or.inr q)
        have es := pm_ws_set (cA := cA) (ad := ad) (.inr (.inr (.inl (o.set j.toNatClampNeg (some v))))) g1
        have ef : (pm_e cA ad (.inr (.inr (.inl (o.set j.toNatClampNeg (some v))))) : va_E) = .inl (cA 3, o.length, .inr (.inr (.inr (.inr (va_up (fun j => (o[j]?.join).map ad) j.toNatClampNeg (some (ad v))))))) := by
          show (Sum.inl (cA 3, (o.set j.toNatClampNeg (some v)).length, .inr (.inr (.inr (.inr (fun q => (((o.set j.toNatClampNeg (some v))[q]?).join).map ad))))) : va_E) = _
          rw [List.length_set]
          congr 7
          funext q
          unfold va_up
          by_cases hq : q = j.toNatClampNeg
          · subst hq
            rw [List.getElem?_set_self hlt]
            simp
          · rw [List.getElem?_set_ne (fun z => hq z.symm), if_neg hq]
        rw [ef] at es
        exact va_astq (D := D) (r := (NC, T, N)) (f := fun j => (o[j]?.join).map ad) hx hb hK hP hD hS a 3 v net (pm_ws_get g1 g2) rfl (vs := w.2.map (pm_v ad)) (by rw [pm_ws_get g3 g4, ← hwn]; rfl) hnc hin (hd.of (by simp [pm_len])) (fun H1 locs1 hP1 hD1 hS1 => k H1 locs1 ⟨by rw [← es]; exact hP1, by rw [← es]; exact hD1, hA, hn⟩ hS1)
      · cases h
    · cases h
  · cases h
end PMH
