theorem pm_v_ext {n : Nat} {ad ad' : Nat → Nat} {v : Value} (h : ∀ i, i < n ∨ 1000 ≤ i → ad' i = ad i) (hv : pm_okv n v = true) : pm_v ad' v = pm_v ad v := by
  cases v with
  | ref i =>
    show Value.ref (ad' i) = Value.ref (ad i)
    rw [h i (by simpa [pm_okv] using hv)]
  | _ => rfl
theorem pm_map_ext {n : Nat} {ad ad' : Nat → Nat} {st : List Value} (h : ∀ i, i < n ∨ 1000 ≤ i → ad' i = ad i) (hv : st.all (pm_okv n) = true) : st.map (pm_v ad') = st.map (pm_v ad) :=
  List.map_congr_left fun v hm => pm_v_ext h (List.all_eq_true.mp hv v hm)
theorem pm_L.ext {n nL : Nat} {ad ad' : Nat → Nat} {L : List (Option Value)} {ls : Array Slot} (hL : pm_L ad nL L ls) (h : ∀ i, i < n ∨ 1000 ≤ i → ad' i = ad i) (hv : pm_okL n L = true) : pm_L ad' nL L ls := by
  refine ⟨hL.1, hL.2.1, hL.2.2.1, fun i v hi => ?_⟩
  have h1 := List.all_eq_true.mp hv (some v) (List.mem_of_getElem? hi)
  rw [pm_v_ext h h1]
  exact hL.2.2.2 i v hi
theorem pm_e_ext {n : Nat} {cA : Nat → ClassId} {ad ad' : Nat → Nat} {x : pm_C} (h : ∀ i, i < n ∨ 1000 ≤ i → ad' i = ad i) (hv : pm_okc n x = true) : pm_e cA ad' x = pm_e cA ad x := by
  rcases x with ⟨t, k, f⟩ | o | l | o
  · rfl
  · rfl
  · show (Sum.inl (cA 3, l.length, .inr (.inr (.inr (.inr (fun j => (l[j]?.join).map ad'))))) : va_E) = Sum.inl (cA 3, l.length, .inr (.inr (.inr (.inr (fun j => (l[j]?.join).map ad)))))
    congr 7
    funext j
    cases hj : l[j]? with
    | none => rfl
    | some o =>
      cases o with
      | none => rfl
      | some i =>
        have h1 := List.all_eq_true.mp hv (some i) (List.mem_of_getElem? hj)
        show some (ad' i) = some (ad i)
        rw [h i (by simpa using h1)]
  · show (Sum.inr (o.1, o.2.map (pm_v ad')) : va_E) = Sum.inr (o.1, o.2.map (pm_v ad))
    rw [pm_map_ext h hv]
theorem pm_ws_new {cA : Nat → ClassId} {ad : Nat → Nat} {z : pm_Z} {q k : Nat} {x : pm_C} (hn : z.2.1 < 1000) (hz : pm_okh z = true) (hx : pm_okc z.2.1 x = true) : pm_ws cA (va_up ad z.2.1 q) (pm_new z x k) = pm_ws cA ad z ++ [(q, pm_e cA ad x)] := by
  have hext : ∀ i, i < z.2.1 ∨ 1000 ≤ i → va_up ad z.2.1 q i = ad i := fun i hi => by
    unfold va_up
    rw [if_neg (by omega)]
  unfold pm_ws
  show ((List.range (z.2.1 + 1)).map _) = _
  rw [List.range_succ, List.map_append]
  congr 1
  · refine List.map_congr_left fun i hi => ?_
    have hi : i < z.2.1 := List.mem_range.mp hi
    have h1 : (pm_new z x k).1 i = z.1 i := by
      show va_up z.1 z.2.1 x i = _
      unfold va_up
      rw [if_neg (by omega)]
    rw [h1, hext i (Or.inl hi), pm_e_ext hext (List.all_eq_true.mp hz i (List.mem_range.mpr hi))]
  · show [(va_up ad z.2.1 q z.2.1, pm_e cA (va_up ad z.2.1 q) (va_up z.1 z.2.1 x z.2.1))] = _
    have e1 : va_up ad z.2.1 q z.2.1 = q := by unfold va_up; rw [if_pos rfl]
    have e2 : va_up z.1 z.2.1 x z.2.1 = x := by unfold va_up; rw [if_pos rfl]
    rw [e1, e2, pm_e_ext hext hx]
/-- a thing made: what its kind's words say -/
def pm_okn (cl : List vw_C) (tbl : List Cond) (own : String) (idx : Nat) (o : Nat × List Value) : Prop := ∃ (C : String) (T : u_T) (N : Nat) (ty : Nat → FieldType), cl[o.1]? = some (C, T, N) ∧ o.2.length = N ∧ (∀ w ∈ u_ws C T N, w ∈ tbl) ∧ Cond.classLink own idx C ∈ tbl ∧ Cond.instantiable C N ∈ tbl ∧ Cond.initialized C ∈ tbl ∧ (∀ k, k < N → parseFieldDescriptor (T k).2.2.1 = some (ty k)) ∧ (∀ j, j < N → defaultValue (ty j) = vp_V o.2 j) ∧ o.2.all (pm_okv 0) = true ∧ ∀ v ∈ o.2, ∀ ad, pm_v ad v = v
theorem pm_okv_mono {n k : Nat} (h : n ≤ k) {v : Value} (hv : pm_okv n v = true) : pm_okv k v = true := by
  cases v with
  | ref i =>
    simp only [pm_okv, Bool.or_eq_true, decide_eq_true_eq] at hv ⊢
    rcases hv with q | q
    · exact Or.inl (Nat.lt_of_lt_of_le q h)
    · exact Or.inr q
  | _ => rfl
section PMN
variable {p : Program} {l : Launch} {e : Env} {R : Room} {s : State} {m : MethodId} {args : Array Value} {below : List Frame} {meth : Method} {c : Code} {H : Heap} {locs : List Loc} {cells slots : Nat} {Q : State → Prop} {cc : ByteArray} {pc nL : Nat} {L : List (Option Value)} {st : List Value} {ls : Array Slot} {ad : Nat → Nat} {i : Instr}
variable {D : va_G} {cl : List vw_C} {cA : Nat → ClassId} {NC : String} {base : Nat} {sp : Nat → Nat} {tbl : List Cond} {own : String} {cnw : Nat → Option (Nat × List Value)} {anw : Nat → Bool} {z : pm_Z}
set_option maxHeartbeats 4000000 in
theorem pm_hc_ok {r : pm_T × pm_Z} (hx : p.tables.exec = Jvm.exec) (hb : c.code = cc) (hown : s.vm.findClass own = some m.cls) (hts : ∀ w ∈ tbl, w.before args s = true) (hd : pm_dec cc pc i) (hL : pm_L ad nL L ls)
    (hK : va_K D cl (pm_tys cA NC) s) (hR : pm_R D cl cA base sp ad z H) (hS : va_S (fun q : Nat => base ≤ q) s.heap H locs) (hXs : base ≤ s.heap.size)
    (hN : ∀ idx o, cnw idx = some o → pm_okn cl tbl own idx o) (hA1 : Cond.arrayClass .int ∈ tbl) (hA2 : Cond.arrayClass .boolean ∈ tbl) (hA3 : Cond.arrayClass .long ∈ tbl) (hAq : ∀ idx, anw idx = true → Cond.classLink own idx NC ∈ tbl) (hAO : va_AO NC s)
    (h : pm_hc cnw anw i pc L st z = some r) (hc1 : cells + r.2.2.2.1 ≤ R.cells + z.2.2.1) (hs1 : slots + r.2.2.2.2 ≤ R.slots + z.2.2.2)
    (k : ∀ (ad' : Nat → Nat) (H1 : Heap) (c1 s1 : Nat), c1 + z.2.2.1 = cells + r.2.2.2.1 → s1 + z.2.2.2 = slots + r.2.2.2.2 → (∀ i, i < z.2.1 ∨ 1000 ≤ i → ad' i = ad i) → pm_R D cl cA base sp ad' r.2 H1 → va_S (fun q : Nat => base ≤ q) s.heap H1 locs → pm_L ad' nL r.1.2.1 ls → W p l e R s m args below meth c H1 locs c1 s1 Q (F0 m r.1.1 ls (r.1.2.2.map (pm_v ad')))) : W p l e R s m args below meth c H locs cells slots Q (F0 m pc ls (st.map (pm_v ad))) := by
  obtain ⟨hP, hD, hA, hn⟩ := hR
  have hAA : ∀ q : Nat, s.heap.size ≤ q → (fun q : Nat => base ≤ q) q := fun q hq => Nat.le_trans hXs hq
  replace h := pm_hc_some h
  unfold pm_hc0 at h
  split at h
  · next hok =>
    obtain ⟨ok1, ok2, ok3, ok4⟩ := hok
    have hext : ∀ q : Nat, ∀ i, i < z.2.1 ∨ 1000 ≤ i → va_up ad z.2.1 q i = ad i := fun q i hi => by
      unfold va_up
      rw [if_neg (by omega)]
    have hnx : ∀ q : Nat, pm_v (va_up ad z.2.1 q) (.ref z.2.1) = .ref q := fun q => by
      show Value.ref (va_up ad z.2.1 q z.2.1) = _
      unfold va_up
      rw [if_pos rfl]
    have hAd : ∀ q : Nat, ∀ i, 1000 ≤ i → va_up ad z.2.1 q i = sp i := fun q i hi => by rw [hext q i (Or.inr hi)]; exact hA i hi
    split at h
    · next t =>
      split at h
      · next n r0 =>
        split at h
        · cases h
        · next hnn =>
          have h0 : ¬ n < 0 := fun q => hnn (Or.inl q)
          have h9 : n.toNatClampNeg ≤ 100000 := Nat.not_lt.mp fun q => hnn (Or.inr q)
          have ok5 : r0.all (pm_okv z.2.1) = true := by
            simp only [List.all_cons, Bool.and_eq_true] at ok3
            exact ok3.2
          split at h
          · cases h
            refine va_newa (D := D) (atype := .int) (ty := .int) (a0 := (n.toNatClampNeg, .inl fun _ => 0)) hx hb (hts _ hA1) rfl hK hP hD hS hAA (fun cA => rfl) h0 rfl (by show n.toNatClampNeg * 4 ≤ _; omega) (by simp [pm_new] at hc1; omega) (by simp [pm_new] at hs1; omega) (hd.of (by simp [pm_len])) (fun q cB H1 hK1 hP1 hD1 hS1 => ?_)
            have ec : cB = cA 0 := Option.some.inj ((hK1.2 4 _ rfl).2.symm.trans (hK.2 0 _ rfl).2)
            subst ec
            have ew := pm_ws_new (cA := cA) (ad := ad) (q := q) (k := n.toNatClampNeg) (x := .inl (0, n.toNatClampNeg, fun _ => 0)) ok1 ok4 rfl
            have kk := k (va_up ad z.2.1 q) H1 (cells + 1) (slots + n.toNatClampNeg) (by simp [pm_new]; omega) (by simp [pm_new]; omega) (hext q) ⟨by rw [ew]; exact hP1, by rw [ew]; exact hD1, hAd q, ok1⟩ hS1 (hL.ext (hext q) ok2)
            simp only [List.map_cons, hnx, pm_map_ext (hext q) ok5] at kk
            exact kk
          · cases h
            refine va_newa (D := D) (atype := .boolean) (ty := .boolean) (a0 := (n.toNatClampNeg, .inl fun _ => 0)) hx hb (hts _ hA2) rfl hK hP hD hS hAA (fun cA => rfl) h0 rfl (by show n.toNatClampNeg * 1 ≤ _; omega) (by simp [pm_new] at hc1; omega) (by simp [pm_new] at hs1; omega) (hd.of (by simp [pm_len])) (fun q cB H1 hK1 hP1 hD1 hS1 => ?_)
            have ec : cB = cA 1 := Option.some.inj ((hK1.2 4 _ rfl).2.symm.trans (hK.2 1 _ rfl).2)
            subst ec
            have ew := pm_ws_new (cA := cA) (ad := ad) (q := q) (k := n.toNatClampNeg) (x := .inl (1, n.toNatClampNeg, fun _ => 0)) ok1 ok4 rfl
            have kk := k (va_up ad z.2.1 q) H1 (cells + 1) (slots + n.toNatClampNeg) (by simp [pm_new]; omega) (by simp [pm_new]; omega) (hext q) ⟨by rw [ew]; exact hP1, by rw [ew]; exact hD1, hAd q, ok1⟩ hS1 (hL.ext (hext q) ok2)
            simp only [List.map_cons, hnx, pm_map_ext (hext q) ok5] at kk
            exact kk
          · cases h
            refine va_newa (D := D) (atype := .long) (ty := .long) (a0 := (n.toNatClampNeg, .inr (.inl fun _ => 0))) hx hb (hts _ hA3) rfl hK hP hD hS hAA (fun cA => rfl) h0 rfl (by show n.toNatClampNeg * 8 ≤ _; omega) (by simp [pm_new] at hc1; omega) (by simp [pm_new] at hs1; omega) (hd.of (by simp [pm_len])) (fun q cB H1 hK1 hP1 hD1 hS1 => ?_)
            have ec : cB = cA 2 := Option.some.inj ((hK1.2 4 _ rfl).2.symm.trans (hK.2 2 _ rfl).2)
            subst ec
            have ew := pm_ws_new (cA := cA) (ad := ad) (q := q) (k := n.toNatClampNeg) (x := .inr (.inl (n.toNatClampNeg, fun _ => 0))) ok1 ok4 rfl
            have kk := k (va_up ad z.2.1 q) H1 (cells + 1) (slots + n.toNatClampNeg) (by simp [pm_new]; omega) (by simp [pm_new]; omega) (hext q) ⟨by rw [ew]; exact hP1, by rw [ew]; exact hD1, hAd q, ok1⟩ hS1 (hL.ext (hext q) ok2)
            simp only [List.map_cons, hnx, pm_map_ext (hext q) ok5] at kk
            exact kk
          · cases h
      · cases h
    · next idx =>
      split at h
      · next n r0 =>
        split at h
        · cases h
        · next hnn =>
          have h0 : ¬ n < 0 := fun q => hnn (Or.inl q)
          have h9 : n.toNatClampNeg ≤ 100000 := Nat.not_lt.mp fun q => hnn (Or.inr (Or.inl q))
          have hw : anw idx = true := by
            cases hq : anw idx with
            | true => rfl
            | false => exact absurd (Or.inr (Or.inr hq)) hnn
          have ok5 : r0.all (pm_okv z.2.1) = true := by
            simp only [List.all_cons, Bool.and_eq_true] at ok3
            exact ok3.2
          cases h
          refine va_newq (D := D) hx hb hown (hts _ (hAq _ hw)) hAO hK hP hD hS hAA h0 rfl (by omega) (by simp [pm_new] at hc1; omega) (by simp [pm_new] at hs1; omega) (hd.of (by simp [pm_len])) (fun q cB H1 hK1 hP1 hD1 hS1 => ?_)
          have ec : cB = cA 3 := by
            obtain ⟨k1, c1, -, -, -, g1⟩ := (hK1.2 4 _ rfl).2
            obtain ⟨k2, c2, -, -, -, g2⟩ := (hK.2 3 _ rfl).2
            exact Option.some.inj (g1.symm.trans g2)
          subst ec
          have ee : (pm_e cA ad (.inr (.inr (.inl (List.replicate n.toNatClampNeg none)))) : va_E) = .inl (cA 3, n.toNatClampNeg, .inr (.inr (.inr (.inr (fun _ => none))))) := by
            show (Sum.inl (cA 3, (List.replicate n.toNatClampNeg (none : Option Nat)).length, .inr (.inr (.inr (.inr (fun j => ((List.replicate n.toNatClampNeg (none : Option Nat))[j]?.join).map ad))))) : va_E) = _
            rw [List.length_replicate]
            congr 7
            funext j
            rw [List.getElem?_replicate]
            split <;> rfl
          have ew := pm_ws_new (cA := cA) (ad := ad) (q := q) (k := n.toNatClampNeg) (x := .inr (.inr (.inl (List.replicate n.toNatClampNeg none)))) ok1 ok4 (by simp [pm_okc])
          rw [ee] at ew
          have kk := k (va_up ad z.2.1 q) H1 (cells + 1) (slots + n.toNatClampNeg) (by simp [pm_new]; omega) (by simp [pm_new]; omega) (hext q) ⟨by rw [ew]; exact hP1, by rw [ew]; exact hD1, hAd q, ok1⟩ hS1 (hL.ext (hext q) ok2)
          simp only [List.map_cons, hnx, pm_map_ext (hext q) ok5] at kk
          exact kk
      · cases h
    · next idx =>
      obtain ⟨o, ho, e⟩ := Option.map_eq_some_iff.mp h
      cases e
      obtain ⟨C, T, N, ty, g1, g2, g3, g4, g5, g6, g7, g8, g9, g10⟩ := hN _ _ ho
      have ef : o.2.map (pm_v ad) = o.2 := by
        conv => rhs; rw [← List.map_id o.2]
        exact List.map_congr_left fun v hv => g10 v hv ad
      refine va_new (D := D) (ci := o.1) (fs := o.2) (C := C) (T := T) (N := N) hx hb hts g3 ty g7 hown (hts _ g4) (hts _ g5) (hts _ g6) hK hP hD hS hAA g1 g8 (by simp [pm_new] at hc1; omega) (by simp [pm_new] at hs1; omega) (hd.of (by simp [pm_len])) (fun q H1 hP1 hD1 hS1 => ?_)
      have ew := pm_ws_new (cA := cA) (ad := ad) (q := q) (k := o.2.length) (x := .inr (.inr (.inr o))) ok1 ok4 (by
        show o.2.all (pm_okv z.2.1) = true
        exact List.all_eq_true.mpr fun v hv => pm_okv_mono (Nat.zero_le _) (List.all_eq_true.mp g9 v hv))
      have ee : (pm_e cA ad (.inr (.inr (.inr o))) : va_E) = .inr (o.1, o.2) := by
        show (Sum.inr (o.1, o.2.map (pm_v ad)) : va_E) = _
        rw [ef]
      rw [ee] at ew
      have kk := k (va_up ad z.2.1 q) H1 (cells + 1) (slots + N) (by simp [pm_new]; omega) (by simp [pm_new]; omega) (hext q) ⟨by rw [ew]; exact hP1, by rw [ew]; exact hD1, hAd q, ok1⟩ hS1 (hL.ext (hext q) ok2)
      simp only [List.map_cons, hnx, pm_map_ext (hext q) ok3] at kk
      exact kk
    · cases h
  · cases h
end PMN
