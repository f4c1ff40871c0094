/-! a helper of the law: a method with catches, each of which answers an int at once -/
def pm_isInv : Instr → Bool
  | .invokestatic _ => true
  | .invokevirtual _ => true
  | .invokespecial _ => true
  | _ => false
theorem pm_hi_inv {F : pm_F} {M : pm_M} {i : Instr} {pc : Nat} {L : List (Option Value)} {st : List Value} {z : pm_Z} {g : pm_G} (h : pm_hi F M i pc L st z = some g) : pm_isInv i = true := by
  unfold pm_hi at h
  split at h
  · rfl
  · rfl
  · rfl
  · cases h
/-- what the catch of E that answers x wants: the row, that the rows before pass it by, the words, the handler's code -/
def pm_okc4 (tbl xw : List Cond) (own : String) (M : pm_M) (hh : List (Nat × Nat × Nat × Nat)) (cp : Nat) (E : String) (x : Int32) : Prop :=
  ∃ (pre : List ExceptionTableEntry) (e : ExceptionTableEntry) (suf : List ExceptionTableEntry) (i1 i2 : Instr) (p2 p3 : Nat) (L2 L3 : List (Option Value)), tableOf hh = pre ++ e :: suf ∧
    (∀ y ∈ pre, y.catchType ≠ 0 ∧ ∃ n : String, Cond.classLink own y.catchType n ∈ tbl ∧ Cond.not (.castable E n) ∈ xw) ∧ covers e cp = true ∧ e.catchType ≠ 0 ∧ Cond.classLink own e.catchType E ∈ tbl ∧ Cond.castable E E ∈ xw ∧
    pm_mi M e.handlerPc = some i1 ∧ pm_pure i1 e.handlerPc (List.replicate (pm_mL M) none) [.ref 0] = some (p2, L2, []) ∧ pm_mi M p2 = some i2 ∧ pm_pure i2 p2 L2 [] = some (p3, L3, [.int x]) ∧ pm_mi M p3 = some .ireturn
section PMW
variable {l : Launch} {D : va_G} {cl : List vw_C} {cA : Nat → ClassId} {NC : String} {base net : Nat} {sp : Nat → Nat} {sc : Nat × (Nat → Int32)} {tbl xw : List Cond} {strs : List (String × Nat × String × Nat)} {P : Nat → Option pm_M} {nm : Nat → MethodName} {bs : Nat → ByteArray} {rt : Nat → Option FieldType} {d : Nat} {F : pm_F}
set_option maxHeartbeats 4000000 in
theorem pm_help {y : Nat} {M : pm_M} {hh : List (Nat × Nat × Nat × Nat)} {cp N : Nat} {vs : List Value} {z z' : pm_Z} {o : pm_O} {v : Option Value} (hT : pm_okT cl NC net tbl xw) (hM : pm_okM cl NC tbl xw strs P nm bs rt y M) (hFl : pm_Fle F)
    (hF : ∀ (y' : Nat) (M' : pm_M) (vs : List Value) (z : pm_Z) (o : pm_O) (z' : pm_Z), P y' = some M' → F y' vs z = some (o, z') → ∀ ad, pm_Met l D cl cA NC base sp sc tbl xw strs d (nm y') (bs y') (pm_mL M') (rt y') vs z o z' ad) (hst : l.stackTraces = false)
    (hmx : ∀ idx, pm_mx M idx = none) (hmt : pm_mt M = 1) (hcp : ∀ pc i, pm_mi M pc = some i → pm_isInv i = true → pc = cp) (hlen : (pm_arg vs).length ≤ pm_mL M)
    (hrun : pm_run sc net F M N (0, pm_ini (pm_mL M) vs, []) z = some (o, z'))
    (hv : o = .inl v ∨ ∃ E x, o = .inr E ∧ v = some (.int x) ∧ pm_okc4 tbl xw (nm y).cls M hh cp E x) :
    ∀ ad, pm_Met4 l D cl cA NC base sp sc tbl xw strs (d + 1) (nm y) (bs y) (pm_mL M) (rt y) hh vs z v z' ad := by
  intro ad
  have hle := pm_run_le hFl _ _ _ _ _ hrun
  have h1 := hle.2.1
  have h2 := hle.2.2
  refine va_MetW (cc := bs y) (maxL := pm_mL M) (ret := rt y) hM.1 rfl ?_
  intro p e s m args below meth c s₁ B hml hP
  obtain ⟨rfl, hb, hK, hR, hSp⟩ := hP
  have hts := atoms_spec (ws := Cond.codeWith (nm y) (bs y) (pm_mL M) (rt y) hh :: tbl) B.pre
  have hown : s.vm.findClass (nm y).cls = some m.cls := findClass_of_methodNamed B.named
  have htb : c.exceptionTable.toList = tableOf hh := vx_table (x := nm y) B (hts _ List.mem_cons_self)
  have hnm := (name_of_methodNamed B.named B.method).1
  have hok : pm_okr (pm_mt M) (rt y) := hM.2.2.2.2.2.2.2.2.2.2.2.2
  have hxo : ∀ w ∈ xw, pm_xo w = true := hT.2.2.1
  rw [lg_entry_eq]
  refine pm_runs (zz := z) (ad0 := ad) (mc := z'.2.2.1 - z.2.2.1) (ms := z'.2.2.2 - z.2.2.2) hT hM.wk hFl hF (fun idx id n x h4 => absurd (hM.2.2.2.2.2.2.2.2.2.1 _ _ h4) pm_okm.not4) ⟨B.exec, B.bytes, hml, hown, hts⟩ (by show d + 9 ≤ d + 1 + 8; omega) (by show 60 * d + 260 ≤ 60 * (d + 1) + 200; omega) (Nat.le_refl _) (Nat.le_refl _) hnm B.notSynchronized hst hb hK hSp
    (fun v9 e9 i pc ls st ad' H locs cells slots a1 a2 a3 a4 a5 a6 a7 => ?_) (fun E9 e9 => Or.inr ⟨hmx, fun i pc L st z1 ls q ce ad' H locs cells slots rest hi hhi hsz hwf a3 a4 a5 hce hcv hcl a6 a7 => ?_⟩) N _ _ hrun ad s.heap [] 0 0 _ hR va_S.rf (pm_ini_L ad hlen) (by omega) (by omega) (pm_le.rf z) (pm_ex.rf _ _ _)
  · rcases hv with rfl | ⟨E, x, rfl, -⟩
    · cases e9
      exact pm_ends B.exec B.bytes B.returns B.notSynchronized hok i pc ls st ad' H locs cells slots a1 a2 a3 a4 a5 a6 a7
    · cases e9
  · rcases hv with rfl | ⟨E, x, rfl, rfl, hc⟩
    · cases e9
    · cases e9
      obtain ⟨pre, en, suf, i1, i2, p2, p3, L2, L3, c1, c2, c3, c4, c5, c6, c7, c8, c9, c10, c11⟩ := hc
      have hpc := hcp pc i hi (pm_hi_inv hhi)
      subst hpc
      refine ow_catch hown pre en suf (htb.trans c1) (fun y9 hy9 => ?_) c3 c4 (hts _ (List.mem_cons_of_mem _ c5)) (pm_xuse (hxo _ c6) (hSp.2.2.2.2.2.1 _ c6)) hce hcv hcl ?_
      · obtain ⟨q1, n, q2, q3⟩ := c2 y9 hy9
        exact Or.inr ⟨q1, n, hts _ (List.mem_cons_of_mem _ q2), va_Nc.of (hSp.2.2.2.2.2.1 _ q3)⟩
      · have hL : pm_L (fun _ => q) (pm_mL M) (List.replicate (pm_mL M) none) ls := ⟨hsz, List.length_replicate, hwf, fun j w hw => by
          rw [List.getElem?_replicate] at hw
          split at hw <;> cases hw⟩
        refine pm_pure_ok (st := [.ref 0]) B.exec B.bytes (hM.2.1 _ _ c7) hL c8 (fun ls2 hL2 => ?_)
        refine pm_pure_ok (st := []) B.exec B.bytes (hM.2.1 _ _ c9) hL2 c10 (fun ls3 hL3 => ?_)
        exact pm_ends B.exec B.bytes B.returns B.notSynchronized hok .ireturn p3 ls3 [.int x] ad' H locs cells slots (Or.inl ⟨x, rfl, hmt, rfl, rfl⟩) (hM.2.1 _ _ c11) a3 a4 a5 a6 a7
end PMW
