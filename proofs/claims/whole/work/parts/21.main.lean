theorem pm_pure_ok {p : Program} {l : Launch} {e : Env} {R : Room} {s : State} {m : MethodId} {args : Array Value} {below : List Frame} {meth : Method} {c : Code} {H : Heap} {locs : List Loc} {cells slots : Nat} {Q : State → Prop} {cc : ByteArray} {pc nL : Nat} {L : List (Option Value)} {st : List Value} {ls : Array Slot} {ad : Nat → Nat} {i : Instr} {r : pm_T} (hx : p.tables.exec = Jvm.exec) (hb : c.code = cc) (hd : pm_dec cc pc i) (hL : pm_L ad nL L ls) (h : pm_pure i pc L st = some r) (k : ∀ ls' : Array Slot, pm_L ad nL r.2.1 ls' → W p l e R s m args below meth c H locs cells slots Q (F0 m r.1 ls' (r.2.2.map (pm_v ad)))) : W p l e R s m args below meth c H locs cells slots Q (F0 m pc ls (st.map (pm_v ad))) := by
  unfold pm_pure at h
  split at h
  · next t ht => cases h; exact pm_pa_ok hx hb hd hL ht k
  · split at h
    · next t ht => cases h; exact pm_pb_ok hx hb hd hL ht k
    · split at h
      · next t ht => cases h; exact pm_pc_ok hx hb hd hL ht k
      · exact pm_pd_ok hx hb hd hL h k
section PMX
variable {p : Program} {l : Launch} {e : Env} {R : Room} {s : State} {m : MethodId} {args : Array Value} {below : List Frame} {meth : Method} {c : Code} {Q : State → Prop}
variable {D : va_G} {cl : List vw_C} {cA : Nat → ClassId} {NC : String} {base net : Nat} {sp : Nat → Nat} {sc : Nat × (Nat → Int32)} {tbl xw : List Cond} {strs : List (String × Nat × String × Nat)} {P : Nat → Option pm_M} {nm : Nat → MethodName} {bs : Nat → ByteArray} {rt : Nat → Option FieldType} {d : Nat} {F : pm_F} {y : Nat} {M : pm_M} {x0 : Cond} {o : pm_O} {z' : pm_Z} {mc ms : Nat} {zz : pm_Z} {ad0 : Nat → Nat}
set_option maxHeartbeats 8000000 in
theorem pm_runs (hT : pm_okT cl NC net tbl xw) (hM : pm_okMw cl NC tbl xw strs P nm bs rt y M) (hFl : pm_Fle F)
    (hF : ∀ (y' : Nat) (M' : pm_M) (vs : List Value) (z : pm_Z) (o : pm_O) (z' : pm_Z), P y' = some M' → F y' vs z = some (o, z') → ∀ ad, pm_Met l D cl cA NC base sp sc tbl xw strs d (nm y') (bs y') (pm_mL M') (rt y') vs z o z' ad)
    (h40 : ∀ idx id n x, pm_mm M idx = some (4, id, n, x) → ∀ vs z v z', F id vs z = some (.inl v, z') → ∃ mL hh, pm_ok4 tbl (nm y).cls idx (nm id) (bs id) mL (rt id) hh n ∧ ∀ ad, pm_Met4 l D cl cA NC base sp sc tbl xw strs d (nm id) (bs id) mL (rt id) hh vs z v z' ad)
    (hC : CallFix p m c (bs y) (pm_mL M) s args (x0 :: tbl) (nm y).cls) (hR1 : d + 9 ≤ R.frames) (hR2 : 60 * d + 260 ≤ R.locals) (hmc : mc ≤ R.cells) (hms : ms ≤ R.slots)
    (hnm : meth.name = (nm y).name) (hlk : meth.locks = false) (hst : l.stackTraces = false)
    (hb : base ≤ s.heap.size) (hK : va_K D cl (pm_tys cA NC) s) (hSp : pm_Sp NC base sp sc xw strs s s.heap)
    (hRet : ∀ v, o = .inl v → ∀ (i : Instr) (pc : Nat) (ls : Array Slot) (st : List Value) (ad : Nat → Nat) (H : Heap) (locs : List Loc) (cells slots : Nat), pm_end (pm_mt M) i st v → pm_dec (bs y) pc i → pm_ex zz z' ad0 ad → pm_R D cl cA base sp ad z' H → va_S (fun q : Nat => base ≤ q) s.heap H locs → cells ≤ mc → slots ≤ ms → W p l e R s m args below meth c H locs cells slots Q (F0 m pc ls (st.map (pm_v ad))))
    (hThr : ∀ E, o = .inr E → ((∀ x ∈ c.exceptionTable.toList, False) ∧ Q = vx_MQ below (fun _ _ _ _ => False) (pm_XC D cl cA base sp ad0 zz E z') args s mc ms (fun q : Nat => base ≤ q)) ∨ ((∀ idx, pm_mx M idx = none) ∧ ∀ (i : Instr) (pc : Nat) (L : List (Option Value)) (st : List Value) (z : pm_Z) (ls : Array Slot) (q : Addr) (ce : Cell) (ad : Nat → Nat) (H : Heap) (locs : List Loc) (cells slots : Nat) (rest : List Value), pm_mi M pc = some i → pm_hi F M i pc L st z = some (.inr (.inr E, z')) → ls.size = pm_mL M → lv_wf ls → pm_ex zz z' ad0 ad → pm_R D cl cA base sp ad z' H → va_S (fun q : Nat => base ≤ q) s.heap H locs → H[q]? = some ce → ce.vm = .none → s.vm.findClass E = some ce.cls → cells ≤ mc → slots ≤ ms → vx_W p l e R s m args below meth c H locs cells slots Q (F0 m pc ls rest) q)) :
    ∀ (n : Nat) (t : pm_T) (z : pm_Z), pm_run sc net F M n t z = some (o, z') → ∀ (ad : Nat → Nat) (H : Heap) (locs : List Loc) (cells slots : Nat) (ls : Array Slot), pm_R D cl cA base sp ad z H → va_S (fun q : Nat => base ≤ q) s.heap H locs → pm_L ad (pm_mL M) t.2.1 ls → cells + z'.2.2.1 ≤ mc + z.2.2.1 → slots + z'.2.2.2 ≤ ms + z.2.2.2 → pm_le zz z → pm_ex zz z ad0 ad → W p l e R s m args below meth c H locs cells slots Q (F0 m t.1 ls (t.2.2.map (pm_v ad))) := by
  obtain ⟨hg, hxw, hxo, hA1, hA2, hA3, hnet⟩ := hT
  obtain ⟨m1, m2, m3, m4, m5, m6, m7, m8, m9, m10, m11, m12, m13⟩ := hM
  have hFix : pm_Fix p R s m args c (bs y) (pm_mL M) tbl x0 (nm y).cls d := ⟨hC, hg, hR1, hR2⟩
  obtain ⟨hx, hbc, hml, hown, hts0⟩ := hC
  have hts : ∀ w ∈ tbl, w.before args s = true := fun w hw => hts0 w (List.mem_cons_of_mem _ hw)
  intro n
  induction n with
  | zero => intro t z h; cases h
  | succ n ih =>
    intro t z h ad H locs cells slots ls hR hS hL hc hs hle hex
    obtain ⟨pc, L, st⟩ := t
    unfold pm_run at h
    split at h
    · cases h
    · next r hr =>
      have hl1 : pm_le z r.2 := pm_step_le hFl hr
      have hl2 : pm_le r.2 z' := pm_run_le hFl _ _ _ _ _ h
      have a1 := hl1.2.1
      have a2 := hl1.2.2
      have a3 := hl2.2.1
      have a4 := hl2.2.2
      obtain ⟨i, hi, h7⟩ := pm_step_some hr
      have hd := m2 pc i hi
      rcases h7 with ⟨t, h7, e7⟩ | ⟨t, h7, e7⟩ | ⟨r7, h7, e7⟩ | h7 | ⟨r7, h7, e7⟩ | h7 | h7
      · cases e7
        exact pm_pure_ok hx hbc hd hL h7 (fun ls' hL' => ih _ _ h ad H locs cells slots ls' hR hS hL' hc hs hle hex)
      · cases e7
        have eL := pm_ha_L h7
        exact pm_ha_ok (NC := NC) hx hbc hown hts hd hL hK hR hS hSp.2.1 hSp.1 hb m3 m5 m6 (fun idx a ha => by obtain ⟨q1, tx, q2⟩ := m7 idx a ha; exact ⟨q1, tx, hSp.2.2.2.2.2.2.1 _ q2⟩) h7 (ih _ _ h ad H locs cells slots ls hR hS (by rw [eL]; exact hL) hc hs hle hex) (fun _ => trivial)
      · cases e7
        have eL := pm_hb_z h7
        exact pm_hb_ok (NC := NC) hx hbc hown hts hd hK hR hS (fun idx q hq => by rw [hnm]; exact m4 idx q hq) hnet h7 (fun H1 locs1 hR1 hS1 => ih _ _ h ad H1 locs1 cells slots ls hR1 hS1 (by rw [eL.2]; exact hL) (by rw [eL.1]; exact hc) (by rw [eL.1]; exact hs) (hle.tr hl1) (hex.tr (pm_ex.rf _ _ _) hle hl1))
      · obtain ⟨idx, q, -, -, -, -, -, -, e⟩ := pm_ht_some h7
        cases e
      · cases e7
        have ex1 : ∀ ad' : Nat → Nat, (∀ i, i < z.2.1 ∨ 1000 ≤ i → ad' i = ad i) → pm_ex z r.2 ad ad' := fun ad' ha i hi => by
          obtain ⟨x, k, e⟩ := pm_hc_z h7
          rcases hi with q | q | q
          · exact ha i (Or.inl q)
          · exact ha i (Or.inr q)
          · rw [e] at q
            exact absurd q (by simp [pm_new])
        exact pm_hc_ok (NC := NC) hx hbc hown hts hd hL hK hR hS hb m8 hA1 hA2 hA3 m9 hSp.2.2.2.2.1 h7 (by omega) (by omega) (fun ad' H1 c1 s1 b1 b2 b3 b4 b5 b6 => ih _ _ h ad' H1 locs c1 s1 ls b4 b5 b6 (by omega) (by omega) (hle.tr hl1) (hex.tr (ex1 ad' b3) hle hl1))
      · refine pm_hi_ok hxw hFl hF hFix m10 h40 m12 hb hK hSp hR hS hL hd h7 (by show cells + r.2.2.2.1 ≤ _; omega) (by show slots + r.2.2.2.2 ≤ _; omega) (fun r9 e9 ad' H1 locs1 c1 s1 b1 b2 b3 b4 b5 b6 => ?_) (fun E z1 e9 => by cases e9)
        cases e9
        exact ih _ _ h ad' H1 locs1 c1 s1 ls b4 b5 b6 (by omega) (by omega) (hle.tr hl1) (hex.tr b3 hle hl1)
      · obtain ⟨v, e, -⟩ := pm_hr_some h7
        cases e
    · next r hr =>
      cases h
      have hl1 : pm_le z z' := pm_step_le hFl hr
      have a1 := hl1.2.1
      have a2 := hl1.2.2
      obtain ⟨i, hi, h7⟩ := pm_step_some hr
      have hd := m2 pc i hi
      rcases h7 with ⟨t, h7, e7⟩ | ⟨t, h7, e7⟩ | ⟨r7, h7, e7⟩ | h7 | ⟨r7, h7, e7⟩ | h7 | h7
      · cases e7
      · cases e7
      · cases e7
      · obtain ⟨idx, q, rfl, hq, rfl, hc3, hc4, hc7, e⟩ := pm_ht_some h7
        cases e
        rcases (hThr _ rfl).symm with ⟨hno, -⟩ | ⟨htab, hQ⟩
        · rw [hno] at hq; cases hq
        rw [hQ]
        obtain ⟨names, n1, n2, n3, n4, n5, n6, n7⟩ := m11 idx q hq
        refine vx_throw0 (A := fun q : Nat => base ≤ q) hx hbc hst hown n2 n3 (hts _ n4) (hts _ n5) (fun w hw => ?_) n7 hSp.2.2.1 hSp.2.2.2.1 hS (hL.1.trans hml.symm) (hd.of (by simp [pm_len])) ((m2 _ _ hc3).of (by simp [pm_len])) ((m2 _ _ hc4).of (by simp [pm_len])) ((m2 _ _ hc7).of (by simp [pm_len])) (fun x hx => False.elim (htab x hx)) (by omega) (by simp; omega) (by simp at hc; omega) (by simp at hs; omega) hlk (fun t _ hz hk => ⟨rfl, ad, ?_, ?_, ?_⟩) hS.2.2 (by simp at hc; omega) (by simp at hs; omega)
        · rcases n6 w hw with q1 | q1
          · exact hts w q1
          · exact pm_xuse (hxo w q1) (hSp.2.2.2.2.2.1 w q1)
        · exact hex.tr (pm_ex.rf _ _ _) hle hl1
        · exact ⟨hR.1.kept (fun k q2 hq2 => hk q2.1 (hR.1 k q2 hq2).lt), hR.2.1, hR.2.2.1, hR.2.2.2⟩
        · exact ⟨Nat.le_trans hS.1 hz, fun q2 h1 h2 => (hk q2 (Nat.lt_of_lt_of_le h1 hS.1)).trans (hS.2.1 q2 h1 h2)⟩
      · cases e7
      · refine pm_hi_ok hxw hFl hF hFix m10 h40 m12 hb hK hSp hR hS hL hd h7 (by show cells + z'.2.2.1 ≤ _; omega) (by show slots + z'.2.2.2 ≤ _; omega) (fun r9 e9 => by cases e9) (fun E z1 e9 q ce ad' H1 locs1 c1 s1 rest b1 b2 b3 b4 b5 b6 b7 b8 => ?_)
        cases e9
        rcases (hThr _ rfl).symm with ⟨-, hk⟩ | ⟨htab, hQ⟩
        · exact hk i pc L st z ls q ce ad' H1 locs1 c1 s1 rest hi h7 hL.1 hL.2.2.1 (hex.tr b3 hle hl1) b4 b5 b6 b7 b8 (by omega) (by omega)
        rw [hQ]
        exact vx_out (fun x hx => False.elim (htab x hx)) hlk b6 b7 b8 (fun t ht _ => ⟨rfl, ad', hex.tr b3 hle hl1, by rw [ht]; exact b4, b5.F ht⟩) b5.2.2 (by omega) (by omega)
      · obtain ⟨v, e, h8⟩ := pm_hr_some h7
        cases e
        exact hRet v rfl i pc ls st ad H locs cells slots h8 hd hex hR hS (by omega) (by omega)
end PMX
