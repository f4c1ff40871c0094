set_option maxHeartbeats 4000000 in
theorem pm_pa_ok {p : Program} {l : Launch} {e : Env} {R : Room} {s : State} {m : MethodId} {args : Array Value} {below : List Frame} {meth : Method} {c : Code} {H : Heap} {locs : List Loc} {cells slots : Nat} {Q : State → Prop} {cc : ByteArray} {pc nL : Nat} {L : List (Option Value)} {st : List Value} {ls : Array Slot} {ad : Nat → Nat} {i : Instr} {r : pm_T} (hx : p.tables.exec = Jvm.exec) (hb : c.code = cc) (hd : pm_dec cc pc i) (hL : pm_L ad nL L ls) (h : pm_pa i pc L st = some r) (k : ∀ ls' : Array Slot, pm_L ad nL r.2.1 ls' → W p l e R s m args below meth c H locs cells slots Q (F0 m r.1 ls' (r.2.2.map (pm_v ad)))) : W p l e R s m args below meth c H locs cells slots Q (F0 m pc ls (st.map (pm_v ad))) := by
  unfold pm_pa at h
  split at h
  · cases h; exact lv_iconst hx hb (hd.of (by simp [pm_len])) rfl (k _ hL)
  · cases h; exact lv_bipush hx hb (hd.of (by simp [pm_len])) rfl (k _ hL)
  · cases h; exact lv_sipush hx hb (hd.of (by simp [pm_len])) rfl (k _ hL)
  · cases h; exact lv_lconst hx hb (hd.of (by simp [pm_len])) rfl (k _ hL)
  · obtain ⟨v, hv, e⟩ := Option.map_eq_some_iff.mp h
    cases e
    obtain ⟨x, rfl, hx2⟩ := pm_ldi_some hv
    exact lv_iload_n hx hb (hd.of (by simp [pm_len])) rfl (hL.2.2.2 _ _ hx2) (k _ hL)
  · obtain ⟨v, hv, e⟩ := Option.map_eq_some_iff.mp h
    cases e
    obtain ⟨x, rfl, hx2⟩ := pm_ldi_some hv
    exact lv_iload hx hb (hd.of (by simp [pm_len])) (hL.2.2.2 _ _ hx2) (k _ hL)
  · obtain ⟨v, hv, e⟩ := Option.map_eq_some_iff.mp h
    cases e
    obtain ⟨x, rfl, hx2⟩ := pm_ldl_some hv
    exact lv_lload_n hx hb (hd.of (by simp [pm_len])) rfl (hL.2.2.2 _ _ hx2) (k _ hL)
  · obtain ⟨v, hv, e⟩ := Option.map_eq_some_iff.mp h
    cases e
    obtain ⟨x, rfl, hx2⟩ := pm_ldl_some hv
    exact lv_lload hx hb (hd.of (by simp [pm_len])) (hL.2.2.2 _ _ hx2) (k _ hL)
  · obtain ⟨v, hv, e⟩ := Option.map_eq_some_iff.mp h
    cases e
    obtain ⟨x, rfl, hx2⟩ := pm_lda_some hv
    exact lv_aload_n hx hb (hd.of (by simp [pm_len])) rfl (hL.2.2.2 _ _ hx2) (k _ hL)
  · obtain ⟨v, hv, e⟩ := Option.map_eq_some_iff.mp h
    cases e
    obtain ⟨x, rfl, hx2⟩ := pm_lda_some hv
    exact lv_aload hx hb (hd.of (by simp [pm_len])) (hL.2.2.2 _ _ hx2) (k _ hL)
  · unfold pm_sti at h
    obtain ⟨x, t, rfl, h9⟩ := pm_i1_some h
    replace h := h9; clear h9
    split at h
    · next hi =>
      cases h
      exact lv_istore_n hx hb (hd.of (by simp [pm_len])) rfl hL.has (by rw [← hL.2.1]; exact hi) rfl (fun ls' h' => k ls' (hL.sto1 (v := .int x) h'))
    · cases h
  · unfold pm_sti at h
    obtain ⟨x, t, rfl, h9⟩ := pm_i1_some h
    replace h := h9; clear h9
    split at h
    · next hi =>
      cases h
      exact lv_istore hx hb (hd.of (by simp [pm_len])) hL.has (by rw [← hL.2.1]; exact hi) rfl (fun ls' h' => k ls' (hL.sto1 (v := .int x) h'))
    · cases h
  · unfold pm_stl at h
    obtain ⟨x, t, rfl, h9⟩ := pm_l1_some h
    replace h := h9; clear h9
    split at h
    · next hi =>
      cases h
      exact lv_lstore_n hx hb (hd.of (by simp [pm_len])) rfl hL.has (by rw [← hL.2.1]; exact hi) rfl (fun ls' h' => k ls' (hL.sto2 (v := .long x) h'))
    · cases h
  · unfold pm_stl at h
    obtain ⟨x, t, rfl, h9⟩ := pm_l1_some h
    replace h := h9; clear h9
    split at h
    · next hi =>
      cases h
      exact lv_lstore hx hb (hd.of (by simp [pm_len])) hL.has (by rw [← hL.2.1]; exact hi) rfl (fun ls' h' => k ls' (hL.sto2 (v := .long x) h'))
    · cases h
  · unfold pm_sta at h
    split at h
    · next x t =>
      split at h
      · next hi =>
        cases h
        exact lv_astore_n hx hb (hd.of (by simp [pm_len])) rfl hL.has (by rw [← hL.2.1]; exact hi) rfl (fun ls' h' => k ls' (hL.sto1 (v := .ref x) h'))
      · cases h
    · cases h
  · unfold pm_sta at h
    split at h
    · next x t =>
      split at h
      · next hi =>
        cases h
        exact lv_astore hx hb (hd.of (by simp [pm_len])) hL.has (by rw [← hL.2.1]; exact hi) rfl (fun ls' h' => k ls' (hL.sto1 (v := .ref x) h'))
      · cases h
    · cases h
  · split at h
    · next kk n x e =>
      cases h
      obtain ⟨q, hq⟩ := List.mem_iff_getElem?.mp (pm_as_in (ad := ad) e)
      exact lv_iinc hx hb (hd.of (by simp [pm_len])) hL.has hq rfl (by rw [← hL.2.1]; exact (List.getElem?_eq_some_iff.mp e).1) rfl (fun ls' h' => k ls' (hL.sto1 (v := .int _) h'))
    · cases h
  · obtain ⟨v, t, rfl, h9⟩ := pm_v1_some h
    replace h := h9; clear h9
    split at h
    · next hc =>
      cases h
      exact lv_dup hx hb (hd.of (by simp [pm_len])) (by rw [pm_v_cat]; exact hc) (k _ hL)
    · cases h
  · obtain ⟨v, t, rfl, h9⟩ := pm_v1_some h
    replace h := h9; clear h9
    split at h
    · next hc =>
      cases h
      exact lv_pop hx hb (hd.of (by simp [pm_len])) (by rw [pm_v_cat]; exact hc) (k _ hL)
    · cases h
  · split at h
    · cases h; exact lv_dup2_2 hx hb (hd.of (by simp [pm_len])) rfl (k _ hL)
    · cases h; exact lv_dup2_11 hx hb (hd.of (by simp [pm_len])) rfl rfl (k _ hL)
    · cases h; exact lv_dup2_11 hx hb (hd.of (by simp [pm_len])) rfl rfl (k _ hL)
    · cases h
  · cases h
set_option maxHeartbeats 4000000 in
theorem pm_pb_ok {p : Program} {l : Launch} {e : Env} {R : Room} {s : State} {m : MethodId} {args : Array Value} {below : List Frame} {meth : Method} {c : Code} {H : Heap} {locs : List Loc} {cells slots : Nat} {Q : State → Prop} {cc : ByteArray} {pc nL : Nat} {L : List (Option Value)} {st : List Value} {ls : Array Slot} {ad : Nat → Nat} {i : Instr} {r : pm_T} (hx : p.tables.exec = Jvm.exec) (hb : c.code = cc) (hd : pm_dec cc pc i) (hL : pm_L ad nL L ls) (h : pm_pb i pc L st = some r) (k : ∀ ls' : Array Slot, pm_L ad nL r.2.1 ls' → W p l e R s m args below meth c H locs cells slots Q (F0 m r.1 ls' (r.2.2.map (pm_v ad)))) : W p l e R s m args below meth c H locs cells slots Q (F0 m pc ls (st.map (pm_v ad))) := by
  unfold pm_pb at h
  split at h
  · obtain ⟨x, y, t, rfl, h9⟩ := pm_i2_some h
    replace h := h9; clear h9
    cases h
    exact lv_iadd hx hb (hd.of (by simp [pm_len])) (k _ hL)
  · obtain ⟨x, y, t, rfl, h9⟩ := pm_i2_some h
    replace h := h9; clear h9
    cases h
    exact lv_isub hx hb (hd.of (by simp [pm_len])) (k _ hL)
  · obtain ⟨x, y, t, rfl, h9⟩ := pm_i2_some h
    replace h := h9; clear h9
    cases h
    exact lv_imul hx hb (hd.of (by simp [pm_len])) (k _ hL)
  · obtain ⟨x, y, t, rfl, h9⟩ := pm_i2_some h
    replace h := h9; clear h9
    cases h
    exact lv_iand hx hb (hd.of (by simp [pm_len])) (k _ hL)
  · obtain ⟨x, y, t, rfl, h9⟩ := pm_i2_some h
    replace h := h9; clear h9
    cases h
    exact lv_ior hx hb (hd.of (by simp [pm_len])) (k _ hL)
  · obtain ⟨x, y, t, rfl, h9⟩ := pm_i2_some h
    replace h := h9; clear h9
    cases h
    exact lv_ixor hx hb (hd.of (by simp [pm_len])) (k _ hL)
  · obtain ⟨x, y, t, rfl, h9⟩ := pm_i2_some h
    replace h := h9; clear h9
    split at h
    · cases h
    · next hy => cases h; exact lv_idiv hx hb (hd.of (by simp [pm_len])) hy (k _ hL)
  · obtain ⟨x, y, t, rfl, h9⟩ := pm_i2_some h
    replace h := h9; clear h9
    split at h
    · cases h
    · next hy => cases h; exact lv_irem hx hb (hd.of (by simp [pm_len])) hy (k _ hL)
  · obtain ⟨x, y, t, rfl, h9⟩ := pm_i2_some h
    replace h := h9; clear h9
    cases h
    exact lv_ishl hx hb (hd.of (by simp [pm_len])) (k _ hL)
  · obtain ⟨x, y, t, rfl, h9⟩ := pm_i2_some h
    replace h := h9; clear h9
    cases h
    exact lv_ishr hx hb (hd.of (by simp [pm_len])) (k _ hL)
  · obtain ⟨x, y, t, rfl, h9⟩ := pm_i2_some h
    replace h := h9; clear h9
    cases h
    exact lv_iushr hx hb (hd.of (by simp [pm_len])) rfl (k _ hL)
  · obtain ⟨x, t, rfl, h9⟩ := pm_i1_some h
    replace h := h9; clear h9
    cases h
    exact lv_ineg hx hb (hd.of (by simp [pm_len])) (k _ hL)
  · obtain ⟨x, t, rfl, h9⟩ := pm_i1_some h
    replace h := h9; clear h9
    cases h
    exact lv_i2l hx hb (hd.of (by simp [pm_len])) rfl (k _ hL)
  · obtain ⟨x, t, rfl, h9⟩ := pm_i1_some h
    replace h := h9; clear h9
    cases h
    exact lv_i2c hx hb (hd.of (by simp [pm_len])) rfl (k _ hL)
  · cases h
set_option maxHeartbeats 4000000 in
theorem pm_pc_ok {p : Program} {l : Launch} {e : Env} {R : Room} {s : State} {m : MethodId} {args : Array Value} {below : List Frame} {meth : Method} {c : Code} {H : Heap} {locs : List Loc} {cells slots : Nat} {Q : State → Prop} {cc : ByteArray} {pc nL : Nat} {L : List (Option Value)} {st : List Value} {ls : Array Slot} {ad : Nat → Nat} {i : Instr} {r : pm_T} (hx : p.tables.exec = Jvm.exec) (hb : c.code = cc) (hd : pm_dec cc pc i) (hL : pm_L ad nL L ls) (h : pm_pc i pc L st = some r) (k : ∀ ls' : Array Slot, pm_L ad nL r.2.1 ls' → W p l e R s m args below meth c H locs cells slots Q (F0 m r.1 ls' (r.2.2.map (pm_v ad)))) : W p l e R s m args below meth c H locs cells slots Q (F0 m pc ls (st.map (pm_v ad))) := by
  unfold pm_pc at h
  split at h
  · obtain ⟨x, y, t, rfl, h9⟩ := pm_l2_some h
    replace h := h9; clear h9
    cases h
    exact lv_ladd hx hb (hd.of (by simp [pm_len])) (k _ hL)
  · obtain ⟨x, y, t, rfl, h9⟩ := pm_l2_some h
    replace h := h9; clear h9
    cases h
    exact lv_lsub hx hb (hd.of (by simp [pm_len])) (k _ hL)
  · obtain ⟨x, y, t, rfl, h9⟩ := pm_l2_some h
    replace h := h9; clear h9
    cases h
    exact lv_lmul hx hb (hd.of (by simp [pm_len])) (k _ hL)
  · obtain ⟨x, y, t, rfl, h9⟩ := pm_l2_some h
    replace h := h9; clear h9
    cases h
    exact lv_land hx hb (hd.of (by simp [pm_len])) (k _ hL)
  · obtain ⟨x, y, t, rfl, h9⟩ := pm_l2_some h
    replace h := h9; clear h9
    cases h
    exact lv_lor hx hb (hd.of (by simp [pm_len])) (k _ hL)
  · obtain ⟨x, y, t, rfl, h9⟩ := pm_l2_some h
    replace h := h9; clear h9
    cases h
    exact lv_lxor hx hb (hd.of (by simp [pm_len])) (k _ hL)
  · obtain ⟨x, y, t, rfl, h9⟩ := pm_l2_some h
    replace h := h9; clear h9
    split at h
    · cases h
    · next hy => cases h; exact lv_ldiv hx hb (hd.of (by simp [pm_len])) hy (k _ hL)
  · obtain ⟨x, y, t, rfl, h9⟩ := pm_li_some h
    replace h := h9; clear h9
    cases h
    exact lv_lshl hx hb (hd.of (by simp [pm_len])) rfl (k _ hL)
  · obtain ⟨x, y, t, rfl, h9⟩ := pm_li_some h
    replace h := h9; clear h9
    cases h
    exact lv_lshr hx hb (hd.of (by simp [pm_len])) rfl (k _ hL)
  · obtain ⟨x, y, t, rfl, h9⟩ := pm_li_some h
    replace h := h9; clear h9
    cases h
    exact lv_lushr hx hb (hd.of (by simp [pm_len])) rfl (k _ hL)
  · obtain ⟨x, t, rfl, h9⟩ := pm_l1_some h
    replace h := h9; clear h9
    cases h
    exact lv_lneg hx hb (hd.of (by simp [pm_len])) (k _ hL)
  · obtain ⟨x, t, rfl, h9⟩ := pm_l1_some h
    replace h := h9; clear h9
    cases h
    exact lv_l2i hx hb (hd.of (by simp [pm_len])) rfl (k _ hL)
  · obtain ⟨x, y, t, rfl, h9⟩ := pm_l2_some h
    replace h := h9; clear h9
    cases h
    exact W.lcmp hx hb (hd.of (by simp [pm_len])) (k _ hL)
  · cases h
set_option maxHeartbeats 4000000 in
theorem pm_pd_ok {p : Program} {l : Launch} {e : Env} {R : Room} {s : State} {m : MethodId} {args : Array Value} {below : List Frame} {meth : Method} {c : Code} {H : Heap} {locs : List Loc} {cells slots : Nat} {Q : State → Prop} {cc : ByteArray} {pc nL : Nat} {L : List (Option Value)} {st : List Value} {ls : Array Slot} {ad : Nat → Nat} {i : Instr} {r : pm_T} (hx : p.tables.exec = Jvm.exec) (hb : c.code = cc) (hd : pm_dec cc pc i) (hL : pm_L ad nL L ls) (h : pm_pd i pc L st = some r) (k : ∀ ls' : Array Slot, pm_L ad nL r.2.1 ls' → W p l e R s m args below meth c H locs cells slots Q (F0 m r.1 ls' (r.2.2.map (pm_v ad)))) : W p l e R s m args below meth c H locs cells slots Q (F0 m pc ls (st.map (pm_v ad))) := by
  unfold pm_pd at h
  split at h
  · obtain ⟨t, ht, e⟩ := Option.map_eq_some_iff.mp h
    cases e
    exact lv_goto hx hb (hd.of (by simp [pm_len])) (pm_to_some ht) (k _ hL)
  · next cnd off =>
    obtain ⟨x, t, rfl, h9⟩ := pm_i1_some h
    replace h := h9; clear h9
    obtain ⟨t2, ht, h⟩ := Option.bind_eq_some_iff.mp h
    cases hq : pm_c0 cnd x with
    | true =>
      rw [hq] at h
      cases h
      cases cnd with
      | eq => exact lv_if_eq hx hb (hd.of (by simp [pm_len])) (pm_to_some ht) (fun _ => k _ hL) (fun z => absurd (of_decide_eq_true hq) z)
      | ne => exact lv_if_ne hx hb (hd.of (by simp [pm_len])) (pm_to_some ht) (fun _ => k _ hL) (fun z => absurd z (of_decide_eq_true hq))
      | lt => exact lv_if_lt hx hb (hd.of (by simp [pm_len])) (pm_to_some ht) (fun _ => k _ hL) (fun z => absurd (of_decide_eq_true hq) z)
      | ge => exact lv_if_ge hx hb (hd.of (by simp [pm_len])) (pm_to_some ht) (fun _ => k _ hL) (fun z => absurd (of_decide_eq_true hq) z)
      | gt => exact lv_if_gt hx hb (hd.of (by simp [pm_len])) (pm_to_some ht) (fun _ => k _ hL) (fun z => absurd (of_decide_eq_true hq) z)
      | le => exact lv_if_le hx hb (hd.of (by simp [pm_len])) (pm_to_some ht) (fun _ => k _ hL) (fun z => absurd (of_decide_eq_true hq) z)
    | false =>
      rw [hq] at h
      cases h
      cases cnd with
      | eq => exact lv_if_eq hx hb (hd.of (by simp [pm_len])) (pm_to_some ht) (fun z => absurd z (of_decide_eq_false hq)) (fun _ => k _ hL)
      | ne => exact lv_if_ne hx hb (hd.of (by simp [pm_len])) (pm_to_some ht) (fun z => absurd z (of_decide_eq_false hq)) (fun _ => k _ hL)
      | lt => exact lv_if_lt hx hb (hd.of (by simp [pm_len])) (pm_to_some ht) (fun z => absurd z (of_decide_eq_false hq)) (fun _ => k _ hL)
      | ge => exact lv_if_ge hx hb (hd.of (by simp [pm_len])) (pm_to_some ht) (fun z => absurd z (of_decide_eq_false hq)) (fun _ => k _ hL)
      | gt => exact lv_if_gt hx hb (hd.of (by simp [pm_len])) (pm_to_some ht) (fun z => absurd z (of_decide_eq_false hq)) (fun _ => k _ hL)
      | le => exact lv_if_le hx hb (hd.of (by simp [pm_len])) (pm_to_some ht) (fun z => absurd z (of_decide_eq_false hq)) (fun _ => k _ hL)
  · next cnd off =>
    obtain ⟨x, y, t, rfl, h9⟩ := pm_i2_some h
    replace h := h9; clear h9
    obtain ⟨t2, ht, h⟩ := Option.bind_eq_some_iff.mp h
    cases hq : pm_c2 cnd x y with
    | true =>
      rw [hq] at h
      cases h
      cases cnd with
      | eq => exact lv_icmp_eq hx hb (hd.of (by simp [pm_len])) (pm_to_some ht) (fun _ => k _ hL) (fun z => absurd (of_decide_eq_true hq) z)
      | ne => exact lv_icmp_ne hx hb (hd.of (by simp [pm_len])) (pm_to_some ht) (fun _ => k _ hL) (fun z => absurd z (of_decide_eq_true hq))
      | lt => exact lv_icmp_lt hx hb (hd.of (by simp [pm_len])) (pm_to_some ht) (fun _ => k _ hL) (fun z => absurd (of_decide_eq_true hq) z)
      | ge => exact lv_icmp_ge hx hb (hd.of (by simp [pm_len])) (pm_to_some ht) (fun _ => k _ hL) (fun z => absurd (of_decide_eq_true hq) z)
      | gt => exact lv_icmp_gt hx hb (hd.of (by simp [pm_len])) (pm_to_some ht) (fun _ => k _ hL) (fun z => absurd (of_decide_eq_true hq) z)
      | le => exact lv_icmp_le hx hb (hd.of (by simp [pm_len])) (pm_to_some ht) (fun _ => k _ hL) (fun z => absurd (of_decide_eq_true hq) z)
    | false =>
      rw [hq] at h
      cases h
      cases cnd with
      | eq => exact lv_icmp_eq hx hb (hd.of (by simp [pm_len])) (pm_to_some ht) (fun z => absurd z (of_decide_eq_false hq)) (fun _ => k _ hL)
      | ne => exact lv_icmp_ne hx hb (hd.of (by simp [pm_len])) (pm_to_some ht) (fun z => absurd z (of_decide_eq_false hq)) (fun _ => k _ hL)
      | lt => exact lv_icmp_lt hx hb (hd.of (by simp [pm_len])) (pm_to_some ht) (fun z => absurd z (of_decide_eq_false hq)) (fun _ => k _ hL)
      | ge => exact lv_icmp_ge hx hb (hd.of (by simp [pm_len])) (pm_to_some ht) (fun z => absurd z (of_decide_eq_false hq)) (fun _ => k _ hL)
      | gt => exact lv_icmp_gt hx hb (hd.of (by simp [pm_len])) (pm_to_some ht) (fun z => absurd z (of_decide_eq_false hq)) (fun _ => k _ hL)
      | le => exact lv_icmp_le hx hb (hd.of (by simp [pm_len])) (pm_to_some ht) (fun z => absurd z (of_decide_eq_false hq)) (fun _ => k _ hL)
  · next d lo hi offs =>
    obtain ⟨x, t, rfl, h9⟩ := pm_i1_some h
    replace h := h9; clear h9
    obtain ⟨len, hdd, -⟩ := hd
    cases hq : (decide (x.toInt < lo) || decide (hi < x.toInt)) with
    | true =>
      rw [hq] at h
      obtain ⟨t, ht, e⟩ := Option.map_eq_some_iff.mp h
      cases e
      exact lv_tableOut hx hb hdd (by simpa using hq) (pm_to_some ht) (k _ hL)
    | false =>
      rw [hq] at h
      simp only [cond_false] at h
      simp only [Bool.or_eq_false_iff, decide_eq_false_iff_not] at hq
      split at h
      · next off ho =>
        obtain ⟨t, ht, e⟩ := Option.map_eq_some_iff.mp h
        cases e
        exact lv_tableIn hx hb hdd hq.1 hq.2 ho (pm_to_some ht) (k _ hL)
      · cases h
  · cases h
