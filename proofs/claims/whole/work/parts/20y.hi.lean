theorem pm_pop_ex {α : Type} {n : Nat} {st : List Value} {k : List Value → List Value → Option α} {r : α} (h : pm_pop n st k = some r) : ∃ As rest, st = As.reverse ++ rest ∧ As.length = n ∧ k As rest = some r := by
  obtain ⟨h1, h2⟩ := pm_pop_some h
  obtain ⟨h3, h4⟩ := pm_take h1
  exact ⟨_, _, h3, h4, h2⟩
theorem pm_back_st {z z' : pm_Z} {ad ad' : Nat → Nat} {v : Option Value} {rest : List Value} (h : pm_ex z z' ad ad') (hc : z'.2.1 = z.2.1 ∨ rest.all (pm_okv z.2.1) = true) : (v.toList ++ rest).map (pm_v ad') = (v.map (pm_v ad')).toList ++ rest.map (pm_v ad) := by
  rw [List.map_append, h.step hc]
  cases v <;> rfl
section PMY
variable {p : Program} {l : Launch} {e : Env} {R : Room} {s : State} {m : MethodId} {args : Array Value} {below : List Frame} {meth : Method} {c : Code} {H : Heap} {locs : List Loc} {cells slots : Nat} {Q : State → Prop} {pc : Nat} {L : List (Option Value)} {st : List Value} {ls : Array Slot} {ad : Nat → Nat} {i : Instr}
variable {D : va_G} {cl : List vw_C} {cA : Nat → ClassId} {NC : String} {base net : Nat} {sp : Nat → Nat} {sc : Nat × (Nat → Int32)} {tbl xw : List Cond} {strs : List (String × Nat × String × Nat)} {P : Nat → Option pm_M} {nm : Nat → MethodName} {bs : Nat → ByteArray} {rt : Nat → Option FieldType} {d : Nat} {F : pm_F} {M : pm_M} {x0 : Cond} {cc : ByteArray} {own : String} {z : pm_Z} {g : pm_G} {nL : Nat}
set_option maxHeartbeats 8000000 in
theorem pm_hi_ok (hx : pm_warm xw) (hFl : pm_Fle F)
    (hF : ∀ (y' : Nat) (M' : pm_M) (vs : List Value) (z : pm_Z) (o : pm_O) (z' : pm_Z), P y' = some M' → F y' vs z = some (o, z') → ∀ ad, pm_Met l D cl cA NC base sp sc tbl xw strs d (nm y') (bs y') (pm_mL M') (rt y') vs z o z' ad)
    (hFix : pm_Fix p R s m args c cc nL tbl x0 own d) (hmm : ∀ idx q, pm_mm M idx = some q → q.1 = 4 ∨ pm_okm cl tbl xw P nm bs rt own idx q) (h40 : ∀ idx id n x, pm_mm M idx = some (4, id, n, x) → ∀ vs z v z', F id vs z = some (.inl v, z') → ∃ mL hh, pm_ok4 tbl own idx (nm id) (bs id) mL (rt id) hh n ∧ ∀ ad, pm_Met4 l D cl cA NC base sp sc tbl xw strs d (nm id) (bs id) mL (rt id) hh vs z v z' ad) (hmh : ∀ pc E, pm_mh M pc E = none)
    (hb : base ≤ s.heap.size) (hK : va_K D cl (pm_tys cA NC) s) (hSp : pm_Sp NC base sp sc xw strs s s.heap) (hR : pm_R D cl cA base sp ad z H) (hS : va_S (fun q : Nat => base ≤ q) s.heap H locs) (hL : pm_L ad nL L ls) (hd : pm_dec cc pc i)
    (h : pm_hi F M i pc L st z = some g) (hc : cells + (pm_gz g).2.2.1 ≤ R.cells + z.2.2.1) (hs : slots + (pm_gz g).2.2.2 ≤ R.slots + z.2.2.2)
    (k : ∀ r, g = .inl r → ∀ (ad' : Nat → Nat) (H1 : Heap) (locs1 : List Loc) (c1 s1 : Nat), c1 + z.2.2.1 = cells + r.2.2.2.1 → s1 + z.2.2.2 = slots + r.2.2.2.2 → pm_ex z r.2 ad ad' → pm_R D cl cA base sp ad' r.2 H1 → va_S (fun q : Nat => base ≤ q) s.heap H1 locs1 → pm_L ad' nL r.1.2.1 ls → W p l e R s m args below meth c H1 locs1 c1 s1 Q (F0 m r.1.1 ls (r.1.2.2.map (pm_v ad'))))
    (kx : ∀ E z1, g = .inr (.inr E, z1) → ∀ (q : Addr) (ce : Cell) (ad' : Nat → Nat) (H1 : Heap) (locs1 : List Loc) (c1 s1 : Nat) (rest : List Value), c1 + z.2.2.1 = cells + z1.2.2.1 → s1 + z.2.2.2 = slots + z1.2.2.2 → pm_ex z z1 ad ad' → pm_R D cl cA base sp ad' z1 H1 → va_S (fun q : Nat => base ≤ q) s.heap H1 locs1 → H1[q]? = some ce → ce.vm = .none → s.vm.findClass E = some ce.cls → vx_W p l e R s m args below meth c H1 locs1 c1 s1 Q (F0 m pc ls rest) q) :
    W p l e R s m args below meth c H locs cells slots Q (F0 m pc ls (st.map (pm_v ad))) := by
  have hx0 := hFix.1.1
  have hbc := hFix.1.2.1
  have hml := hFix.1.2.2.1
  have hown := hFix.1.2.2.2.1
  have hts : ∀ w ∈ tbl, w.before args s = true := fun w hw => hFix.1.2.2.2.2 w (List.mem_cons_of_mem _ hw)
  have hf1 := hFix.2.2.1
  have hf2 := hFix.2.2.2
  have hmls : c.maxLocals = ls.size := hml.trans hL.1.symm
  have hcat : ∀ rest : List Value, ((rest.map (pm_v ad)).map fun v => v.category).sum = pm_cat rest := fun rest => by
    unfold pm_cat
    rw [List.map_map]
    congr 1
    exact List.map_congr_left fun v _ => pm_v_cat ad v
  unfold pm_hi at h
  split at h
  · split at h
    · next yid n x9 hq =>
      obtain ⟨As, rest, rfl, hlen, hh⟩ := pm_pop_ex h
      have hm := (hmm _ _ hq).resolve_left (fun q4 => absurd (show (0 : Nat) = 4 from q4) (by decide))
      unfold pm_okm at hm
      rcases hm with q | q | q | q | q | q | q | q | q | q | q | q | q
      · obtain ⟨-, M', g1, g2, g3, g4⟩ := q
        obtain ⟨o, z1, hf, hcnd, hcr, h4⟩ := pm_beh_some hh
        have hle := hFl _ _ _ _ _ hf
        have hl1 := hle.2.1
        have hl2 := hle.2.2
        have hz : pm_gz g = z1 := by rcases h4 with ⟨v, -, rfl⟩ | ⟨E, x, -, -, rfl⟩ | ⟨E, -, -, rfl⟩ <;> rfl
        rw [hz] at hc hs
        refine pm_callS hFix g2 g3 g4 hx hb hK hR hS hSp hlen hL.1 hcr (hd.of (by simp [pm_len])) hle hc hs (hF _ M' _ _ _ _ g1 hf ad) (fun v ad' H1 locs1 e1 b1 b2 b3 => ?_) (fun E q ce ad' H1 locs1 e1 b1 b2 b3 b4 b5 b6 => ?_)
        · rcases h4 with ⟨v9, e9, e10⟩ | ⟨E, x, e9, -, -⟩ | ⟨E, e9, -, -⟩
          · cases e1.symm.trans e9
            have kk := k _ e10 ad' H1 locs1 (cells + (z1.2.2.1 - z.2.2.1)) (slots + (z1.2.2.2 - z.2.2.2)) (by show _ = cells + z1.2.2.1; omega) (by show _ = slots + z1.2.2.2; omega) b1 b2 b3 (b1.stepL hL (hcnd.imp id And.left))
            rw [← pm_back_st b1 (hcnd.imp id And.right)]
            exact kk
          · cases e1.symm.trans e9
          · cases e1.symm.trans e9
        · rcases h4 with ⟨v9, e9, e10⟩ | ⟨E, x, e9, e10, -⟩ | ⟨E9, e9, -, e10⟩
          · cases e1.symm.trans e9
          · rw [hmh] at e10; cases e10
          · cases e1.symm.trans e9
            exact kx _ z1 e10 q ce ad' H1 locs1 (cells + (z1.2.2.1 - z.2.2.1)) (slots + (z1.2.2.2 - z.2.2.2)) _ (by omega) (by omega) b1 b2 b3 b4 b5 b6
      · exact absurd (show (0 : Nat) = 5 from q.1) (by decide)
      · exact absurd (show (0 : Nat) = 1 from q.1) (by decide)
      · exact absurd (show (0 : Nat) = 2 from q.1) (by decide)
      · exact absurd (show (0 : Nat) = 3 from q.1) (by decide)
      · exact absurd (show (0 : Nat) = 10 from q.1) (by decide)
      · exact absurd (show (0 : Nat) = 11 from q.1) (by decide)
      · exact absurd (show (0 : Nat) = 12 from q.1) (by decide)
      · exact absurd (show (0 : Nat) = 13 from q.1) (by decide)
      · exact absurd (show (0 : Nat) = 14 from q.1) (by decide)
      · exact absurd (show (0 : Nat) = 15 from q.1) (by decide)
      · exact absurd (show (0 : Nat) = 16 from q.1) (by decide)
      · exact absurd (show (0 : Nat) = 17 from q.1) (by decide)
    · next yid n x9 hq =>
      obtain ⟨As, rest, rfl, hlen, hh⟩ := pm_pop_ex h
      have hm := (hmm _ _ hq).resolve_left (fun q4 => absurd (show (5 : Nat) = 4 from q4) (by decide))
      unfold pm_okm at hm
      rcases hm with q | q | q | q | q | q | q | q | q | q | q | q | q
      · exact absurd (show (5 : Nat) = 0 from q.1) (by decide)
      · obtain ⟨-, M', host, g1, g2, g3, g4⟩ := q
        obtain ⟨o, z1, hf, hcnd, hcr, h4⟩ := pm_beh_some hh
        obtain ⟨hf, v, rfl⟩ := pm_only_some hf
        have hle := hFl _ _ _ _ _ hf
        have hl1 := hle.2.1
        have hl2 := hle.2.2
        have hz : pm_gz g = z1 := by rcases h4 with ⟨v, -, rfl⟩ | ⟨E, x, -, -, rfl⟩ | ⟨E, -, -, rfl⟩ <;> rfl
        rw [hz] at hc hs
        refine pm_callSN hFix g2 g3 g4 hx hb hK hR hS hSp hlen hL.1 hcr (hd.of (by simp [pm_len])) hle hc hs (hF _ M' _ _ _ _ g1 hf ad) (fun ad' H1 locs1 b1 b2 b3 => ?_)
        rcases h4 with ⟨v9, e9, e10⟩ | ⟨E, x, e9, -, -⟩ | ⟨E, e9, -, -⟩
        · cases e9
          have kk := k _ e10 ad' H1 locs1 (cells + (z1.2.2.1 - z.2.2.1)) (slots + (z1.2.2.2 - z.2.2.2)) (by show _ = cells + z1.2.2.1; omega) (by show _ = slots + z1.2.2.2; omega) b1 b2 b3 (b1.stepL hL (hcnd.imp id And.left))
          rw [← pm_back_st b1 (hcnd.imp id And.right)]
          exact kk
        · cases e9
        · cases e9
      · exact absurd (show (5 : Nat) = 1 from q.1) (by decide)
      · exact absurd (show (5 : Nat) = 2 from q.1) (by decide)
      · exact absurd (show (5 : Nat) = 3 from q.1) (by decide)
      · exact absurd (show (5 : Nat) = 10 from q.1) (by decide)
      · exact absurd (show (5 : Nat) = 11 from q.1) (by decide)
      · exact absurd (show (5 : Nat) = 12 from q.1) (by decide)
      · exact absurd (show (5 : Nat) = 13 from q.1) (by decide)
      · exact absurd (show (5 : Nat) = 14 from q.1) (by decide)
      · exact absurd (show (5 : Nat) = 15 from q.1) (by decide)
      · exact absurd (show (5 : Nat) = 16 from q.1) (by decide)
      · exact absurd (show (5 : Nat) = 17 from q.1) (by decide)
    · next yid n x9 hq =>
      obtain ⟨As, rest, rfl, hlen, hh⟩ := pm_pop_ex h
      obtain ⟨o, z1, hf, hcnd, hcr, h4⟩ := pm_beh_some hh
      obtain ⟨hf, v, rfl⟩ := pm_only_some hf
      have hle := hFl _ _ _ _ _ hf
      have hl1 := hle.2.1
      have hl2 := hle.2.2
      have hz : pm_gz g = z1 := by rcases h4 with ⟨v, -, rfl⟩ | ⟨E, x, -, -, rfl⟩ | ⟨E, -, -, rfl⟩ <;> rfl
      rw [hz] at hc hs
      obtain ⟨mL, hh4, g2, g3⟩ := h40 _ _ _ _ hq _ _ _ _ hf
      refine pm_callSW hFix g2 hx hb hK hR hS hSp hlen hL.1 hcr (hd.of (by simp [pm_len])) hle hc hs (g3 ad) (fun ad' H1 locs1 b1 b2 b3 => ?_)
      rcases h4 with ⟨v9, e9, e10⟩ | ⟨E, x, e9, -, -⟩ | ⟨E, e9, -, -⟩
      · cases e9
        have kk := k _ e10 ad' H1 locs1 (cells + (z1.2.2.1 - z.2.2.1)) (slots + (z1.2.2.2 - z.2.2.2)) (by show _ = cells + z1.2.2.1; omega) (by show _ = slots + z1.2.2.2; omega) b1 b2 b3 (b1.stepL hL (hcnd.imp id And.left))
        rw [← pm_back_st b1 (hcnd.imp id And.right)]
        exact kk
      · cases e9
      · cases e9
    · next x8 x9 x10 hq =>
      obtain ⟨x, y, t, rfl, hh⟩ := pm_i2_some h
      split at hh
      · next hcr =>
        cases hh
        have hm := (hmm _ _ hq).resolve_left (fun q4 => absurd (show (11 : Nat) = 4 from q4) (by decide))
        unfold pm_okm at hm
        rcases hm with q | q | q | q | q | q | q | q | q | q | q | q | q
        · exact absurd (show (11 : Nat) = 0 from q.1) (by decide)
        · exact absurd (show (11 : Nat) = 5 from q.1) (by decide)
        · exact absurd (show (11 : Nat) = 1 from q.1) (by decide)
        · exact absurd (show (11 : Nat) = 2 from q.1) (by decide)
        · exact absurd (show (11 : Nat) = 3 from q.1) (by decide)
        · exact absurd (show (11 : Nat) = 10 from q.1) (by decide)
        · obtain ⟨-, g1, g2, g3, g4⟩ := q
          exact va_mmax hx0 hbc hmls hown (hts _ g1) (hts _ g2) (hts _ g3) (hts _ g4) (by omega) (by rw [hcat]; omega) (by simp only [pm_gz] at hc; omega) (by simp only [pm_gz] at hs; omega) (hd.of (by simp [pm_len])) (k _ rfl ad H locs cells slots rfl rfl (pm_ex.rf _ _ _) hR hS hL)
        · exact absurd (show (11 : Nat) = 12 from q.1) (by decide)
        · exact absurd (show (11 : Nat) = 13 from q.1) (by decide)
        · exact absurd (show (11 : Nat) = 14 from q.1) (by decide)
        · exact absurd (show (11 : Nat) = 15 from q.1) (by decide)
        · exact absurd (show (11 : Nat) = 16 from q.1) (by decide)
        · exact absurd (show (11 : Nat) = 17 from q.1) (by decide)
      · cases hh
    · next x8 x9 x10 hq =>
      obtain ⟨x, y, t, rfl, hh⟩ := pm_i2_some h
      split at hh
      · next hcr =>
        cases hh
        have hm := (hmm _ _ hq).resolve_left (fun q4 => absurd (show (12 : Nat) = 4 from q4) (by decide))
        unfold pm_okm at hm
        rcases hm with q | q | q | q | q | q | q | q | q | q | q | q | q
        · exact absurd (show (12 : Nat) = 0 from q.1) (by decide)
        · exact absurd (show (12 : Nat) = 5 from q.1) (by decide)
        · exact absurd (show (12 : Nat) = 1 from q.1) (by decide)
        · exact absurd (show (12 : Nat) = 2 from q.1) (by decide)
        · exact absurd (show (12 : Nat) = 3 from q.1) (by decide)
        · exact absurd (show (12 : Nat) = 10 from q.1) (by decide)
        · exact absurd (show (12 : Nat) = 11 from q.1) (by decide)
        · obtain ⟨-, g1, g2, g3, g4⟩ := q
          exact va_mmin hx0 hbc hmls hown (hts _ g1) (hts _ g2) (hts _ g3) (hts _ g4) (by omega) (by rw [hcat]; omega) (by simp only [pm_gz] at hc; omega) (by simp only [pm_gz] at hs; omega) (hd.of (by simp [pm_len])) (k _ rfl ad H locs cells slots rfl rfl (pm_ex.rf _ _ _) hR hS hL)
        · exact absurd (show (12 : Nat) = 13 from q.1) (by decide)
        · exact absurd (show (12 : Nat) = 14 from q.1) (by decide)
        · exact absurd (show (12 : Nat) = 15 from q.1) (by decide)
        · exact absurd (show (12 : Nat) = 16 from q.1) (by decide)
        · exact absurd (show (12 : Nat) = 17 from q.1) (by decide)
      · cases hh
    · next x8 x9 x10 hq =>
      obtain ⟨x, t, rfl, hh⟩ := pm_i1_some h
      split at hh
      · next hcr =>
        cases hh
        have hm := (hmm _ _ hq).resolve_left (fun q4 => absurd (show (13 : Nat) = 4 from q4) (by decide))
        unfold pm_okm at hm
        rcases hm with q | q | q | q | q | q | q | q | q | q | q | q | q
        · exact absurd (show (13 : Nat) = 0 from q.1) (by decide)
        · exact absurd (show (13 : Nat) = 5 from q.1) (by decide)
        · exact absurd (show (13 : Nat) = 1 from q.1) (by decide)
        · exact absurd (show (13 : Nat) = 2 from q.1) (by decide)
        · exact absurd (show (13 : Nat) = 3 from q.1) (by decide)
        · exact absurd (show (13 : Nat) = 10 from q.1) (by decide)
        · exact absurd (show (13 : Nat) = 11 from q.1) (by decide)
        · exact absurd (show (13 : Nat) = 12 from q.1) (by decide)
        · obtain ⟨-, g1, g2, g3, g4⟩ := q
          exact va_mabs hx0 hbc hmls hown (hts _ g1) (hts _ g2) (hts _ g3) (hts _ g4) (by omega) (by rw [hcat]; omega) (by simp only [pm_gz] at hc; omega) (by simp only [pm_gz] at hs; omega) (hd.of (by simp [pm_len])) (k _ rfl ad H locs cells slots rfl rfl (pm_ex.rf _ _ _) hR hS hL)
        · exact absurd (show (13 : Nat) = 14 from q.1) (by decide)
        · exact absurd (show (13 : Nat) = 15 from q.1) (by decide)
        · exact absurd (show (13 : Nat) = 16 from q.1) (by decide)
        · exact absurd (show (13 : Nat) = 17 from q.1) (by decide)
      · cases hh
    · next x8 x9 x10 hq =>
      obtain ⟨x, y, t, rfl, hh⟩ := pm_l2_some h
      split at hh
      · next hcr =>
        cases hh
        have hm := (hmm _ _ hq).resolve_left (fun q4 => absurd (show (14 : Nat) = 4 from q4) (by decide))
        unfold pm_okm at hm
        rcases hm with q | q | q | q | q | q | q | q | q | q | q | q | q
        · exact absurd (show (14 : Nat) = 0 from q.1) (by decide)
        · exact absurd (show (14 : Nat) = 5 from q.1) (by decide)
        · exact absurd (show (14 : Nat) = 1 from q.1) (by decide)
        · exact absurd (show (14 : Nat) = 2 from q.1) (by decide)
        · exact absurd (show (14 : Nat) = 3 from q.1) (by decide)
        · exact absurd (show (14 : Nat) = 10 from q.1) (by decide)
        · exact absurd (show (14 : Nat) = 11 from q.1) (by decide)
        · exact absurd (show (14 : Nat) = 12 from q.1) (by decide)
        · exact absurd (show (14 : Nat) = 13 from q.1) (by decide)
        · obtain ⟨-, g1, g2, g3, g4⟩ := q
          exact va_mmin_long hx0 hbc hmls hown (hts _ g1) (hts _ g2) (hts _ g3) (hts _ g4) (by omega) (by rw [hcat]; omega) (by simp only [pm_gz] at hc; omega) (by simp only [pm_gz] at hs; omega) (hd.of (by simp [pm_len])) (k _ rfl ad H locs cells slots rfl rfl (pm_ex.rf _ _ _) hR hS hL)
        · exact absurd (show (14 : Nat) = 15 from q.1) (by decide)
        · exact absurd (show (14 : Nat) = 16 from q.1) (by decide)
        · exact absurd (show (14 : Nat) = 17 from q.1) (by decide)
      · cases hh
    · next x8 x9 x10 hq =>
      split at h
      · next n dp a sq b t =>
        obtain ⟨f, hf, h⟩ := Option.bind_eq_some_iff.mp h
        obtain ⟨f2, hf2, h⟩ := Option.bind_eq_some_iff.mp h
        split at h
        · next hcn =>
          cases h
          obtain ⟨c1, c2, c3, c4, c5, c6⟩ := hcn
          obtain ⟨u1, u2⟩ := pm_ia_some hf
          obtain ⟨u3, u4⟩ := pm_ia_some hf2
          have es := pm_ws_set (cA := cA) (ad := ad) (.inl (0, f2.1, va_cpy f.2 f2.2 sq.toNatClampNeg dp.toNatClampNeg n.toNatClampNeg)) u3
          have hm := (hmm _ _ hq).resolve_left (fun q4 => absurd (show (15 : Nat) = 4 from q4) (by decide))
          unfold pm_okm at hm
          rcases hm with q | q | q | q | q | q | q | q | q | q | q | q | q
          · exact absurd (show (15 : Nat) = 0 from q.1) (by decide)
          · exact absurd (show (15 : Nat) = 5 from q.1) (by decide)
          · exact absurd (show (15 : Nat) = 1 from q.1) (by decide)
          · exact absurd (show (15 : Nat) = 2 from q.1) (by decide)
          · exact absurd (show (15 : Nat) = 3 from q.1) (by decide)
          · exact absurd (show (15 : Nat) = 10 from q.1) (by decide)
          · exact absurd (show (15 : Nat) = 11 from q.1) (by decide)
          · exact absurd (show (15 : Nat) = 12 from q.1) (by decide)
          · exact absurd (show (15 : Nat) = 13 from q.1) (by decide)
          · exact absurd (show (15 : Nat) = 14 from q.1) (by decide)
          · obtain ⟨-, g1, g2, g3, g4⟩ := q
            exact va_copyi (D := D) (f := f.2) (g := f2.2) (ty := .int) hx0 hbc hmls hown (hts _ g1) (hts _ g2) (hts _ g3) (hts _ g4) hK hR.1 hR.2.1 hS b a 0 0 (pm_ws_get u1 u2) (pm_ws_get u3 u4) rfl rfl rfl c1 c2 c3 c4 c5 (fun _ _ => rfl) (by omega) (by rw [hcat]; show pm_cat t + (5 + 2 + 11) ≤ _; omega) (hd.of (by simp [pm_len])) (fun H1 locs1 hP1 hD1 hS1 => k _ rfl ad H1 locs1 cells slots rfl rfl (pm_ex.rf _ _ _) ⟨by rw [← es]; exact hP1, by rw [← es]; exact hD1, hR.2.2.1, hR.2.2.2⟩ hS1 hL)
          · exact absurd (show (15 : Nat) = 16 from q.1) (by decide)
          · exact absurd (show (15 : Nat) = 17 from q.1) (by decide)
        · cases h
      · cases h
    · cases h
  · split at h
    · next yid n ci hq =>
      obtain ⟨As, rest0, rfl, hlen, hh⟩ := pm_pop_ex h
      split at hh
      · next r rest =>
        have h9 := hh; clear hh
        obtain ⟨ob, hob, hh⟩ := Option.bind_eq_some_iff.mp h9; clear h9
        split at hh
        · next hci =>
          obtain ⟨ob1, fs⟩ := ob
          simp only at hci
          subst hci
          have hm := (hmm _ _ hq).resolve_left (fun q4 => absurd (show (1 : Nat) = 4 from q4) (by decide))
          unfold pm_okm at hm
          rcases hm with q | q | q | q | q | q | q | q | q | q | q | q | q
          · exact absurd (show (1 : Nat) = 0 from q.1) (by decide)
          · exact absurd (show (1 : Nat) = 5 from q.1) (by decide)
          · obtain ⟨-, M', T, N, g1, g2, g3, g4, g5, g6⟩ := q
            obtain ⟨o, z1, hf, hcnd, hcr, h4⟩ := pm_beh_some hh
            have hle := hFl _ _ _ _ _ hf
            have hl1 := hle.2.1
            have hl2 := hle.2.2
            have hz : pm_gz g = z1 := by rcases h4 with ⟨v, -, rfl⟩ | ⟨E, x, -, -, rfl⟩ | ⟨E, -, -, rfl⟩ <;> rfl
            rw [hz] at hc hs
            refine pm_callV (T := T) (N := N) hFix g2 g3 g4 g5 g6 hob hx hb hK hR hS hSp hlen hL.1 hcr (hd.of (by simp [pm_len])) hle hc hs (hF _ M' _ _ _ _ g1 hf ad) (fun v ad' H1 locs1 e1 b1 b2 b3 => ?_) (fun E q ce ad' H1 locs1 e1 b1 b2 b3 b4 b5 b6 => ?_)
            · rcases h4 with ⟨v9, e9, e10⟩ | ⟨E, x, e9, -, -⟩ | ⟨E, e9, -, -⟩
              · cases e1.symm.trans e9
                have kk := k _ e10 ad' H1 locs1 (cells + (z1.2.2.1 - z.2.2.1)) (slots + (z1.2.2.2 - z.2.2.2)) (by show _ = cells + z1.2.2.1; omega) (by show _ = slots + z1.2.2.2; omega) b1 b2 b3 (b1.stepL hL (hcnd.imp id And.left))
                rw [← pm_back_st b1 (hcnd.imp id And.right)]
                exact kk
              · cases e1.symm.trans e9
              · cases e1.symm.trans e9
            · rcases h4 with ⟨v9, e9, e10⟩ | ⟨E, x, e9, e10, -⟩ | ⟨E9, e9, -, e10⟩
              · cases e1.symm.trans e9
              · rw [hmh] at e10; cases e10
              · cases e1.symm.trans e9
                exact kx _ z1 e10 q ce ad' H1 locs1 (cells + (z1.2.2.1 - z.2.2.1)) (slots + (z1.2.2.2 - z.2.2.2)) _ (by omega) (by omega) b1 b2 b3 b4 b5 b6
          · exact absurd (show (1 : Nat) = 2 from q.1) (by decide)
          · exact absurd (show (1 : Nat) = 3 from q.1) (by decide)
          · exact absurd (show (1 : Nat) = 10 from q.1) (by decide)
          · exact absurd (show (1 : Nat) = 11 from q.1) (by decide)
          · exact absurd (show (1 : Nat) = 12 from q.1) (by decide)
          · exact absurd (show (1 : Nat) = 13 from q.1) (by decide)
          · exact absurd (show (1 : Nat) = 14 from q.1) (by decide)
          · exact absurd (show (1 : Nat) = 15 from q.1) (by decide)
          · exact absurd (show (1 : Nat) = 16 from q.1) (by decide)
          · exact absurd (show (1 : Nat) = 17 from q.1) (by decide)
        · cases hh
      · cases hh
    · next x8 x9 x10 hq =>
      split at h
      · next b t =>
        split at h
        · next hcn =>
          cases h
          obtain ⟨c1, c2, c3⟩ := hcn
          have hm := (hmm _ _ hq).resolve_left (fun q4 => absurd (show (16 : Nat) = 4 from q4) (by decide))
          unfold pm_okm at hm
          rcases hm with q | q | q | q | q | q | q | q | q | q | q | q | q
          · exact absurd (show (16 : Nat) = 0 from q.1) (by decide)
          · exact absurd (show (16 : Nat) = 5 from q.1) (by decide)
          · exact absurd (show (16 : Nat) = 1 from q.1) (by decide)
          · exact absurd (show (16 : Nat) = 2 from q.1) (by decide)
          · exact absurd (show (16 : Nat) = 3 from q.1) (by decide)
          · exact absurd (show (16 : Nat) = 10 from q.1) (by decide)
          · exact absurd (show (16 : Nat) = 11 from q.1) (by decide)
          · exact absurd (show (16 : Nat) = 12 from q.1) (by decide)
          · exact absurd (show (16 : Nat) = 13 from q.1) (by decide)
          · exact absurd (show (16 : Nat) = 14 from q.1) (by decide)
          · exact absurd (show (16 : Nat) = 15 from q.1) (by decide)
          · obtain ⟨-, g1, g2⟩ := q
            obtain ⟨adV, hB⟩ := hSp.2.2.2.2.2.2.2
            obtain ⟨i9, hi9, rfl⟩ := tx_ixo c1 c2
            have ea : ad (1000001 + i9) = sp (1000001 + i9) := hR.2.2.1 _ (by omega)
            have kk := k _ rfl ad H locs cells slots rfl rfl (pm_ex.rf _ _ _) hR hS hL
            rw [tx_ixs i9] at kk
            show W p l e R s m args below meth c H locs cells slots Q (F0 m pc ls (.ref (ad (1000001 + i9)) :: t.map (pm_v ad)))
            rw [ea]
            exact tx_call16 (adK := fun j => sp (1000001 + j)) hFix g1 g2 hB hS hi9 (tx_len_lt i9 hi9) hL.1 (by rw [hcat]; omega) (hd.of (by simp [pm_len])) (by simp only [pm_gz] at hc; omega) (by simp only [pm_gz] at hs; omega) kk
          · exact absurd (show (16 : Nat) = 17 from q.1) (by decide)
        · cases h
      · cases h
    · next x8 x9 x10 hq =>
      split at h
      · next x b t =>
        split at h
        · next hcn =>
          cases h
          obtain ⟨c1, c2, c3, c4, c5⟩ := hcn
          have hm := (hmm _ _ hq).resolve_left (fun q4 => absurd (show (17 : Nat) = 4 from q4) (by decide))
          unfold pm_okm at hm
          rcases hm with q | q | q | q | q | q | q | q | q | q | q | q | q
          · exact absurd (show (17 : Nat) = 0 from q.1) (by decide)
          · exact absurd (show (17 : Nat) = 5 from q.1) (by decide)
          · exact absurd (show (17 : Nat) = 1 from q.1) (by decide)
          · exact absurd (show (17 : Nat) = 2 from q.1) (by decide)
          · exact absurd (show (17 : Nat) = 3 from q.1) (by decide)
          · exact absurd (show (17 : Nat) = 10 from q.1) (by decide)
          · exact absurd (show (17 : Nat) = 11 from q.1) (by decide)
          · exact absurd (show (17 : Nat) = 12 from q.1) (by decide)
          · exact absurd (show (17 : Nat) = 13 from q.1) (by decide)
          · exact absurd (show (17 : Nat) = 14 from q.1) (by decide)
          · exact absurd (show (17 : Nat) = 15 from q.1) (by decide)
          · exact absurd (show (17 : Nat) = 16 from q.1) (by decide)
          · obtain ⟨-, g1, g2⟩ := q
            obtain ⟨adV, hB⟩ := hSp.2.2.2.2.2.2.2
            obtain ⟨i9, hi9, rfl⟩ := tx_ixo c1 c2
            obtain ⟨k9, hk9, rfl⟩ := nI_of c3
            have ea : ad (1000001 + i9) = sp (1000001 + i9) := hR.2.2.1 _ (by omega)
            have kk := k _ rfl ad H locs cells slots rfl rfl (pm_ex.rf _ _ _) hR hS hL
            rw [tx_ixs i9, nI_clamp hk9] at kk
            rw [tx_ixs i9, nI_clamp hk9] at c4
            show W p l e R s m args below meth c H locs cells slots Q (F0 m pc ls (.int (nI k9) :: .ref (ad (1000001 + i9)) :: t.map (pm_v ad)))
            rw [ea]
            exact tx_call17 (adK := fun j => sp (1000001 + j)) hFix g1 g2 hB hS hi9 c4 (tx_len_lt i9 hi9) hL.1 (by rw [hcat]; omega) (hd.of (by simp [pm_len])) (by simp only [pm_gz] at hc; omega) (by simp only [pm_gz] at hs; omega) kk
        · cases h
      · cases h
    · cases h
  · split at h
    · next yid n x9 hq =>
      obtain ⟨As, rest0, rfl, hlen, hh⟩ := pm_pop_ex h
      split at hh
      · next r rest =>
        have hm := (hmm _ _ hq).resolve_left (fun q4 => absurd (show (2 : Nat) = 4 from q4) (by decide))
        unfold pm_okm at hm
        rcases hm with q | q | q | q | q | q | q | q | q | q | q | q | q
        · exact absurd (show (2 : Nat) = 0 from q.1) (by decide)
        · exact absurd (show (2 : Nat) = 5 from q.1) (by decide)
        · exact absurd (show (2 : Nat) = 1 from q.1) (by decide)
        · obtain ⟨-, M', g1, g0, g2, g3, g4, g5⟩ := q
          obtain ⟨o, z1, hf, hcnd, hcr, h4⟩ := pm_beh_some hh
          obtain ⟨hf, v, rfl⟩ := pm_only_some hf
          have hle := hFl _ _ _ _ _ hf
          have hl1 := hle.2.1
          have hl2 := hle.2.2
          have hz : pm_gz g = z1 := by rcases h4 with ⟨v, -, rfl⟩ | ⟨E, x, -, -, rfl⟩ | ⟨E, -, -, rfl⟩ <;> rfl
          rw [hz] at hc hs
          refine pm_callI hFix g2 g3 g4 g5 hx hb hK hR hS hSp hlen hL.1 hcr (hd.of (by simp [pm_len])) hle hc hs (by have hq9 := hF _ M' _ _ _ _ g1 hf ad; rw [g0] at hq9; exact hq9) (fun ad' H1 locs1 b1 b2 b3 => ?_)
          rcases h4 with ⟨v9, e9, e10⟩ | ⟨E, x, e9, -, -⟩ | ⟨E, e9, -, -⟩
          · cases e9
            have kk := k _ e10 ad' H1 locs1 (cells + (z1.2.2.1 - z.2.2.1)) (slots + (z1.2.2.2 - z.2.2.2)) (by show _ = cells + z1.2.2.1; omega) (by show _ = slots + z1.2.2.2; omega) b1 b2 b3 (b1.stepL hL (hcnd.imp id And.left))
            rw [← pm_back_st b1 (hcnd.imp id And.right)]
            exact kk
          · cases e9
          · cases e9
        · exact absurd (show (2 : Nat) = 3 from q.1) (by decide)
        · exact absurd (show (2 : Nat) = 10 from q.1) (by decide)
        · exact absurd (show (2 : Nat) = 11 from q.1) (by decide)
        · exact absurd (show (2 : Nat) = 12 from q.1) (by decide)
        · exact absurd (show (2 : Nat) = 13 from q.1) (by decide)
        · exact absurd (show (2 : Nat) = 14 from q.1) (by decide)
        · exact absurd (show (2 : Nat) = 15 from q.1) (by decide)
        · exact absurd (show (2 : Nat) = 16 from q.1) (by decide)
        · exact absurd (show (2 : Nat) = 17 from q.1) (by decide)
      · cases hh
    · next yid n x9 hq =>
      obtain ⟨As, rest0, rfl, hlen, hh⟩ := pm_pop_ex h
      split at hh
      · next r rest =>
        have hm := (hmm _ _ hq).resolve_left (fun q4 => absurd (show (3 : Nat) = 4 from q4) (by decide))
        unfold pm_okm at hm
        rcases hm with q | q | q | q | q | q | q | q | q | q | q | q | q
        · exact absurd (show (3 : Nat) = 0 from q.1) (by decide)
        · exact absurd (show (3 : Nat) = 5 from q.1) (by decide)
        · exact absurd (show (3 : Nat) = 1 from q.1) (by decide)
        · exact absurd (show (3 : Nat) = 2 from q.1) (by decide)
        · obtain ⟨-, M', host, g1, g0, g2, g3, g4, g5⟩ := q
          obtain ⟨o, z1, hf, hcnd, hcr, h4⟩ := pm_beh_some hh
          obtain ⟨hf, v, rfl⟩ := pm_only_some hf
          have hle := hFl _ _ _ _ _ hf
          have hl1 := hle.2.1
          have hl2 := hle.2.2
          have hz : pm_gz g = z1 := by rcases h4 with ⟨v, -, rfl⟩ | ⟨E, x, -, -, rfl⟩ | ⟨E, -, -, rfl⟩ <;> rfl
          rw [hz] at hc hs
          refine pm_callIN hFix g2 g3 g4 g5 hx hb hK hR hS hSp hlen hL.1 hcr (hd.of (by simp [pm_len])) hle hc hs (by have hq9 := hF _ M' _ _ _ _ g1 hf ad; rw [g0] at hq9; exact hq9) (fun ad' H1 locs1 b1 b2 b3 => ?_)
          rcases h4 with ⟨v9, e9, e10⟩ | ⟨E, x, e9, -, -⟩ | ⟨E, e9, -, -⟩
          · cases e9
            have kk := k _ e10 ad' H1 locs1 (cells + (z1.2.2.1 - z.2.2.1)) (slots + (z1.2.2.2 - z.2.2.2)) (by show _ = cells + z1.2.2.1; omega) (by show _ = slots + z1.2.2.2; omega) b1 b2 b3 (b1.stepL hL (hcnd.imp id And.left))
            rw [← pm_back_st b1 (hcnd.imp id And.right)]
            exact kk
          · cases e9
          · cases e9
        · exact absurd (show (3 : Nat) = 10 from q.1) (by decide)
        · exact absurd (show (3 : Nat) = 11 from q.1) (by decide)
        · exact absurd (show (3 : Nat) = 12 from q.1) (by decide)
        · exact absurd (show (3 : Nat) = 13 from q.1) (by decide)
        · exact absurd (show (3 : Nat) = 14 from q.1) (by decide)
        · exact absurd (show (3 : Nat) = 15 from q.1) (by decide)
        · exact absurd (show (3 : Nat) = 16 from q.1) (by decide)
        · exact absurd (show (3 : Nat) = 17 from q.1) (by decide)
      · cases hh
    · next x8 x9 x10 hq =>
      obtain ⟨a, t, rfl, hh⟩ := pm_rf_some h
      split at hh
      · next hcr =>
        cases hh
        have hm := (hmm _ _ hq).resolve_left (fun q4 => absurd (show (10 : Nat) = 4 from q4) (by decide))
        unfold pm_okm at hm
        rcases hm with q | q | q | q | q | q | q | q | q | q | q | q | q
        · exact absurd (show (10 : Nat) = 0 from q.1) (by decide)
        · exact absurd (show (10 : Nat) = 5 from q.1) (by decide)
        · exact absurd (show (10 : Nat) = 1 from q.1) (by decide)
        · exact absurd (show (10 : Nat) = 2 from q.1) (by decide)
        · exact absurd (show (10 : Nat) = 3 from q.1) (by decide)
        · obtain ⟨-, g1, g2, g3⟩ := q
          exact W.objInit (g := F0 m pc ls ((Value.ref a :: t).map (pm_v ad))) hx0 hbc hown (hts _ g1) (hts _ g2) (hts _ g3) rfl hmls.symm rfl (hd.of (by simp [pm_len])) (by omega) (by have hq9 := hcat t; show 2 * 0 + ((t.map (pm_v ad)).map fun v => v.category).sum + 12 ≤ _; omega) (k _ rfl ad H locs cells slots rfl rfl (pm_ex.rf _ _ _) hR hS hL)
        · exact absurd (show (10 : Nat) = 11 from q.1) (by decide)
        · exact absurd (show (10 : Nat) = 12 from q.1) (by decide)
        · exact absurd (show (10 : Nat) = 13 from q.1) (by decide)
        · exact absurd (show (10 : Nat) = 14 from q.1) (by decide)
        · exact absurd (show (10 : Nat) = 15 from q.1) (by decide)
        · exact absurd (show (10 : Nat) = 16 from q.1) (by decide)
        · exact absurd (show (10 : Nat) = 17 from q.1) (by decide)
      · cases hh
    · cases h
  · cases h
end PMY
