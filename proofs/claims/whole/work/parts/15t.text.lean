/-! texts: the machine's own length and charAt, as calls that give a number and change nothing -/
abbrev tx_cL : ByteArray := prog_21_method_54_code
abbrev tx_cA : ByteArray := prog_21_method_56_code
abbrev tx_cC : ByteArray := prog_21_method_152_code
abbrev tx_cI : ByteArray := prog_21_method_154_code
abbrev tx_cK : ByteArray := prog_21_method_155_code
abbrev tx_cB : ByteArray := prog_22_method_2_code
abbrev tx_cP : ByteArray := prog_27_method_11_code
def tx_yL : MethodName := ⟨"java/lang/String", "length", "()I"⟩
def tx_yA : MethodName := ⟨"java/lang/String", "charAt", "(I)C"⟩
def tx_yC : MethodName := ⟨"java/lang/String", "coder", "()B"⟩
def tx_yI : MethodName := ⟨"java/lang/String", "isLatin1", "()Z"⟩
def tx_yK : MethodName := ⟨"java/lang/String", "checkIndex", "(II)V"⟩
def tx_yB : MethodName := ⟨"java/lang/StringLatin1", "charAt", "([BI)C"⟩
def tx_yP : MethodName := ⟨"jdk/internal/util/Preconditions", "checkIndex", "(IILjava/util/function/BiFunction;)I"⟩
/-- the words that these calls want -/
def tx_W : List Cond := [.code tx_yL tx_cL 1 (some .int), .code tx_yA tx_cA 2 (some .char), .code tx_yC tx_cC 1 (some .byte), .code tx_yI tx_cI 1 (some .boolean), .code tx_yK tx_cK 2 none, .code tx_yB tx_cB 2 (some .char), .code tx_yP tx_cP 3 (some .int), .initialized "java/lang/String", .initialized "java/lang/StringLatin1", .initialized "jdk/internal/util/Preconditions", .fieldLink "java/lang/String" 38 "java/lang/String" "COMPACT_STRINGS" "Z", .fieldLink "java/lang/String" 15 "java/lang/String" "coder" "B", .fieldLink "java/lang/String" 9 "java/lang/String" "value" "[B", .fieldLink "java/lang/String" 1053 "jdk/internal/util/Preconditions" "SIOOBE_FORMATTER" "Ljava/util/function/BiFunction;", .methodLink "java/lang/String" 335 tx_yC, .instanceMethod tx_yC, .selects "java/lang/String" tx_yC tx_yC, .methodLink "java/lang/String" 492 tx_yI, .instanceMethod tx_yI, .selects "java/lang/String" tx_yI tx_yI, .methodLink "java/lang/String" 495 tx_yB, .static tx_yB, .methodLink "java/lang/StringLatin1" 9 tx_yK, .static tx_yK, .methodLink "java/lang/String" 1059 tx_yP, .static tx_yP, .instanceMethod tx_yL, .selects "java/lang/String" tx_yL tx_yL, .instanceMethod tx_yA, .selects "java/lang/String" tx_yA tx_yA]
theorem tx_dL0 : decode tx_cL 0 = .ok (.aload_n 0, 1) := by decide +kernel
theorem tx_dL1 : decode tx_cL 1 = .ok (.getfield 9, 3) := by decide +kernel
theorem tx_dL4 : decode tx_cL 4 = .ok (.arraylength, 1) := by decide +kernel
theorem tx_dL5 : decode tx_cL 5 = .ok (.aload_n 0, 1) := by decide +kernel
theorem tx_dL6 : decode tx_cL 6 = .ok (.invokevirtual 335, 3) := by decide +kernel
theorem tx_dL9 : decode tx_cL 9 = .ok (.ishr, 1) := by decide +kernel
theorem tx_dL10 : decode tx_cL 10 = .ok (.ireturn, 1) := by decide +kernel
theorem tx_dC0 : decode tx_cC 0 = .ok (.getstatic 38, 3) := by decide +kernel
theorem tx_dC3 : decode tx_cC 3 = .ok (.ifCond .eq 10, 3) := by decide +kernel
theorem tx_dC6 : decode tx_cC 6 = .ok (.aload_n 0, 1) := by decide +kernel
theorem tx_dC7 : decode tx_cC 7 = .ok (.getfield 15, 3) := by decide +kernel
theorem tx_dC10 : decode tx_cC 10 = .ok (.goto 4, 3) := by decide +kernel
theorem tx_dC14 : decode tx_cC 14 = .ok (.ireturn, 1) := by decide +kernel
theorem tx_dI0 : decode tx_cI 0 = .ok (.getstatic 38, 3) := by decide +kernel
theorem tx_dI3 : decode tx_cI 3 = .ok (.ifCond .eq 14, 3) := by decide +kernel
theorem tx_dI6 : decode tx_cI 6 = .ok (.aload_n 0, 1) := by decide +kernel
theorem tx_dI7 : decode tx_cI 7 = .ok (.getfield 15, 3) := by decide +kernel
theorem tx_dI10 : decode tx_cI 10 = .ok (.ifCond .ne 7, 3) := by decide +kernel
theorem tx_dI13 : decode tx_cI 13 = .ok (.iconst 1, 1) := by decide +kernel
theorem tx_dI14 : decode tx_cI 14 = .ok (.goto 4, 3) := by decide +kernel
theorem tx_dI18 : decode tx_cI 18 = .ok (.ireturn, 1) := by decide +kernel
theorem tx_dA0 : decode tx_cA 0 = .ok (.aload_n 0, 1) := by decide +kernel
theorem tx_dA1 : decode tx_cA 1 = .ok (.invokevirtual 492, 3) := by decide +kernel
theorem tx_dA4 : decode tx_cA 4 = .ok (.ifCond .eq 12, 3) := by decide +kernel
theorem tx_dA7 : decode tx_cA 7 = .ok (.aload_n 0, 1) := by decide +kernel
theorem tx_dA8 : decode tx_cA 8 = .ok (.getfield 9, 3) := by decide +kernel
theorem tx_dA11 : decode tx_cA 11 = .ok (.iload_n 1, 1) := by decide +kernel
theorem tx_dA12 : decode tx_cA 12 = .ok (.invokestatic 495, 3) := by decide +kernel
theorem tx_dA15 : decode tx_cA 15 = .ok (.ireturn, 1) := by decide +kernel
theorem tx_dK0 : decode tx_cK 0 = .ok (.iload_n 0, 1) := by decide +kernel
theorem tx_dK1 : decode tx_cK 1 = .ok (.iload_n 1, 1) := by decide +kernel
theorem tx_dK2 : decode tx_cK 2 = .ok (.getstatic 1053, 3) := by decide +kernel
theorem tx_dK5 : decode tx_cK 5 = .ok (.invokestatic 1059, 3) := by decide +kernel
theorem tx_dK8 : decode tx_cK 8 = .ok (.pop, 1) := by decide +kernel
theorem tx_dK9 : decode tx_cK 9 = .ok (.return_, 1) := by decide +kernel
theorem tx_dB0 : decode tx_cB 0 = .ok (.iload_n 1, 1) := by decide +kernel
theorem tx_dB1 : decode tx_cB 1 = .ok (.aload_n 0, 1) := by decide +kernel
theorem tx_dB2 : decode tx_cB 2 = .ok (.arraylength, 1) := by decide +kernel
theorem tx_dB3 : decode tx_cB 3 = .ok (.invokestatic 9, 3) := by decide +kernel
theorem tx_dB6 : decode tx_cB 6 = .ok (.aload_n 0, 1) := by decide +kernel
theorem tx_dB7 : decode tx_cB 7 = .ok (.iload_n 1, 1) := by decide +kernel
theorem tx_dB8 : decode tx_cB 8 = .ok (.baload, 1) := by decide +kernel
theorem tx_dB9 : decode tx_cB 9 = .ok (.sipush 255, 3) := by decide +kernel
theorem tx_dB12 : decode tx_cB 12 = .ok (.iand, 1) := by decide +kernel
theorem tx_dB13 : decode tx_cB 13 = .ok (.i2c, 1) := by decide +kernel
theorem tx_dB14 : decode tx_cB 14 = .ok (.ireturn, 1) := by decide +kernel
theorem tx_dP0 : decode tx_cP 0 = .ok (.iload_n 0, 1) := by decide +kernel
theorem tx_dP1 : decode tx_cP 1 = .ok (.ifCond .lt 8, 3) := by decide +kernel
theorem tx_dP4 : decode tx_cP 4 = .ok (.iload_n 0, 1) := by decide +kernel
theorem tx_dP5 : decode tx_cP 5 = .ok (.iload_n 1, 1) := by decide +kernel
theorem tx_dP6 : decode tx_cP 6 = .ok (.if_icmp .lt 10, 3) := by decide +kernel
theorem tx_dP16 : decode tx_cP 16 = .ok (.iload_n 0, 1) := by decide +kernel
theorem tx_dP17 : decode tx_cP 17 = .ok (.ireturn, 1) := by decide +kernel
def tx_rm (f k : Nat) : Room := { frames := f, cells := 0, slots := 0, locals := k }
/-- the seven words, and where the class's pool has them -/
def tx_ix : List Nat := [106, 73, 61, 110, 104, 102, 108]
def tx_len : List Nat := [3, 6, 5, 3, 4, 3, 4]
def tx_byt : List (List Int32) := [[97, 108, 108], [100, 101, 103, 114, 101, 101], [107, 110, 111, 116, 115], [111, 102, 102], [114, 105, 110, 103], [114, 111, 119], [115, 116, 97, 114]]
def tx_tm (i : Nat) : Term := .string "WiredNets$Reader" (tx_ix.getD i 0)
theorem tx_len_lt : ∀ i, i < 7 → tx_len.getD i 0 < 2 ^ 31 := by decide +kernel
theorem tx_ixo {b : Nat} (h1 : 1000001 ≤ b) (h2 : b < 1000008) : ∃ i9, i9 < 7 ∧ b = 1000001 + i9 := ⟨b - 1000001, by omega, by omega⟩
theorem tx_ixs (i : Nat) : 1000001 + i - 1000001 = i := by omega
theorem tx_good {tbl : List Cond} (hg : ∀ w ∈ tbl, goodWord w = true) {x : Cond} {ws : List Cond} (h : ∀ w ∈ ws, w ∈ tbl) : GoodIn (x :: tbl) ws := fun w hw => ⟨List.mem_cons_of_mem _ (h w hw), good_of_word (hg w (h w hw))⟩
theorem tx_in {tbl : List Cond} {x : Cond} (h : x ∈ tbl) : ∀ w ∈ x :: tbl, w ∈ tbl := fun w hw => (List.mem_cons.mp hw).elim (fun q => q ▸ h) id
/-- the texts lie there, and two statics of the JDK -/
def tx_B (N : Nat) (len : List Nat) (byt : List (List Int32)) (adK adV : Nat → Nat) (A : Nat → Prop) (U : State) (H : Heap) : Prop := vk_S N len byt adK adV A U H ∧ va_Z "java/lang/String" "COMPACT_STRINGS" "Z" (.int 1) A U H ∧ va_Zq "jdk/internal/util/Preconditions" "SIOOBE_FORMATTER" "Ljava/util/function/BiFunction;" A U H
theorem tx_B.to {N : Nat} {len : List Nat} {byt : List (List Int32)} {adK adV : Nat → Nat} {A : Nat → Prop} {u U : State} {H H1 : Heap} (h : tx_B N len byt adK adV A u H) (hvm : u.vm.Alike U.vm) (hq : ∀ a : Nat, a < H.size → ¬ A a → H1[a]? = H[a]?) : tx_B N len byt adK adV A U H1 := ⟨(vk_S.moved hvm h.1).kept hq, (va_Z.moved hvm h.2.1).kept hq, (va_Zq.moved hvm h.2.2).kept hq⟩
def tx_P (N : Nat) (len : List Nat) (byt : List (List Int32)) (adK adV : Nat → Nat) (A : Nat → Prop) (vs : List Value) : Array Value → State → Prop := va_Pc vs (fun U => tx_B N len byt adK adV A U U.heap)
def tx_Q (v : Option Value) : Array Value → State → Outcome → State → Prop := fun _ st oc t => oc = .returned v ∧ t.heap = st.heap
theorem tx_P.blind {N : Nat} {len : List Nat} {byt : List (List Int32)} {adK adV : Nat → Nat} {A : Nat → Prop} {vs : List Value} : FrameBlind (tx_P N len byt adK adV A vs) := by
  intro a U g mk h
  obtain ⟨h1, h2⟩ := h
  exact ⟨h1, h2.to (U := U.calling g mk a) (Vm.Alike.refl U.vm) (fun _ _ _ => rfl)⟩
section TXW
variable {p : Program} {l : Launch} {e : Env} {R : Room} {s : State} {m : MethodId} {args : Array Value} {below : List Frame} {meth : Method} {c : Code} {H : Heap} {locs : List Loc} {cells slots : Nat} {Q : State → Prop} {cc : ByteArray} {pc nL : Nat} {ls : Array Slot}
variable {N : Nat} {len : List Nat} {byt : List (List Int32)} {adK adV : Nat → Nat} {A : Nat → Prop} {tbl : List Cond} {i : Nat}
theorem tx_pre {vs : List Value} (h : tx_B N len byt adK adV A s s.heap) (hS : va_S A s.heap H locs) : ∀ U : State, U.heap = H → s.WarmedH U.vm → tx_P N len byt adK adV A vs vs.toArray U := fun U hU hW => ⟨rfl, by
  show tx_B N len byt adK adV A U U.heap
  rw [hU]
  exact h.to hW.alike hS.2.1⟩
theorem tx_back {v : Option Value} {a : Array Value} {st0 rest : List Value} (hr : va_Run p l e R s m args below meth c H locs cells slots 0 0 (F0 m pc ls st0) rest (tx_Q v a) (fun _ => False)) (kk : W p l e R s m args below meth c H locs cells slots Q (F0 m (pc + 3) ls (v.toList ++ rest))) : W p l e R s m args below meth c H locs cells slots Q (F0 m pc ls st0) := by
  intro T hT X
  obtain ⟨v1, st₀, t, T', L, h0, X', hL, e1, e2, ⟨hv, hh⟩, st⟩ := hr T hT X
  cases hv
  cases L with
  | cons q L => exact absurd (hL q List.mem_cons_self) id
  | nil =>
    rw [List.append_nil] at X'
    obtain ⟨t2, a1, b1⟩ := kk T' (by rw [e1, hh, h0]) X'
    exact ⟨t2, st t2 a1, b1⟩
/-- coder -/
theorem tx_coder (hw : ∀ w ∈ tx_W, w ∈ tbl) (hi : i < N) : Met l tx_yC (Cond.code tx_yC tx_cC 1 (some .byte) :: tbl) (tx_rm 0 0) (tx_P N len byt adK adV A [.ref (adK i)]) (tx_Q (some (.int 0))) 0 0 (fun _ => False) := by
  refine Met.ofW (cc := tx_cC) (maxL := 1) (ret := some .byte) (by decide) rfl ?_
  intro p e s m args below meth c s₁ B hml hv
  obtain ⟨rfl, hS, hZ, hF⟩ := hv
  have hts := atoms_spec (ws := Cond.code tx_yC tx_cC 1 (some .byte) :: tbl) B.pre
  have hown : s.vm.findClass "java/lang/String" = some m.cls := findClass_of_methodNamed B.named
  have hx := B.exec
  have hb := B.bytes
  rw [lg_entry_eq]
  refine va_gets hx hb hZ va_S.rf hown (hts _ (List.mem_cons_of_mem _ (hw _ (by decide +kernel)))) (fun _ h => h) tx_dC0 ?_
  refine lv_if_eq hx hb tx_dC3 (tgt := 13) rfl (fun h => absurd h (by decide)) (fun _ => ?_)
  refine lv_aload_n hx hb tx_dC6 (i := 0) rfl rfl ?_
  refine vk_getf hx hb (hS.1 i hi).2.1 va_S.rf hown (hts _ (List.mem_cons_of_mem _ (hw _ (by decide +kernel)))) (fun _ h => h) tx_dC7 ?_
  refine lv_goto hx hb tx_dC10 (tgt := 14) rfl ?_
  exact W.zret hx hb B.returns rfl (fun t ht _ => ⟨rfl, ht⟩) (fun q h => absurd h List.not_mem_nil) tx_dC14
/-- isLatin1 -/
theorem tx_latin (hw : ∀ w ∈ tx_W, w ∈ tbl) (hi : i < N) : Met l tx_yI (Cond.code tx_yI tx_cI 1 (some .boolean) :: tbl) (tx_rm 0 0) (tx_P N len byt adK adV A [.ref (adK i)]) (tx_Q (some (.int 1))) 0 0 (fun _ => False) := by
  refine Met.ofW (cc := tx_cI) (maxL := 1) (ret := some .boolean) (by decide) rfl ?_
  intro p e s m args below meth c s₁ B hml hv
  obtain ⟨rfl, hS, hZ, hF⟩ := hv
  have hts := atoms_spec (ws := Cond.code tx_yI tx_cI 1 (some .boolean) :: tbl) B.pre
  have hown : s.vm.findClass "java/lang/String" = some m.cls := findClass_of_methodNamed B.named
  have hx := B.exec
  have hb := B.bytes
  rw [lg_entry_eq]
  refine va_gets hx hb hZ va_S.rf hown (hts _ (List.mem_cons_of_mem _ (hw _ (by decide +kernel)))) (fun _ h => h) tx_dI0 ?_
  refine lv_if_eq hx hb tx_dI3 (tgt := 17) rfl (fun h => absurd h (by decide)) (fun _ => ?_)
  refine lv_aload_n hx hb tx_dI6 (i := 0) rfl rfl ?_
  refine vk_getf hx hb (hS.1 i hi).2.1 va_S.rf hown (hts _ (List.mem_cons_of_mem _ (hw _ (by decide +kernel)))) (fun _ h => h) tx_dI7 ?_
  refine lv_if_ne hx hb tx_dI10 (tgt := 17) rfl (fun h => absurd rfl h) (fun _ => ?_)
  refine lv_iconst hx hb tx_dI13 rfl ?_
  refine lv_goto hx hb tx_dI14 (tgt := 18) rfl ?_
  exact W.zret hx hb B.returns rfl (fun t ht _ => ⟨rfl, ht⟩) (fun q h => absurd h List.not_mem_nil) tx_dI18
/-- length -/
theorem tx_length (hg : ∀ w ∈ tbl, goodWord w = true) (hw : ∀ w ∈ tx_W, w ∈ tbl) (hi : i < N) (hlen : len.getD i 0 < 2 ^ 31) : Met l tx_yL (Cond.code tx_yL tx_cL 1 (some .int) :: tbl) (tx_rm 1 40) (tx_P N len byt adK adV A [.ref (adK i)]) (tx_Q (some (.int (nI (len.getD i 0))))) 0 0 (fun _ => False) := by
  refine Met.ofW (cc := tx_cL) (maxL := 1) (ret := some .int) (by decide) rfl ?_
  intro p e s m args below meth c s₁ B hml hv
  obtain ⟨rfl, hB⟩ := hv
  obtain ⟨hS, hZ, hF⟩ := id hB
  have hts := atoms_spec (ws := Cond.code tx_yL tx_cL 1 (some .int) :: tbl) B.pre
  have hown : s.vm.findClass "java/lang/String" = some m.cls := findClass_of_methodNamed B.named
  have hx := B.exec
  have hb := B.bytes
  rw [lg_entry_eq]
  refine lv_aload_n hx hb tx_dL0 (i := 0) rfl rfl ?_
  refine vk_getf hx hb (hS.1 i hi).2.2.1 va_S.rf hown (hts _ (List.mem_cons_of_mem _ (hw _ (by decide +kernel)))) (fun _ h => h) tx_dL1 ?_
  refine va_tlen hx hb (hS.1 i hi).2.2.2 va_S.rf rfl tx_dL4 ?_
  refine lv_aload_n hx hb tx_dL5 (i := 0) rfl rfl ?_
  refine tx_back (va_runV (rest := [.int (Int32.ofNat (len.getD i 0))]) (As := []) (n := 0) (nL := 1) (own := "java/lang/String") (C := "java/lang/String") (index := 335) (bytes := tx_cC) (maxL := 1) (ret := some .byte) ⟨hx, hb, hml, hown, hts⟩ (tx_coder hw hi) ⟨callB_of 0 hts (tx_good hg (tx_in (hw _ (by decide +kernel)))) rfl rfl rfl (hts _ (List.mem_cons_of_mem _ (hw _ (by decide +kernel)))) (hts _ (List.mem_cons_of_mem _ (hw _ (by decide +kernel)))) (by decide) ⟨show 0 + 1 ≤ 1 from Nat.le_refl _, show 8 + (1 + 11) + 0 ≤ 40 by omega⟩, hts _ (List.mem_cons_of_mem _ (hw _ (by decide +kernel))), hts _ (List.mem_cons_of_mem _ (hw _ (by decide +kernel)))⟩ ⟨tx_P.blind, vk_recv hS hi va_S.rf, tx_pre hB va_S.rf⟩ rfl rfl rfl rfl (show 2 * 0 + 1 ≤ 8 by omega) tx_dL6 ⟨Nat.le_refl 0, Nat.le_refl 0⟩) ?_
  refine lv_ishr hx hb tx_dL9 ?_
  rw [show Int32.ofNat (len.getD i 0) >>> ((0 : Int32) &&& 31) = nI (len.getD i 0) from sc_shr0 hlen]
  exact W.iret hx hb B.returns (fun t ht _ => ⟨rfl, ht⟩) (fun q h => absurd h List.not_mem_nil) tx_dL10
/-- Preconditions.checkIndex, in range -/
theorem tx_chk3 {k n : Nat} {v : Value} (hk : k < n) (hn : n < 2 ^ 31) (hv : v = .null ∨ ∃ t, v = .ref t) : Met l tx_yP (Cond.code tx_yP tx_cP 3 (some .int) :: tbl) (tx_rm 0 0) (tx_P N len byt adK adV A [.int (nI k), .int (nI n), v]) (tx_Q (some (.int (nI k)))) 0 0 (fun _ => False) := by
  refine Met.ofW (cc := tx_cP) (maxL := 3) (ret := some .int) (by decide) rfl ?_
  intro p e s m args below meth c s₁ B hml hv0
  obtain ⟨rfl, hB⟩ := hv0
  have hx := B.exec
  have hb := B.bytes
  rw [lg_entry_eq]
  rcases hv with rfl | ⟨t, rfl⟩
  · refine lv_iload_n hx hb tx_dP0 (i := 0) rfl rfl ?_
    refine lv_if_lt hx hb tx_dP1 (tgt := 9) rfl (fun h => absurd h (nI_nlt (a := k) (b := 0) (Nat.zero_le _) (by omega))) (fun _ => ?_)
    refine lv_iload_n hx hb tx_dP4 (i := 0) rfl rfl ?_
    refine lv_iload_n hx hb tx_dP5 (i := 1) rfl rfl ?_
    refine lv_icmp_lt hx hb tx_dP6 (tgt := 16) rfl (fun _ => ?_) (fun h => absurd (nI_lt hk (by omega)) h)
    refine lv_iload_n hx hb tx_dP16 (i := 0) rfl rfl ?_
    exact W.iret hx hb B.returns (fun t ht _ => ⟨rfl, ht⟩) (fun q h => absurd h List.not_mem_nil) tx_dP17
  · refine lv_iload_n hx hb tx_dP0 (i := 0) rfl rfl ?_
    refine lv_if_lt hx hb tx_dP1 (tgt := 9) rfl (fun h => absurd h (nI_nlt (a := k) (b := 0) (Nat.zero_le _) (by omega))) (fun _ => ?_)
    refine lv_iload_n hx hb tx_dP4 (i := 0) rfl rfl ?_
    refine lv_iload_n hx hb tx_dP5 (i := 1) rfl rfl ?_
    refine lv_icmp_lt hx hb tx_dP6 (tgt := 16) rfl (fun _ => ?_) (fun h => absurd (nI_lt hk (by omega)) h)
    refine lv_iload_n hx hb tx_dP16 (i := 0) rfl rfl ?_
    exact W.iret hx hb B.returns (fun t ht _ => ⟨rfl, ht⟩) (fun q h => absurd h List.not_mem_nil) tx_dP17
/-- String.checkIndex, in range -/
theorem tx_chk2 {k n : Nat} (hg : ∀ w ∈ tbl, goodWord w = true) (hw : ∀ w ∈ tx_W, w ∈ tbl) (hk : k < n) (hn : n < 2 ^ 31) : Met l tx_yK (Cond.code tx_yK tx_cK 2 none :: tbl) (tx_rm 1 40) (tx_P N len byt adK adV A [.int (nI k), .int (nI n)]) (tx_Q none) 0 0 (fun _ => False) := by
  refine Met.ofW (cc := tx_cK) (maxL := 2) (ret := none) (by decide) rfl ?_
  intro p e s m args below meth c s₁ B hml hv0
  obtain ⟨rfl, hB⟩ := hv0
  obtain ⟨hS, hZ, hF⟩ := id hB
  have hts := atoms_spec (ws := Cond.code tx_yK tx_cK 2 none :: tbl) B.pre
  have hown : s.vm.findClass "java/lang/String" = some m.cls := findClass_of_methodNamed B.named
  have hx := B.exec
  have hb := B.bytes
  rw [lg_entry_eq]
  obtain ⟨v, hv, hZv⟩ : ∃ v, (v = .null ∨ ∃ t, v = .ref t) ∧ va_Z "jdk/internal/util/Preconditions" "SIOOBE_FORMATTER" "Ljava/util/function/BiFunction;" v A s s.heap := by
    rcases hF with h | ⟨t, h⟩
    · exact ⟨.null, Or.inl rfl, h⟩
    · exact ⟨.ref t, Or.inr ⟨t, rfl⟩, h⟩
  refine lv_iload_n hx hb tx_dK0 (i := 0) rfl rfl ?_
  refine lv_iload_n hx hb tx_dK1 (i := 1) rfl rfl ?_
  refine va_gets hx hb hZv va_S.rf hown (hts _ (List.mem_cons_of_mem _ (hw _ (by decide +kernel)))) (fun _ h => h) tx_dK2 ?_
  refine tx_back (va_runS (rest := []) (As := [.int (nI k), .int (nI n), v]) (n := 3) (nL := 2) (own := "java/lang/String") (index := 1059) (bytes := tx_cP) (maxL := 3) (ret := some .int) ⟨hx, hb, hml, hown, hts⟩ (tx_chk3 hk hn hv) ⟨callB_of 3 hts (tx_good hg (tx_in (hw _ (by decide +kernel)))) rfl rfl rfl (hts _ (List.mem_cons_of_mem _ (hw _ (by decide +kernel)))) (hts _ (List.mem_cons_of_mem _ (hw _ (by decide +kernel)))) (by decide) ⟨show 0 + 1 ≤ 1 from Nat.le_refl _, show 8 + (3 + 11) + 0 ≤ 40 by omega⟩, hts _ (List.mem_cons_of_mem _ (hw _ (by decide +kernel)))⟩ ⟨tx_P.blind, tx_pre hB va_S.rf⟩ rfl rfl rfl rfl (show 2 * 0 + 0 ≤ 8 by omega) tx_dK5 ⟨Nat.le_refl 0, Nat.le_refl 0⟩) ?_
  refine lv_pop hx hb tx_dK8 rfl ?_
  exact W.vret hx hb B.returns (fun t ht _ => ⟨rfl, ht⟩) (fun q h => absurd h List.not_mem_nil) tx_dK9
/-- StringLatin1.charAt, in range -/
theorem tx_latAt {k : Nat} (hg : ∀ w ∈ tbl, goodWord w = true) (hw : ∀ w ∈ tx_W, w ∈ tbl) (hi : i < N) (hk : k < len.getD i 0) (hn : len.getD i 0 < 2 ^ 31) : Met l tx_yB (Cond.code tx_yB tx_cB 2 (some .char) :: tbl) (tx_rm 2 80) (tx_P N len byt adK adV A [.ref (adV i), .int (nI k)]) (tx_Q (some (.int ((byt.getD i []).getD k 0 &&& 255)))) 0 0 (fun _ => False) := by
  refine Met.ofW (cc := tx_cB) (maxL := 2) (ret := some .char) (by decide) rfl ?_
  intro p e s m args below meth c s₁ B hml hv0
  obtain ⟨rfl, hB⟩ := hv0
  obtain ⟨hS, hZ, hF⟩ := id hB
  have hts := atoms_spec (ws := Cond.code tx_yB tx_cB 2 (some .char) :: tbl) B.pre
  have hown : s.vm.findClass "java/lang/StringLatin1" = some m.cls := findClass_of_methodNamed B.named
  have hx := B.exec
  have hb := B.bytes
  rw [lg_entry_eq]
  refine lv_iload_n hx hb tx_dB0 (i := 1) rfl rfl ?_
  refine lv_aload_n hx hb tx_dB1 (i := 0) rfl rfl ?_
  refine va_tlen hx hb (hS.1 i hi).2.2.2 va_S.rf (v := nI (len.getD i 0)) rfl tx_dB2 ?_
  refine tx_back (va_runS (rest := []) (As := [.int (nI k), .int (nI (len.getD i 0))]) (n := 2) (nL := 2) (own := "java/lang/StringLatin1") (index := 9) (bytes := tx_cK) (maxL := 2) (ret := none) ⟨hx, hb, hml, hown, hts⟩ (tx_chk2 hg hw hk hn) ⟨callB_of 2 hts (tx_good hg (tx_in (hw _ (by decide +kernel)))) rfl rfl rfl (hts _ (List.mem_cons_of_mem _ (hw _ (by decide +kernel)))) (hts _ (List.mem_cons_of_mem _ (hw _ (by decide +kernel)))) (by decide) ⟨show 1 + 1 ≤ 2 from Nat.le_refl _, show 8 + (2 + 11) + 40 ≤ 80 by omega⟩, hts _ (List.mem_cons_of_mem _ (hw _ (by decide +kernel)))⟩ ⟨tx_P.blind, tx_pre hB va_S.rf⟩ rfl rfl rfl rfl (show 2 * 0 + 0 ≤ 8 by omega) tx_dB3 ⟨Nat.le_refl 0, Nat.le_refl 0⟩) ?_
  refine lv_aload_n hx hb tx_dB6 (i := 0) rfl rfl ?_
  refine lv_iload_n hx hb tx_dB7 (i := 1) rfl rfl ?_
  refine va_tb hx hb (hS.1 i hi).2.2.2 va_S.rf (vp_in_nI hk (by omega)) (v := .int ((byt.getD i []).getD k 0)) (by
    show Value.int _ = _
    rw [nI_clamp (by omega)]) tx_dB8 ?_
  refine lv_sipush hx hb tx_dB9 (v := 255) rfl ?_
  refine lv_iand hx hb tx_dB12 ?_
  refine lv_i2c hx hb tx_dB13 (sc_c2 _) ?_
  exact W.zret hx hb B.returns (sc_nar _) (fun t ht _ => ⟨rfl, ht⟩) (fun q h => absurd h List.not_mem_nil) tx_dB14
/-- charAt, in range -/
theorem tx_charAt {k : Nat} (hg : ∀ w ∈ tbl, goodWord w = true) (hw : ∀ w ∈ tx_W, w ∈ tbl) (hi : i < N) (hk : k < len.getD i 0) (hn : len.getD i 0 < 2 ^ 31) : Met l tx_yA (Cond.code tx_yA tx_cA 2 (some .char) :: tbl) (tx_rm 3 120) (tx_P N len byt adK adV A [.ref (adK i), .int (nI k)]) (tx_Q (some (.int ((byt.getD i []).getD k 0 &&& 255)))) 0 0 (fun _ => False) := by
  refine Met.ofW (cc := tx_cA) (maxL := 2) (ret := some .char) (by decide) rfl ?_
  intro p e s m args below meth c s₁ B hml hv0
  obtain ⟨rfl, hB⟩ := hv0
  obtain ⟨hS, hZ, hF⟩ := id hB
  have hts := atoms_spec (ws := Cond.code tx_yA tx_cA 2 (some .char) :: tbl) B.pre
  have hown : s.vm.findClass "java/lang/String" = some m.cls := findClass_of_methodNamed B.named
  have hx := B.exec
  have hb := B.bytes
  rw [lg_entry_eq]
  refine lv_aload_n hx hb tx_dA0 (i := 0) rfl rfl ?_
  refine tx_back (va_runV (rest := []) (As := []) (n := 0) (nL := 2) (own := "java/lang/String") (C := "java/lang/String") (index := 492) (bytes := tx_cI) (maxL := 1) (ret := some .boolean) ⟨hx, hb, hml, hown, hts⟩ (tx_latin hw hi) ⟨callB_of 0 hts (tx_good hg (tx_in (hw _ (by decide +kernel)))) rfl rfl rfl (hts _ (List.mem_cons_of_mem _ (hw _ (by decide +kernel)))) (hts _ (List.mem_cons_of_mem _ (hw _ (by decide +kernel)))) (by decide) ⟨show 0 + 1 ≤ 3 by omega, show 8 + (1 + 11) + 0 ≤ 120 by omega⟩, hts _ (List.mem_cons_of_mem _ (hw _ (by decide +kernel))), hts _ (List.mem_cons_of_mem _ (hw _ (by decide +kernel)))⟩ ⟨tx_P.blind, vk_recv hS hi va_S.rf, tx_pre hB va_S.rf⟩ rfl rfl rfl rfl (show 2 * 0 + 0 ≤ 8 by omega) tx_dA1 ⟨Nat.le_refl 0, Nat.le_refl 0⟩) ?_
  refine lv_if_eq hx hb tx_dA4 (tgt := 16) rfl (fun h => absurd h (by decide)) (fun _ => ?_)
  refine lv_aload_n hx hb tx_dA7 (i := 0) rfl rfl ?_
  refine vk_getf hx hb (hS.1 i hi).2.2.1 va_S.rf hown (hts _ (List.mem_cons_of_mem _ (hw _ (by decide +kernel)))) (fun _ h => h) tx_dA8 ?_
  refine lv_iload_n hx hb tx_dA11 (i := 1) rfl rfl ?_
  refine tx_back (va_runS (rest := []) (As := [.ref (adV i), .int (nI k)]) (n := 2) (nL := 2) (own := "java/lang/String") (index := 495) (bytes := tx_cB) (maxL := 2) (ret := some .char) ⟨hx, hb, hml, hown, hts⟩ (tx_latAt hg hw hi hk hn) ⟨callB_of 2 hts (tx_good hg (tx_in (hw _ (by decide +kernel)))) rfl rfl rfl (hts _ (List.mem_cons_of_mem _ (hw _ (by decide +kernel)))) (hts _ (List.mem_cons_of_mem _ (hw _ (by decide +kernel)))) (by decide) ⟨show 2 + 1 ≤ 3 from Nat.le_refl _, show 8 + (2 + 11) + 80 ≤ 120 by omega⟩, hts _ (List.mem_cons_of_mem _ (hw _ (by decide +kernel)))⟩ ⟨tx_P.blind, tx_pre hB va_S.rf⟩ rfl rfl rfl rfl (show 2 * 0 + 0 ≤ 8 by omega) tx_dA12 ⟨Nat.le_refl 0, Nat.le_refl 0⟩) ?_
  exact W.zret hx hb B.returns (sc_nar _) (fun t ht _ => ⟨rfl, ht⟩) (fun q h => absurd h List.not_mem_nil) tx_dA15
end TXW
