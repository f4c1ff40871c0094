/-! what a program's tables must say, and that then PM's answers are the machine's -/
def pm_okm (cl : List vw_C) (tbl xw : List Cond) (P : Nat → Option pm_M) (nm : Nat → MethodName) (bs : Nat → ByteArray) (rt : Nat → Option FieldType) (own : String) (idx : Nat) (q : Nat × Nat × Nat × Nat) : Prop :=
  (q.1 = 0 ∧ ∃ M, P q.2.1 = some M ∧ pm_okb tbl (nm q.2.1) (bs q.2.1) (pm_mL M) (rt q.2.1) q.2.2.1 ∧ Cond.methodLink own idx (nm q.2.1) ∈ tbl ∧ Cond.static (nm q.2.1) ∈ tbl)
  ∨ (q.1 = 5 ∧ ∃ M host, P q.2.1 = some M ∧ pm_okb tbl (nm q.2.1) (bs q.2.1) (pm_mL M) (rt q.2.1) q.2.2.1 ∧ Cond.methodLinkNest own idx (nm q.2.1) host ∈ xw ∧ Cond.static (nm q.2.1) ∈ tbl)
  ∨ (q.1 = 1 ∧ ∃ M T N, P q.2.1 = some M ∧ pm_okb tbl (nm q.2.1) (bs q.2.1) (pm_mL M) (rt q.2.1) q.2.2.1 ∧ Cond.methodLink own idx (nm q.2.1) ∈ tbl ∧ Cond.instanceMethod (nm q.2.1) ∈ tbl ∧ Cond.selects (nm q.2.1).cls (nm q.2.1) (nm q.2.1) ∈ tbl ∧ cl[q.2.2.2]? = some ((nm q.2.1).cls, T, N))
  ∨ (q.1 = 2 ∧ ∃ M, P q.2.1 = some M ∧ rt q.2.1 = none ∧ pm_okb tbl (nm q.2.1) (bs q.2.1) (pm_mL M) none q.2.2.1 ∧ Cond.methodLink own idx (nm q.2.1) ∈ tbl ∧ Cond.instanceMethod (nm q.2.1) ∈ tbl ∧ (nm q.2.1).name = "<init>")
  ∨ (q.1 = 3 ∧ ∃ M host, P q.2.1 = some M ∧ rt q.2.1 = none ∧ pm_okb tbl (nm q.2.1) (bs q.2.1) (pm_mL M) none q.2.2.1 ∧ Cond.methodLinkNest own idx (nm q.2.1) host ∈ xw ∧ Cond.instanceMethod (nm q.2.1) ∈ tbl ∧ (nm q.2.1).name = "<init>")
  ∨ (q.1 = 10 ∧ Cond.methodLink own idx Lib.objectInit ∈ tbl ∧ Cond.instanceMethod Lib.objectInit ∈ tbl ∧ Cond.code Lib.objectInit ⟨#[0xb1]⟩ 1 none ∈ tbl)
  ∨ (q.1 = 11 ∧ Cond.methodLink own idx Lib.Math.max.name ∈ tbl ∧ Cond.static Lib.Math.max.name ∈ tbl ∧ Cond.initialized "java/lang/Math" ∈ tbl ∧ Cond.code Lib.Math.max.name Lib.Math.max.code 2 (some .int) ∈ tbl)
  ∨ (q.1 = 12 ∧ Cond.methodLink own idx Lib.Math.min.name ∈ tbl ∧ Cond.static Lib.Math.min.name ∈ tbl ∧ Cond.initialized "java/lang/Math" ∈ tbl ∧ Cond.code Lib.Math.min.name Lib.Math.min.code 2 (some .int) ∈ tbl)
  ∨ (q.1 = 13 ∧ Cond.methodLink own idx Lib.Math.abs.name ∈ tbl ∧ Cond.static Lib.Math.abs.name ∈ tbl ∧ Cond.initialized "java/lang/Math" ∈ tbl ∧ Cond.code Lib.Math.abs.name Lib.Math.abs.code 1 (some .int) ∈ tbl)
  ∨ (q.1 = 14 ∧ Cond.methodLink own idx Lib.MathLoose.min_long.x ∈ tbl ∧ Cond.static Lib.MathLoose.min_long.x ∈ tbl ∧ Cond.initialized "java/lang/Math" ∈ tbl ∧ Cond.code Lib.MathLoose.min_long.x Lib.MathLoose.min_long.code 4 (some .long) ∈ tbl)
  ∨ (q.1 = 15 ∧ Cond.methodLink own idx arraycopyName ∈ tbl ∧ Cond.native arraycopyName ∈ tbl ∧ Cond.static arraycopyName ∈ tbl ∧ Cond.initialized "java/lang/System" ∈ tbl)
  ∨ (q.1 = 16 ∧ (∀ w ∈ tx_W, w ∈ tbl) ∧ Cond.methodLink own idx tx_yL ∈ tbl)
  ∨ (q.1 = 17 ∧ (∀ w ∈ tx_W, w ∈ tbl) ∧ Cond.methodLink own idx tx_yA ∈ tbl)
def pm_oke (tbl xw : List Cond) (own : String) (idx : Nat) (q : String × Nat) : Prop := ∃ names : List String, names.length ≤ 3 ∧ Bundle.fit q.1 = true ∧ (∀ n ∈ names, Bundle.fit n = true) ∧ Cond.classLink own idx q.1 ∈ tbl ∧ Cond.initialized q.1 ∈ tbl ∧ (∀ w ∈ vx_at0 own q.2 q.1 names, w ∈ tbl ∨ w ∈ xw) ∧ ∀ w ∈ Cond.classLink own idx q.1 :: Cond.initialized q.1 :: vx_at0 own q.2 q.1 names, vx_ot w = true
def pm_okr (t : Nat) (r : Option FieldType) : Prop := (t = 0 ∧ r = none) ∨ (t = 1 ∧ r = some .int) ∨ (t = 2 ∧ r = some .boolean) ∨ (t = 3 ∧ r = some .long) ∨ (t = 4 ∧ ∃ n, r = some (.object n))
def pm_okM (cl : List vw_C) (NC : String) (tbl xw : List Cond) (strs : List (String × Nat × String × Nat)) (P : Nat → Option pm_M) (nm : Nat → MethodName) (bs : Nat → ByteArray) (rt : Nat → Option FieldType) (y : Nat) (M : pm_M) : Prop :=
  plainName (nm y).cls = true ∧ (∀ pc i, pm_mi M pc = some i → pm_dec (bs y) pc i) ∧ (∀ idx q, pm_mf M idx = some q → pm_okf cl tbl (nm y).cls idx q) ∧ (∀ idx q, pm_mp M idx = some q → pm_okf cl tbl (nm y).cls idx q ∧ pm_okp cl (nm y).cls q (nm y).name) ∧ (∀ idx v, pm_mk M idx = some v → Cond.constant (nm y).cls idx v ∈ tbl) ∧ (∀ idx v, pm_ml M idx = some v → Cond.constantLong (nm y).cls idx v ∈ tbl) ∧ (∀ idx a, pm_mr M idx = some a → 1000 ≤ a ∧ ∃ tx, ((nm y).cls, idx, tx, a) ∈ strs) ∧ (∀ idx o, pm_mn M idx = some o → pm_okn cl tbl (nm y).cls idx o) ∧ (∀ idx, pm_ma M idx = true → Cond.classLink (nm y).cls idx NC ∈ tbl) ∧ (∀ idx q, pm_mm M idx = some q → pm_okm cl tbl xw P nm bs rt (nm y).cls idx q) ∧ (∀ idx q, pm_mx M idx = some q → pm_oke tbl xw (nm y).cls idx q) ∧ (∀ pc E, pm_mh M pc E = none) ∧ pm_okr (pm_mt M) (rt y)
/-- the same, but for calls of helpers -/
def pm_okMw (cl : List vw_C) (NC : String) (tbl xw : List Cond) (strs : List (String × Nat × String × Nat)) (P : Nat → Option pm_M) (nm : Nat → MethodName) (bs : Nat → ByteArray) (rt : Nat → Option FieldType) (y : Nat) (M : pm_M) : Prop :=
  plainName (nm y).cls = true ∧ (∀ pc i, pm_mi M pc = some i → pm_dec (bs y) pc i) ∧ (∀ idx q, pm_mf M idx = some q → pm_okf cl tbl (nm y).cls idx q) ∧ (∀ idx q, pm_mp M idx = some q → pm_okf cl tbl (nm y).cls idx q ∧ pm_okp cl (nm y).cls q (nm y).name) ∧ (∀ idx v, pm_mk M idx = some v → Cond.constant (nm y).cls idx v ∈ tbl) ∧ (∀ idx v, pm_ml M idx = some v → Cond.constantLong (nm y).cls idx v ∈ tbl) ∧ (∀ idx a, pm_mr M idx = some a → 1000 ≤ a ∧ ∃ tx, ((nm y).cls, idx, tx, a) ∈ strs) ∧ (∀ idx o, pm_mn M idx = some o → pm_okn cl tbl (nm y).cls idx o) ∧ (∀ idx, pm_ma M idx = true → Cond.classLink (nm y).cls idx NC ∈ tbl) ∧ (∀ idx q, pm_mm M idx = some q → q.1 = 4 ∨ pm_okm cl tbl xw P nm bs rt (nm y).cls idx q) ∧ (∀ idx q, pm_mx M idx = some q → pm_oke tbl xw (nm y).cls idx q) ∧ (∀ pc E, pm_mh M pc E = none) ∧ pm_okr (pm_mt M) (rt y)
theorem pm_okM.wk {cl : List vw_C} {NC : String} {tbl xw : List Cond} {strs : List (String × Nat × String × Nat)} {P : Nat → Option pm_M} {nm : Nat → MethodName} {bs : Nat → ByteArray} {rt : Nat → Option FieldType} {y : Nat} {M : pm_M} (h : pm_okM cl NC tbl xw strs P nm bs rt y M) : pm_okMw cl NC tbl xw strs P nm bs rt y M := by
  obtain ⟨m1, m2, m3, m4, m5, m6, m7, m8, m9, m10, m11, m12, m13⟩ := h
  exact ⟨m1, m2, m3, m4, m5, m6, m7, m8, m9, fun idx q h => Or.inr (m10 idx q h), m11, m12, m13⟩
theorem pm_okm.not4 {cl : List vw_C} {tbl xw : List Cond} {P : Nat → Option pm_M} {nm : Nat → MethodName} {bs : Nat → ByteArray} {rt : Nat → Option FieldType} {own : String} {idx id n x : Nat} (h : pm_okm cl tbl xw P nm bs rt own idx (4, id, n, x)) : False := by
  unfold pm_okm at h
  rcases h with q | q | q | q | q | q | q | q | q | q | q | q | q
  all_goals exact absurd q.1 (by simp)
/-- words that speak of the tables alone -/
def pm_xo (w : Cond) : Bool := match w with
  | .not (.castable _ _) => true
  | w => w.onTables
theorem pm_Nn {C T : String} {U : State} {A : Array Value} (h : va_Nc C T U) : (Cond.not (.castable C T)).before A U = true := by
  obtain ⟨c, t, h1, h2, h3⟩ := h
  simp [Cond.before, Cond.holds, Cond.value, h1, h2, h3]
theorem pm_xuse {w : Cond} {U : State} {A : Array Value} (h : pm_xo w = true) (hZ : va_Nw w U) : w.before A U = true := by
  unfold pm_xo at h
  split at h
  · exact pm_Nn (va_Nc.of hZ)
  · exact va_Nw.use h hZ
theorem pm_xof {w : Cond} {U : State} {A : Array Value} (h : pm_xo w = true) (hZ : w.before A U = true) : va_Nw w U := by
  unfold pm_xo at h
  split at h
  · exact pm_Nn (va_Nc.of hZ)
  · exact va_Nw.of h hZ
/-- the words that hold everywhere -/
def pm_okT (cl : List vw_C) (NC : String) (net : Nat) (tbl xw : List Cond) : Prop := (∀ w ∈ tbl, goodWord w = true) ∧ pm_warm xw ∧ (∀ w ∈ xw, pm_xo w = true) ∧ Cond.arrayClass .int ∈ tbl ∧ Cond.arrayClass .boolean ∈ tbl ∧ Cond.arrayClass .long ∈ tbl ∧ ∃ T N, cl[net]? = some (NC, T, N)
/-- an end: the instruction, the stack, what comes back -/
def pm_end (t : Nat) (i : Instr) (st : List Value) (v : Option Value) : Prop := (∃ x, i = .ireturn ∧ t = 1 ∧ st = [.int x] ∧ v = some (.int x)) ∨ (∃ x : Int32, i = .ireturn ∧ t = 2 ∧ st = [.int x] ∧ v = some (.int x) ∧ (x = 0 ∨ x = 1)) ∨ (∃ x, i = .lreturn ∧ t = 3 ∧ st = [.long x] ∧ v = some (.long x)) ∨ (∃ x, i = .areturn ∧ t = 4 ∧ st = [.ref x] ∧ v = some (.ref x)) ∨ (i = .return_ ∧ t = 0 ∧ st = [] ∧ v = none)
theorem pm_take {n : Nat} {st : List Value} (h : n ≤ st.length) : st = (st.take n).reverse.reverse ++ st.drop n ∧ (st.take n).reverse.length = n := by
  rw [List.reverse_reverse, List.take_append_drop, List.length_reverse, List.length_take]
  exact ⟨rfl, Nat.min_eq_left h⟩
theorem pm_ex.step {z z' : pm_Z} {ad ad' : Nat → Nat} {st : List Value} (h : pm_ex z z' ad ad') (hc : z'.2.1 = z.2.1 ∨ st.all (pm_okv z.2.1) = true) : st.map (pm_v ad') = st.map (pm_v ad) := by
  rcases hc with q | q
  · have e : ad' = ad := funext fun i => h i (Or.inr (Or.inr q))
    rw [e]
  · exact pm_map_ext (n := z.2.1) (fun i hi => h i (by omega)) q
theorem pm_ex.stepL {z z' : pm_Z} {ad ad' : Nat → Nat} {L : List (Option Value)} {nL : Nat} {ls : Array Slot} (h : pm_ex z z' ad ad') (hL : pm_L ad nL L ls) (hc : z'.2.1 = z.2.1 ∨ pm_okL z.2.1 L = true) : pm_L ad' nL L ls := by
  rcases hc with q | q
  · have e : ad' = ad := funext fun i => h i (Or.inr (Or.inr q))
    rw [e]; exact hL
  · exact hL.ext (n := z.2.1) (fun i hi => h i (by omega)) q
