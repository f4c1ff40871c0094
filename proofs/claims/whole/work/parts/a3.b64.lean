/-! sets of up to 64 numbers -/
def bq (x : Int64) (i : Nat) : Bool := x.toBitVec.getLsbD i
theorem u_ext {x y : Int64} (h : ∀ i, i < 64 → bq x i = bq y i) : x = y := Int64.toBitVec_inj.mp (BitVec.eq_of_getLsbD_eq (fun i hi => h i hi))
theorem u_or (x y : Int64) (i : Nat) : bq (x ||| y) i = (bq x i || bq y i) := by unfold bq; rw [Int64.toBitVec_or, BitVec.getLsbD_or]
theorem u_and (x y : Int64) (i : Nat) : bq (x &&& y) i = (bq x i && bq y i) := by unfold bq; rw [Int64.toBitVec_and, BitVec.getLsbD_and]
theorem u_xor (x y : Int64) (i : Nat) : bq (x ^^^ y) i = (bq x i ^^ bq y i) := by unfold bq; rw [Int64.toBitVec_xor, BitVec.getLsbD_xor]
theorem u_big {x : Int64} {i : Nat} (h : 64 ≤ i) : bq x i = false := BitVec.getLsbD_of_ge _ _ h
theorem u_lt {x : Int64} {i : Nat} (h : bq x i = true) : i < 64 := Nat.lt_of_not_le (fun q => by rw [u_big q] at h; cases h)
theorem u_0 (i : Nat) : bq 0 i = false := BitVec.getLsbD_zero
theorem u_m1 : ∀ i, i < 64 → bq (-1) i = true := by decide +kernel
theorem u_not {x : Int64} {i : Nat} (hi : i < 64) : bq (x ^^^ (-1)) i = true ↔ ¬ bq x i = true := by
  rw [u_xor, u_m1 i hi]
  cases bq x i <;> simp
theorem u_andn {x y : Int64} {i : Nat} : bq (x &&& (y ^^^ (-1))) i = true ↔ bq x i = true ∧ ¬ bq y i = true := by
  rw [u_and, Bool.and_eq_true]
  constructor
  · rintro ⟨h1, h2⟩
    exact ⟨h1, (u_not (u_lt h1)).mp h2⟩
  · rintro ⟨h1, h2⟩
    exact ⟨h1, (u_not (u_lt h1)).mpr h2⟩
theorem u_or_iff {x y : Int64} {i : Nat} : bq (x ||| y) i = true ↔ bq x i = true ∨ bq y i = true := by rw [u_or, Bool.or_eq_true]
theorem u_1 : ∀ i, i < 64 → bq 1 i = decide (i = 0) := by decide +kernel
theorem u_sl : ∀ n, n < 64 → (((nI n).toInt64 &&& 63).toBitVec.smod 64).toNat = n := by decide +kernel
theorem u_shl {n : Nat} (hn : n < 64) (x : Int64) {i : Nat} (hi : i < 64) : bq (lf_lshl x (nI n)) i = (decide (n ≤ i) && bq x (i - n)) := by
  unfold bq lf_lshl
  rw [Int64.toBitVec_shiftLeft]
  show (x.toBitVec <<< (((nI n).toInt64 &&& 63).toBitVec.smod 64).toNat).getLsbD i = _
  rw [u_sl n hn, BitVec.getLsbD_shiftLeft]
  rcases Nat.lt_or_ge i n with h | h
  · simp [h, Nat.not_le.mpr h]
  · simp [hi, h, Nat.not_lt.mpr h]
theorem u_one {v i : Nat} (hv : v < 64) : bq (lf_lshl 1 (nI v)) i = true ↔ i = v := by
  by_cases hi : i < 64
  · rw [u_shl hv 1 hi]
    by_cases c : v ≤ i
    · rw [u_1 _ (by omega)]
      simp
      omega
    · simp [c]
      omega
  · constructor
    · intro h; exact absurd (u_lt h) hi
    · intro h; omega
theorem u_sshr {n : Nat} (hn : n < 64) (x : Int64) {i : Nat} (hi : i < 64) : bq (lf_lshr x (nI n)) i = if n + i < 64 then bq x (n + i) else bq x 63 := by
  unfold bq lf_lshr
  rw [Int64.toBitVec_shiftRight]
  show (x.toBitVec.sshiftRight (((nI n).toInt64 &&& 63).toBitVec.smod 64).toNat).getLsbD i = _
  rw [u_sl n hn, BitVec.getLsbD_sshiftRight, BitVec.msb_eq_getLsbD_last]
  simp [hi]
theorem u_bit {q : Nat} (hq : q < 64) (x : Int64) : lf_lshr x (nI q) &&& 1 = if bq x q = true then 1 else 0 := by
  apply u_ext
  intro i hi
  rw [u_and, u_sshr hq x hi, u_1 i hi]
  by_cases h : i = 0
  · subst h
    rw [if_pos (by omega), Nat.add_zero]
    cases bq x q <;> rfl
  · have e : decide (i = 0) = false := decide_eq_false h
    rw [e, Bool.and_false]
    cases bq x q
    · exact (u_0 i).symm
    · show false = bq 1 i
      rw [u_1 i hi, e]
theorem lg_cmp_0 {x : Int64} : lg_cmp x 0 = 0 ↔ x = 0 := by
  exact lg_cmp_eq x 0
theorem u_tst {q : Nat} (hq : q < 64) (x : Int64) : (lg_cmp (lf_lshr x (nI q) &&& 1) 0 = 0) = (bq x q = false) := by
  rw [u_bit hq]
  apply propext
  rw [lg_cmp_0]
  cases bq x q
  · simp
  · simp
theorem u_ofI {x : Int32} {i : Nat} (h : ∀ j, bt x j = true → j < 24) : bq x.toInt64 i = bt x i := by
  have e31 : bt x 31 = false := by
    cases c : bt x 31 with
    | false => rfl
    | true => exact absurd (h 31 c) (by omega)
  show (x.toBitVec.signExtend 64).getLsbD i = x.toBitVec.getLsbD i
  rw [BitVec.getLsbD_signExtend, BitVec.msb_eq_getLsbD_last]
  have e31' : x.toBitVec.getLsbD 31 = false := e31
  by_cases c : i < 32
  · have : i < 64 := by omega
    simp [c, this]
  · have e1 : x.toBitVec.getLsbD i = false := BitVec.getLsbD_of_ge _ _ (by omega)
    rw [e1]
    simp [c]
    intro _
    exact e31'
theorem u_lN {n i : Nat} (hn : n < 2 ^ 64) : bq (lN n) i = n.testBit i := by
  show (BitVec.ofNat 64 n).getLsbD i = n.testBit i
  rw [BitVec.getLsbD_ofNat]
  by_cases c : i < 64
  · simp [c]
  · have : n.testBit i = false := Nat.testBit_lt_two_pow (Nat.lt_of_lt_of_le hn (Nat.pow_le_pow_right (by omega) (by omega)))
    rw [this, Bool.and_false]
def pc6 (w : lf_W) (x : Int64) : Int32 := match f292 0 x w with
  | some (.inl (some (.int v)), _) => v
  | _ => 0
theorem pc6_eq (N : Nat) (x : Int64) (w w' : lf_W) : f292 N x w = some (.inl (some (.int (pc6 w' x))), w) := rfl
def w00 : lf_W := (hp (fun _ _ => 0, fun _ _ => 0, fun _ _ => 0, fun _ _ => 0), (0, 0))
theorem pc6_pow : ∀ l, l < 64 → pc6 w00 (lN (2 ^ l - 1)) = nI l := by decide +kernel
theorem lN_sb6 {a b : Nat} (h : b ≤ a) : lN a - lN b = lN (a - b) := by
  have e : lN a = lN (a - b) + lN b := by
    apply wb_inj
    rw [Int64.toBitVec_add, wb_tb, wb_tb, wb_tb, ← BitVec.ofNat_add, Nat.sub_add_cancel h]
  rw [e, Int64.add_sub_cancel]
theorem lN_an6 (a b : Nat) : lN a &&& lN b = lN (a &&& b) := by
  apply wb_inj
  rw [Int64.toBitVec_and, wb_tb, wb_tb, wb_tb]
  apply BitVec.eq_of_getLsbD_eq
  intro i hi
  simp [hi]
theorem lN_ng6 {n : Nat} (h : n ≤ 2 ^ 64) : -lN n = lN (2 ^ 64 - n) := by
  rw [← lN_sb6 h, show lN (2 ^ 64) = 0 from (by decide +kernel), Int64.zero_sub]
def bl6 (x : Int64) : List Nat := (List.range 64).filter (fun i => bq x i)
theorem bl6_0 : bl6 0 = [] := by decide +kernel
theorem bl6_mem {x : Int64} {i : Nat} : i ∈ bl6 x ↔ bq x i = true := by
  unfold bl6
  rw [List.mem_filter, List.mem_range]
  exact ⟨fun h => h.2, fun h => ⟨u_lt h, h⟩⟩
/-- a set that isn't empty: its least number, and the others -/
theorem bl6_low {x : Int64} (h : ¬ x = 0) : ∃ l, l < 64 ∧ bq x l = true ∧ (∀ i, bq (x &&& (x - 1)) i = (bq x i && decide (i ≠ l))) ∧ bl6 x = l :: bl6 (x &&& (x - 1)) ∧ ∀ (N : Nat) (w : lf_W), f292 N ((x &&& (-x)) - 1) w = some (.inl (some (.int (nI l))), w) := by
  obtain ⟨n, hn, rfl⟩ := wb_of x
  have h0 : 0 < n := by
    rcases Nat.eq_zero_or_pos n with e | e
    · subst e
      exact absurd rfl h
    · exact e
  obtain ⟨l, l1, l2, l3, l4⟩ := lo_and 64 n h0 hn
  have hp1 : 1 ≤ 2 ^ l := Nat.one_le_two_pow
  have m1 : bq (lN n) l = true := by rw [u_lN hn]; exact l3
  have m2 : ∀ i, i < l → bq (lN n) i = false := fun i hi => by rw [u_lN hn]; exact l4 i hi
  have hc : ∀ i, bq (lN n &&& (lN n - 1)) i = (bq (lN n) i && decide (i ≠ l)) := by
    intro i
    have e1 : lN n - 1 = lN (n - 1) := lN_sb6 (b := 1) h0
    have hlt : n &&& (n - 1) < 2 ^ 64 := Nat.lt_of_le_of_lt Nat.and_le_left hn
    rw [e1, lN_an6, u_lN hlt, u_lN hn]
    exact lo_clr l3 l4 i
  refine ⟨l, l1, m1, hc, filter_first 64 l1 m1 m2 (fun i _ => hc i), fun N w => ?_⟩
  rw [lN_ng6 (Nat.le_of_lt hn), lN_an6, l2, show lN (2 ^ l) - 1 = lN (2 ^ l - 1) from lN_sb6 (b := 1) hp1, pc6_eq N _ w w00, pc6_pow l l1]
