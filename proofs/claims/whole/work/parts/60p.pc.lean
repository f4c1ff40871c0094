/-! how many bits a number has -/
def pcF : Nat → Nat → Nat
  | 0, _ => 0
  | k + 1, n => n % 2 + pcF k (n / 2)
/-- the count itself -/
def i_pc (x : Int32) : Nat := pcF 32 x.toBitVec.toNat
theorem i_pc_0 : i_pc 0 = 0 := by decide +kernel
