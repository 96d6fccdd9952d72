/-! bits -/
theorem nI_or (a b : Nat) : nI a ||| nI b = nI (a ||| b) := by
  apply Int32.toBitVec_inj.mp
  show BitVec.ofInt 32 a ||| BitVec.ofInt 32 b = BitVec.ofInt 32 ((a ||| b : Nat) : Int)
  rw [BitVec.ofInt_natCast, BitVec.ofInt_natCast, BitVec.ofInt_natCast, BitVec.ofNat_or]
theorem nI_and (a b : Nat) : nI a &&& nI b = nI (a &&& b) := by
  apply Int32.toBitVec_inj.mp
  show BitVec.ofInt 32 a &&& BitVec.ofInt 32 b = BitVec.ofInt 32 ((a &&& b : Nat) : Int)
  rw [BitVec.ofInt_natCast, BitVec.ofInt_natCast, BitVec.ofInt_natCast, BitVec.ofNat_and]
theorem b_cases {k : Nat} (h : k < 16) : k = 0 ∨ k = 1 ∨ k = 2 ∨ k = 3 ∨ k = 4 ∨ k = 5 ∨ k = 6 ∨ k = 7 ∨ k = 8 ∨ k = 9 ∨ k = 10 ∨ k = 11 ∨ k = 12 ∨ k = 13 ∨ k = 14 ∨ k = 15 := by omega
theorem nI_bit {k : Nat} (h : k < 16) : (1 : Int32) <<< (nI k &&& 31) = nI (2 ^ k) := by
  rcases b_cases h with rfl | rfl | rfl | rfl | rfl | rfl | rfl | rfl | rfl | rfl | rfl | rfl | rfl | rfl | rfl | rfl <;> decide
theorem nI_shr {m k : Nat} (hm : m < 2 ^ 16) (h : k < 16) : nI m >>> (nI k &&& 31) = nI (m >>> k) := by
  have hmsb : (BitVec.ofNat 32 m).msb = false := by
    rw [BitVec.msb_eq_false_iff_two_mul_lt, BitVec.toNat_ofNat, Nat.mod_eq_of_lt (by omega)]
    omega
  have key : ∀ s : Nat, (BitVec.ofNat 32 m).sshiftRight s = BitVec.ofNat 32 (m >>> s) := by
    intro s
    rw [BitVec.sshiftRight_eq_of_msb_false hmsb]
    apply BitVec.eq_of_toNat_eq
    have : m >>> s ≤ m := by rw [Nat.shiftRight_eq_div_pow]; exact Nat.div_le_self _ _
    rw [BitVec.toNat_ushiftRight, BitVec.toNat_ofNat, BitVec.toNat_ofNat, Nat.mod_eq_of_lt (by omega), Nat.mod_eq_of_lt (by omega)]
  apply Int32.toBitVec_inj.mp
  rw [Int32.toBitVec_shiftRight]
  show (BitVec.ofNat 32 m).sshiftRight' _ = BitVec.ofNat 32 (m >>> k)
  unfold BitVec.sshiftRight'
  rw [key]
  rcases b_cases h with rfl | rfl | rfl | rfl | rfl | rfl | rfl | rfl | rfl | rfl | rfl | rfl | rfl | rfl | rfl | rfl <;> rfl
theorem nI_tst {m k : Nat} (hm : m < 2 ^ 16) (h : k < 16) : (nI m >>> (nI k &&& 31)) &&& 1 = nI (if m.testBit k then 1 else 0) := by
  rw [nI_shr hm h, show (1 : Int32) = nI 1 from rfl, nI_and, Nat.and_one_is_mod]
  unfold Nat.testBit
  rw [Nat.and_comm, Nat.and_one_is_mod]
  rcases Nat.mod_two_eq_zero_or_one (m >>> k) with e | e <;> rw [e] <;> rfl
