/-! bits -/
theorem b_and (x : Int32) (k : Nat) (hk : k ≤ 31) : (x &&& Int32.ofNat (2 ^ k - 1)).toInt = x.toInt % 2 ^ k := by
  have h1 : (x &&& Int32.ofNat (2 ^ k - 1)).toInt = (x.toBitVec &&& BitVec.ofNat 32 (2 ^ k - 1)).toInt := rfl
  have h2 : x.toInt = x.toBitVec.toInt := rfl
  rw [h1, h2]
  generalize x.toBitVec = b
  have h3 : (b &&& BitVec.ofNat 32 (2 ^ k - 1)).toNat = b.toNat % 2 ^ k := by
    rw [BitVec.toNat_and, BitVec.toNat_ofNat, Nat.mod_eq_of_lt (a := 2 ^ k - 1), Nat.and_two_pow_sub_one_eq_mod]
    have := Nat.pow_le_pow_right (n := 2) (by omega) hk
    omega
  have h4 : b.toNat % 2 ^ k < 2 ^ k := Nat.mod_lt _ (Nat.two_pow_pos k)
  have h5 : (2 : Nat) ^ k ≤ 2 ^ 31 := Nat.pow_le_pow_right (by omega) hk
  rw [BitVec.toInt_eq_toNat_of_lt (by omega), h3]
  rw [BitVec.toInt_eq_toNat_cond]
  split
  · rw [Int.natCast_emod, Int.natCast_pow]; rfl
  · rw [Int.natCast_emod, Int.natCast_pow]
    have h6 : ((2 : Int) ^ 32) = 2 ^ k * 2 ^ (32 - k) := by rw [← Int.pow_add]; congr 1; omega
    have h7 : ((b.toNat : Int) - ((2 ^ 32 : Nat) : Int)) % (2 ^ k) = (b.toNat : Int) % 2 ^ k := by
      rw [Int.natCast_pow]
      show ((b.toNat : Int) - (2 : Int) ^ 32) % (2 ^ k) = _
      rw [h6, Int.sub_eq_add_neg, ← Int.mul_neg, Int.add_mul_emod_self_left]
    exact h7.symm
theorem b_sar (x : Int32) (k : Nat) (hk : k < 32) : (x >>> Int32.ofNat k).toInt = x.toInt / 2 ^ k := by
  have h1 : (x >>> Int32.ofNat k).toBitVec = x.toBitVec.sshiftRight' ((Int32.ofNat k).toBitVec.smod 32) := by
    exact Int32.toBitVec_shiftRight x (Int32.ofNat k)
  have h2 : ((Int32.ofNat k).toBitVec.smod 32) = BitVec.ofNat 32 k := by
    have : ∀ k, k < 32 → (BitVec.ofNat 32 k).smod 32 = BitVec.ofNat 32 k := by decide
    exact this k hk
  have h3 : (x >>> Int32.ofNat k).toInt = (x >>> Int32.ofNat k).toBitVec.toInt := rfl
  rw [h3, h1, h2]
  show (x.toBitVec.sshiftRight (BitVec.ofNat 32 k).toNat).toInt = _
  rw [BitVec.toInt_sshiftRight, BitVec.toNat_ofNat, Nat.mod_eq_of_lt (by omega), Int.shiftRight_eq_div_pow]
  rfl
/-- the number without a sign -/
def un (x : Int32) : Nat := x.toBitVec.toNat
theorem un_lt (x : Int32) : un x < 4294967296 := x.toBitVec.isLt
theorem un_ofNat (k : Nat) : un (Int32.ofNat k) = k % 4294967296 := by
  show (BitVec.ofNat 32 k).toNat = _
  rw [BitVec.toNat_ofNat]
theorem ofNat_un (x : Int32) : Int32.ofNat (un x) = x := by
  apply Int32.toBitVec_inj.mp
  show BitVec.ofNat 32 x.toBitVec.toNat = x.toBitVec
  rw [BitVec.ofNat_toNat, BitVec.setWidth_eq]
theorem un_toInt (x : Int32) : (un x : Int) = x.toInt % 4294967296 := by
  have h2 : x.toInt = x.toBitVec.toInt := rfl
  rw [h2, BitVec.toInt_eq_toNat_bmod]
  have := x.toBitVec.isLt
  show (x.toBitVec.toNat : Int) = _
  rw [Int.bmod_def]
  split <;> omega
theorem b_ushr (x : Int32) (k : Nat) (hk : k < 32) : ushr x (Int32.ofNat k) = Int32.ofNat (un x / 2 ^ k) := by
  apply Int32.toBitVec_inj.mp
  have h2 : ∀ k, k < 32 → ((Int32.ofNat k).toUInt32 &&& Int32.toUInt32 31).toNat % 32 = k := by decide
  have h4 : (ushr x (Int32.ofNat k)).toBitVec = (x.toUInt32 >>> ((Int32.ofNat k).toUInt32 &&& Int32.toUInt32 31)).toBitVec := rfl
  apply BitVec.eq_of_toNat_eq
  rw [h4]
  have h5 : (x.toUInt32 >>> ((Int32.ofNat k).toUInt32 &&& Int32.toUInt32 31)).toBitVec.toNat = (x.toUInt32 >>> ((Int32.ofNat k).toUInt32 &&& Int32.toUInt32 31)).toNat := rfl
  rw [h5, UInt32.toNat_shiftRight, h2 k hk, Nat.shiftRight_eq_div_pow]
  show un x / 2 ^ k = (BitVec.ofNat 32 (un x / 2 ^ k)).toNat
  rw [BitVec.toNat_ofNat, Nat.mod_eq_of_lt]
  have := un_lt x
  have := Nat.div_le_self (un x) (2 ^ k)
  omega
theorem b_shl (x : Int32) (k : Nat) (hk : k < 32) : x <<< Int32.ofNat k = x * Int32.ofNat (2 ^ k) := by
  apply Int32.toBitVec_inj.mp
  rw [Int32.toBitVec_shiftLeft, Int32.toBitVec_mul]
  have h2 : ∀ k, k < 32 → (Int32.ofNat k).toBitVec.smod 32 = BitVec.ofNat 32 k := by decide
  rw [h2 k hk]
  show x.toBitVec <<< (BitVec.ofNat 32 k).toNat = x.toBitVec * BitVec.ofNat 32 (2 ^ k)
  rw [BitVec.toNat_ofNat, Nat.mod_eq_of_lt (by omega)]
  apply BitVec.eq_of_toNat_eq
  rw [BitVec.toNat_shiftLeft, BitVec.toNat_mul, BitVec.toNat_ofNat, Nat.shiftLeft_eq, Nat.mul_mod_mod]
theorem un_and (x y : Int32) : un (x &&& y) = un x &&& un y := BitVec.toNat_and ..
theorem un_or (x y : Int32) : un (x ||| y) = un x ||| un y := BitVec.toNat_or ..
theorem un_xor (x y : Int32) : un (x ^^^ y) = un x ^^^ un y := BitVec.toNat_xor ..
theorem un_inj (x y : Int32) (h : un x = un y) : x = y := Int32.toBitVec_inj.mp (BitVec.eq_of_toNat_eq h)
theorem b_mask (x : Int32) (k : Nat) (hk : k ≤ 32) : x &&& Int32.ofNat (2 ^ k - 1) = Int32.ofNat (un x % 2 ^ k) := by
  apply un_inj
  rw [un_and, un_ofNat, un_ofNat]
  have h5 : (2 : Nat) ^ k ≤ 2 ^ 32 := Nat.pow_le_pow_right (by omega) hk
  have h6 := Nat.two_pow_pos k
  have h4 : un x % 2 ^ k < 2 ^ k := Nat.mod_lt _ h6
  rw [Nat.mod_eq_of_lt (a := 2 ^ k - 1) (by omega), Nat.and_two_pow_sub_one_eq_mod, Nat.mod_eq_of_lt (a := un x % 2 ^ k)]
  omega
/-! longs -/
theorem l_sar (x : Int64) (k : Nat) (hk : k < 64) : (lshr x (Int32.ofNat k)).toInt = x.toInt / 2 ^ k := by
  have h2 : ∀ k, k < 64 → ((Int32.ofNat k).toInt64 &&& 63).toBitVec.smod 64 = BitVec.ofNat 64 k := by decide
  have h1 : (lshr x (Int32.ofNat k)).toBitVec = x.toBitVec.sshiftRight' (((Int32.ofNat k).toInt64 &&& 63).toBitVec.smod 64) := Int64.toBitVec_shiftRight x _
  have h3 : (lshr x (Int32.ofNat k)).toInt = (lshr x (Int32.ofNat k)).toBitVec.toInt := rfl
  rw [h3, h1, h2 k hk]
  show (x.toBitVec.sshiftRight (BitVec.ofNat 64 k).toNat).toInt = _
  rw [BitVec.toInt_sshiftRight, BitVec.toNat_ofNat, Nat.mod_eq_of_lt (by omega), Int.shiftRight_eq_div_pow]
  rfl
theorem l_shl (x : Int64) (k : Nat) (hk : k < 64) : lshl x (Int32.ofNat k) = x * Int64.ofNat (2 ^ k) := by
  apply Int64.toBitVec_inj.mp
  have h2 : ∀ k, k < 64 → ((Int32.ofNat k).toInt64 &&& 63).toBitVec.smod 64 = BitVec.ofNat 64 k := by decide
  have h1 : (lshl x (Int32.ofNat k)).toBitVec = x.toBitVec <<< (((Int32.ofNat k).toInt64 &&& 63).toBitVec.smod 64) := Int64.toBitVec_shiftLeft x _
  rw [h1, h2 k hk, Int64.toBitVec_mul]
  show x.toBitVec <<< (BitVec.ofNat 64 k).toNat = x.toBitVec * BitVec.ofNat 64 (2 ^ k)
  rw [BitVec.toNat_ofNat, Nat.mod_eq_of_lt (by omega)]
  apply BitVec.eq_of_toNat_eq
  rw [BitVec.toNat_shiftLeft, BitVec.toNat_mul, BitVec.toNat_ofNat, Nat.shiftLeft_eq, Nat.mul_mod_mod]
theorem l_and (x : Int64) (k : Nat) (hk : k ≤ 63) : (x &&& Int64.ofNat (2 ^ k - 1)).toInt = x.toInt % 2 ^ k := by
  have h1 : (x &&& Int64.ofNat (2 ^ k - 1)).toInt = (x.toBitVec &&& BitVec.ofNat 64 (2 ^ k - 1)).toInt := rfl
  have h2 : x.toInt = x.toBitVec.toInt := rfl
  rw [h1, h2]
  generalize x.toBitVec = b
  have h3 : (b &&& BitVec.ofNat 64 (2 ^ k - 1)).toNat = b.toNat % 2 ^ k := by
    rw [BitVec.toNat_and, BitVec.toNat_ofNat, Nat.mod_eq_of_lt (a := 2 ^ k - 1), Nat.and_two_pow_sub_one_eq_mod]
    have := Nat.pow_le_pow_right (n := 2) (by omega) hk
    omega
  have h4 : b.toNat % 2 ^ k < 2 ^ k := Nat.mod_lt _ (Nat.two_pow_pos k)
  have h5 : (2 : Nat) ^ k ≤ 2 ^ 63 := Nat.pow_le_pow_right (by omega) hk
  rw [BitVec.toInt_eq_toNat_of_lt (by omega), h3]
  rw [BitVec.toInt_eq_toNat_cond]
  split
  · rw [Int.natCast_emod, Int.natCast_pow]; rfl
  · rw [Int.natCast_emod, Int.natCast_pow]
    have h6 : ((2 : Int) ^ 64) = 2 ^ k * 2 ^ (64 - k) := by rw [← Int.pow_add]; congr 1; omega
    have h7 : ((b.toNat : Int) - ((2 ^ 64 : Nat) : Int)) % (2 ^ k) = (b.toNat : Int) % 2 ^ k := by
      rw [Int.natCast_pow]
      show ((b.toNat : Int) - (2 : Int) ^ 64) % (2 ^ k) = _
      rw [h6, Int.sub_eq_add_neg, ← Int.mul_neg, Int.add_mul_emod_self_left]
    exact h7.symm
/-- a long that is given as a whole number -/
theorem l_int (z : Int) (h0 : -9223372036854775808 ≤ z) (h1 : z < 9223372036854775808) : (Int64.ofInt z).toInt = z := Int64.toInt_ofInt_of_le h0 h1
theorem i_int (z : Int) (h0 : -2147483648 ≤ z) (h1 : z < 2147483648) : (Int32.ofInt z).toInt = z := Int32.toInt_ofInt_of_le h0 h1
theorem l_inj (x y : Int64) (h : x.toInt = y.toInt) : x = y := Int64.toInt_inj.mp h
theorem i_inj (x y : Int32) (h : x.toInt = y.toInt) : x = y := Int32.toInt_inj.mp h
theorem l_ext (x : Int32) : x.toInt64.toInt = x.toInt := Int32.toInt_toInt64 x
theorem l_cut (x : Int64) : x.toInt32.toInt = x.toInt.bmod 4294967296 := Int64.toInt_toInt32 x
theorem l_cut' (x : Int64) (h0 : -2147483648 ≤ x.toInt) (h1 : x.toInt < 2147483648) : x.toInt32.toInt = x.toInt := by
  rw [l_cut, Int.bmod_eq_of_le (by omega) (by omega)]
theorem i_rng (x : Int32) : -2147483648 ≤ x.toInt ∧ x.toInt < 2147483648 := ⟨x.le_toInt, x.toInt_lt⟩
theorem l_rng (x : Int64) : -9223372036854775808 ≤ x.toInt ∧ x.toInt < 9223372036854775808 := ⟨x.le_toInt, x.toInt_lt⟩
theorem l_add (x y : Int64) (h0 : -9223372036854775808 ≤ x.toInt + y.toInt) (h1 : x.toInt + y.toInt < 9223372036854775808) : (x + y).toInt = x.toInt + y.toInt := by
  rw [Int64.toInt_add, Int.bmod_eq_of_le (by omega) (by omega)]
theorem l_sub (x y : Int64) (h0 : -9223372036854775808 ≤ x.toInt - y.toInt) (h1 : x.toInt - y.toInt < 9223372036854775808) : (x - y).toInt = x.toInt - y.toInt := by
  rw [Int64.toInt_sub, Int.bmod_eq_of_le (by omega) (by omega)]
theorem l_mul (x y : Int64) (h0 : -9223372036854775808 ≤ x.toInt * y.toInt) (h1 : x.toInt * y.toInt < 9223372036854775808) : (x * y).toInt = x.toInt * y.toInt := by
  rw [Int64.toInt_mul, Int.bmod_eq_of_le (by omega) (by omega)]
theorem i_add (x y : Int32) (h0 : -2147483648 ≤ x.toInt + y.toInt) (h1 : x.toInt + y.toInt < 2147483648) : (x + y).toInt = x.toInt + y.toInt := by
  rw [Int32.toInt_add, Int.bmod_eq_of_le (by omega) (by omega)]
theorem i_sub (x y : Int32) (h0 : -2147483648 ≤ x.toInt - y.toInt) (h1 : x.toInt - y.toInt < 2147483648) : (x - y).toInt = x.toInt - y.toInt := by
  rw [Int32.toInt_sub, Int.bmod_eq_of_le (by omega) (by omega)]
theorem i_mul (x y : Int32) (h0 : -2147483648 ≤ x.toInt * y.toInt) (h1 : x.toInt * y.toInt < 2147483648) : (x * y).toInt = x.toInt * y.toInt := by
  rw [Int32.toInt_mul, Int.bmod_eq_of_le (by omega) (by omega)]
theorem l_div (x y : Int64) (h : ¬ (x.toInt = -9223372036854775808 ∧ y.toInt = -1)) : (x / y).toInt = x.toInt.tdiv y.toInt := by
  rw [Int64.toInt_div]
  have hx := l_rng x
  have hy := l_rng y
  by_cases h0 : y.toInt = 0
  · rw [h0]; simp
  · apply Int.bmod_eq_of_le
    all_goals
      have h3 : (x.toInt.tdiv y.toInt).natAbs = x.toInt.natAbs / y.toInt.natAbs := Int.natAbs_tdiv ..
      have h4 := Nat.div_le_self x.toInt.natAbs y.toInt.natAbs
      have h5 : y.toInt.natAbs ≥ 2 → x.toInt.natAbs / y.toInt.natAbs ≤ x.toInt.natAbs / 2 := fun h => Nat.div_le_div_left h (by omega)
      by_cases h6 : y.toInt.natAbs ≥ 2
      · have := h5 h6; omega
      · have h7 : y.toInt = 1 ∨ y.toInt = -1 := by omega
        rcases h7 with h7 | h7
        · rw [h7, Int.tdiv_one]; omega
        · rw [h7, Int.tdiv_neg, Int.tdiv_one]; omega
theorem i_div (x y : Int32) (h : ¬ (x.toInt = -2147483648 ∧ y.toInt = -1)) : (x / y).toInt = x.toInt.tdiv y.toInt := by
  rw [Int32.toInt_div]
  have hx := i_rng x
  have hy := i_rng y
  by_cases h0 : y.toInt = 0
  · rw [h0]; simp
  · apply Int.bmod_eq_of_le
    all_goals
      have h3 : (x.toInt.tdiv y.toInt).natAbs = x.toInt.natAbs / y.toInt.natAbs := Int.natAbs_tdiv ..
      have h4 := Nat.div_le_self x.toInt.natAbs y.toInt.natAbs
      have h5 : y.toInt.natAbs ≥ 2 → x.toInt.natAbs / y.toInt.natAbs ≤ x.toInt.natAbs / 2 := fun h => Nat.div_le_div_left h (by omega)
      by_cases h6 : y.toInt.natAbs ≥ 2
      · have := h5 h6; omega
      · have h7 : y.toInt = 1 ∨ y.toInt = -1 := by omega
        rcases h7 with h7 | h7
        · rw [h7, Int.tdiv_one]; omega
        · rw [h7, Int.tdiv_neg, Int.tdiv_one]; omega
