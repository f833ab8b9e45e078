/-! division -/
theorem t_modnp (b : Int) {a : Int} (h : a ≤ 0) : a.tmod b ≤ 0 := by
  have h1 := Int.neg_tmod a b
  have h2 : 0 ≤ (-a).tmod b := Int.tmod_nonneg b (by omega)
  omega
theorem t_divnp {a b : Int} (h : a ≤ 0) (hb : 0 ≤ b) : a.tdiv b ≤ 0 := by
  have h1 := Int.neg_tdiv a b
  have h2 : 0 ≤ (-a).tdiv b := Int.tdiv_nonneg (by omega) hb
  omega
theorem l_neg_msb (x : Int64) : x < 0 ↔ x.toBitVec.msb = true := by
  rw [Int64.lt_iff_toInt_lt]
  show x.toBitVec.toInt < 0 ↔ _
  rw [BitVec.toInt_eq_msb_cond]
  have := x.toBitVec.isLt
  split
  · simp_all; omega
  · simp_all
theorem l_xor_neg (x y : Int64) : (x ^^^ y) < 0 ↔ ¬ (x < 0 ↔ y < 0) := by
  rw [l_neg_msb, l_neg_msb, l_neg_msb]
  show (x.toBitVec ^^^ y.toBitVec).msb = true ↔ _
  rw [BitVec.msb_xor]
  cases x.toBitVec.msb <;> cases y.toBitVec.msb <;> simp
theorem t_floor (a b : Int) (hb : 0 < b) : a / b = if a.tdiv b * b = a then a.tdiv b else if a < 0 then a.tdiv b - 1 else a.tdiv b := by
  have h1 : b * a.tdiv b + a.tmod b = a := Int.mul_tdiv_add_tmod a b
  have h2 : a.tdiv b * b = b * a.tdiv b := Int.mul_comm _ _
  have h3 : a.tmod b < b := Int.tmod_lt_of_pos a hb
  have h4 : -b < a.tmod b := by
    have := Int.lt_tmod_of_pos a hb
    omega
  have h5 : 0 ≤ a → 0 ≤ a.tmod b := fun h => Int.tmod_nonneg b h
  have h6 : a ≤ 0 → a.tmod b ≤ 0 := fun h => t_modnp b h
  rw [h2]
  split
  · rename_i h
    conv => lhs; rw [← h]
    rw [Int.mul_comm, Int.mul_ediv_cancel _ (by omega)]
  · rename_i h
    split
    · rename_i h7
      have h8 : a = (a.tmod b + b) + b * (a.tdiv b - 1) := by rw [Int.mul_sub]; omega
      conv => lhs; rw [h8]
      rw [Int.add_mul_ediv_left _ _ (by omega), Int.ediv_eq_zero_of_lt (by omega) (by have := h6 (by omega); omega)]
      omega
    · rename_i h7
      have h8 : a = a.tmod b + b * a.tdiv b := by omega
      conv => lhs; rw [h8]
      rw [Int.add_mul_ediv_left _ _ (by omega), Int.ediv_eq_zero_of_lt (h5 (by omega)) h3]
      omega
theorem tdiv_bd (a b : Int) (hb : 0 < b) : -a.natAbs ≤ a.tdiv b ∧ a.tdiv b ≤ a.natAbs := by
  have h3 : (a.tdiv b).natAbs = a.natAbs / b.natAbs := Int.natAbs_tdiv ..
  have h4 := Nat.div_le_self a.natAbs b.natAbs
  omega
theorem tmul_bd (a b : Int) (hb : 0 < b) : -a.natAbs ≤ a.tdiv b * b ∧ a.tdiv b * b ≤ a.natAbs := by
  have h1 : b * a.tdiv b + a.tmod b = a := Int.mul_tdiv_add_tmod a b
  have h2 : a.tdiv b * b = b * a.tdiv b := Int.mul_comm _ _
  have h5 : 0 ≤ a → 0 ≤ a.tmod b := fun h => Int.tmod_nonneg b h
  have h6 : a ≤ 0 → a.tmod b ≤ 0 := fun h => t_modnp b h
  have h7 : (a.tmod b).natAbs ≤ a.natAbs := by
    rw [Int.natAbs_tmod]; exact Nat.mod_le ..
  omega
theorem l_divmul (x y : Int64) (hy : 0 < y.toInt) : (x / y * y).toInt = x.toInt.tdiv y.toInt * y.toInt := by
  have hx := l_rng x
  have h1 := l_div x y (by omega)
  have h2 := tmul_bd x.toInt y.toInt hy
  have h3 : ¬ x.toInt.tdiv y.toInt * y.toInt = 9223372036854775808 := by
    intro h
    have h5 : 0 ≤ x.toInt → 0 ≤ x.toInt.tdiv y.toInt := fun h => Int.tdiv_nonneg h (by omega)
    by_cases h6 : 0 ≤ x.toInt
    · omega
    · have h7 : x.toInt.tdiv y.toInt ≤ 0 := t_divnp (by omega) (by omega)
      have h8 : x.toInt.tdiv y.toInt * y.toInt ≤ 0 := Int.mul_nonpos_of_nonpos_of_nonneg h7 (by omega)
      omega
  rw [l_mul, h1]
  · rw [h1]; omega
  · rw [h1]; omega
theorem l_lt0 (x : Int64) : x < 0 ↔ x.toInt < 0 := Int64.lt_iff_toInt_lt
theorem l_dec (x y : Int64) (hy : 0 < y.toInt) : x.toInt.tdiv y.toInt * y.toInt ≠ x.toInt → x.toInt < 0 → (x / y - 1).toInt = x.toInt.tdiv y.toInt - 1 := by
  intro h1 h2
  have hx := l_rng x
  have h3 := l_div x y (by omega)
  have h4 : x.toInt.tdiv y.toInt ≤ 0 := t_divnp (by omega) (by omega)
  have h5 := tdiv_bd x.toInt y.toInt hy
  have h6 : x.toInt.tdiv y.toInt ≠ -9223372036854775808 := by
    intro h
    have h9 : x.toInt = -9223372036854775808 := by omega
    have h8 : y.toInt = 1 := by
      by_cases h7 : 2 ≤ y.toInt
      · have h10 : (x.toInt.tdiv y.toInt).natAbs = x.toInt.natAbs / y.toInt.natAbs := Int.natAbs_tdiv ..
        have h11 : x.toInt.natAbs / y.toInt.natAbs ≤ x.toInt.natAbs / 2 := Nat.div_le_div_left (by omega) (by omega)
        omega
      · omega
    rw [h8] at h1
    simp at h1
  rw [l_sub, h3]
  · rfl
  · rw [h3]; show _ ≤ _ - 1; omega
  · rw [h3]; show _ - 1 < _; omega
theorem fd_pos (x y : Int64) (hy : 0 < y.toInt) : (fdiv x y).toInt = x.toInt / y.toInt := by
  have hx := l_rng x
  have h0 : ¬ (x.toInt = -9223372036854775808 ∧ y.toInt = -1) := by omega
  have h1 := l_div x y h0
  have hyn : ¬ y < 0 := by rw [l_lt0]; omega
  rw [t_floor _ _ hy]
  unfold fdiv
  have h2 : (x ^^^ y) < 0 ↔ x.toInt < 0 := by rw [l_xor_neg, ← l_lt0]; simp [hyn]
  have h3 : x / y * y = x ↔ x.toInt.tdiv y.toInt * y.toInt = x.toInt := by rw [← Int64.toInt_inj, l_divmul x y hy]
  by_cases c1 : x.toInt < 0
  · rw [if_pos (h2.mpr c1)]
    by_cases c2 : x.toInt.tdiv y.toInt * y.toInt = x.toInt
    · rw [if_pos (h3.mpr c2), if_pos c2, h1]
    · rw [if_neg (fun h => c2 (h3.mp h)), if_neg c2, if_pos c1, l_dec x y hy c2 c1]
  · rw [if_neg (fun h => c1 (h2.mp h)), h1]
    split <;> first | rfl | rw [if_neg c1]
/-- the reference's division downward -/
theorem dn_pos (x y : Int64) (hy : 0 < y.toInt) : (if x < x / y * y then x / y - 1 else x / y) = fdiv x y := by
  apply l_inj
  rw [fd_pos x y hy, t_floor _ _ hy]
  have hx := l_rng x
  have h1 := l_div x y (by omega)
  have h2 : x < x / y * y ↔ x.toInt < x.toInt.tdiv y.toInt * y.toInt := by rw [Int64.lt_iff_toInt_lt, l_divmul x y hy]
  have h5 : 0 ≤ x.toInt → 0 ≤ x.toInt.tmod y.toInt := fun h => Int.tmod_nonneg _ h
  have h6 : x.toInt ≤ 0 → x.toInt.tmod y.toInt ≤ 0 := fun h => t_modnp _ h
  have h7 : y.toInt * x.toInt.tdiv y.toInt + x.toInt.tmod y.toInt = x.toInt := Int.mul_tdiv_add_tmod _ _
  rw [Int.mul_comm] at h7
  by_cases c1 : x.toInt < x.toInt.tdiv y.toInt * y.toInt
  · rw [if_pos (h2.mpr c1), if_neg (by omega), if_pos (by omega), l_dec x y hy (by omega) (by omega)]
  · rw [if_neg (fun h => c1 (h2.mp h)), h1]
    split
    · rfl
    · rw [if_neg]
      intro h
      have := h6 (by omega)
      omega
theorem lrem_eq0 (x y : Int64) (hy : 0 < y.toInt) : lrem x y = 0 ↔ x / y * y = x := by
  unfold lrem
  constructor
  · intro h
    grind
  · intro h
    rw [h]; grind
theorem dr_pos (x y : Int64) (hy : 0 < y.toInt) : x / y - (if ¬ lrem x y = 0 ∧ x < 0 then 1 else 0) = fdiv x y := by
  apply l_inj
  rw [fd_pos x y hy, t_floor _ _ hy]
  have hx := l_rng x
  have h1 := l_div x y (by omega)
  have h3 : x / y * y = x ↔ x.toInt.tdiv y.toInt * y.toInt = x.toInt := by rw [← Int64.toInt_inj, l_divmul x y hy]
  by_cases c1 : x.toInt.tdiv y.toInt * y.toInt = x.toInt
  · rw [if_pos c1, if_neg (by rw [lrem_eq0 x y hy]; exact fun h => h.1 (h3.mpr c1))]
    rw [show x / y - 0 = x / y by grind, h1]
  · rw [if_neg c1]
    by_cases c2 : x.toInt < 0
    · rw [if_pos c2, if_pos ⟨fun h => c1 (h3.mp ((lrem_eq0 x y hy).mp h)), (l_lt0 x).mpr c2⟩, l_dec x y hy c1 c2]
    · rw [if_neg c2, if_neg (fun h => c2 ((l_lt0 x).mp h.2)), show x / y - 0 = x / y by grind, h1]
theorem irem_int (x y : Int32) (hy : 0 < y.toInt) : (irem x y).toInt = x.toInt.tmod y.toInt := by
  have hx := i_rng x
  have hy2 := i_rng y
  have h1 := i_div x y (by omega)
  have h2 := tmul_bd x.toInt y.toInt hy
  have h7 : y.toInt * x.toInt.tdiv y.toInt + x.toInt.tmod y.toInt = x.toInt := Int.mul_tdiv_add_tmod _ _
  have h3 : ¬ x.toInt.tdiv y.toInt * y.toInt = 2147483648 := by
    intro h
    by_cases h6 : 0 ≤ x.toInt
    · omega
    · have h7 : x.toInt.tdiv y.toInt ≤ 0 := t_divnp (by omega) (by omega)
      have h8 : x.toInt.tdiv y.toInt * y.toInt ≤ 0 := Int.mul_nonpos_of_nonpos_of_nonneg h7 (by omega)
      omega
  have h4 : (x / y * y).toInt = x.toInt.tdiv y.toInt * y.toInt := by
    rw [i_mul, h1]
    · rw [h1]; omega
    · rw [h1]; omega
  unfold irem
  rw [Int.mul_comm] at h7
  have h9 : (x.toInt.tmod y.toInt).natAbs ≤ x.toInt.natAbs := by
    rw [Int.natAbs_tmod]; exact Nat.mod_le ..
  have h5 : 0 ≤ x.toInt → 0 ≤ x.toInt.tmod y.toInt := fun h => Int.tmod_nonneg _ h
  have h6 : x.toInt ≤ 0 → x.toInt.tmod y.toInt ≤ 0 := fun h => t_modnp _ h
  rw [i_sub, h4]
  · omega
  · rw [h4]; omega
  · rw [h4]; omega
