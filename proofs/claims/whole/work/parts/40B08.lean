/-! the values that arguments may have, on both sides -/
def naL : List Nat := [0, 4, 6, 4, 5, 5, 3, 2, 2, 6, 2, 8, 6, 1, 1, 1, 2, 3, 5, 2, 6, 2, 0, 1, 4, 5]
def baL : List Nat := [0, 0, 4, 10, 14, 19, 24, 27, 29, 31, 37, 39, 47, 53, 54, 55, 56, 58, 61, 66, 68, 74, 76, 76, 77, 81]
def loL : List Int := [(0), (-2147483648), (0), (0), (-1023), (-1023), (1), (1), (0), (0), (-2147483648), (-2147483648), (-2147483648), (-2147483648), (0), (0), (0), (0), (0), (0), (-2147483648), (-2147483648), (-2147483648), (-2147483648), (0), (0), (0), (0), (1), (0), (1), (0), (0), (0), (0), (1), (0), (-1), (0), (0), (-1), (0), (0), (0), (0), (0), (0), (0), (0), (0), (0), (-1), (0), (-2147483648), (-1), (0), (0), (0), (0), (0), (0), (0), (0), (0), (0), (-2147483648), (0), (0), (0), (0), (1), (1), (0), (0), (0), (0), (0), (0), (0), (0), (0), (0), (-2147483648), (-2147483648), (-2147483648), (-2147483648)]
def hiL : List Int := [(7), (2147483647), (16777215), (255), (1023), (1023), (1024), (1024), (16777215), (16777215), (2147483647), (2147483647), (2147483647), (2147483647), (7), (1048576), (1024), (4), (3), (31), (2147483647), (2147483647), (2147483647), (2147483647), (31), (32), (1048576), (1048576), (256), (1048576), (256), (3), (1048576), (10), (10), (11), (7), (7), (1), (1), (7), (255), (255), (255), (7), (7), (7), (14), (14), (14), (14), (4), (4), (2147483647), (15), (15), (3), (1), (2), (1048576), (4096), (2), (1048576), (4096), (2), (2147483647), (7), (1), (127), (127), (128), (128), (1048576), (2), (1048576), (256), (1048576), (3), (3), (3), (3), (3), (2147483647), (2147483647), (2147483647), (2147483647)]
def na (K : Nat) : Nat := naL.getD K 0
def vlo (K k : Nat) : Int := loL.getD (baL.getD K 0 + k) 0
def vhi (K k : Nat) : Int := hiL.getD (baL.getD K 0 + k) 0
theorem t_args : ∀ K, K < 26 → tb_ARGUMENTS K = Int32.ofNat (na K) ∧ tb_BOUNDS_AT K = Int32.ofNat (baL.getD K 0) ∧ na K ≤ 8 ∧ baL.getD K 0 + na K ≤ 86 := by decide +kernel
theorem t_lohi : ∀ j, j < 86 → (tb_LEAST j).toInt = loL.getD j 0 ∧ (tb_MOST j).toInt = hiL.getD j 0 := by decide +kernel
theorem e_cin (v : Int32) (a b : Int) (ha : -2147483648 ≤ a ∧ a ≤ 2147483647) (hb : -2147483648 ≤ b ∧ b ≤ 2147483647) : F_Cmd_in v.toInt64 (Int64.ofInt a) (Int64.ofInt b) = some (bI (decide (a ≤ v.toInt ∧ v.toInt ≤ b))) := by
  unfold F_Cmd_in F_Cmd_in_17 F_Cmd_in_18
  have e1 : (v.toInt64 < Int64.ofInt a) ↔ v.toInt < a := by rw [Int64.lt_iff_toInt_lt, l_ext, l_int a (by omega) (by omega)]
  have e2 : (Int64.ofInt b < v.toInt64) ↔ b < v.toInt := by rw [Int64.lt_iff_toInt_lt, l_ext, l_int b (by omega) (by omega)]
  by_cases c : v.toInt < a
  · rw [if_pos (e1.mpr c), decide_eq_false (by omega)]; rfl
  · rw [if_neg (fun e => c (e1.mp e))]
    by_cases d : b < v.toInt
    · rw [if_pos (e2.mpr d), decide_eq_false (by omega)]; rfl
    · rw [if_neg (fun e => d (e2.mp e)), decide_eq_true (by omega)]; rfl
theorem bI_ck (b : Bool) : ck (bI b = 0 ∨ bI b = 1) (some (bI b)) = some (bI b) := by cases b <;> rfl
theorem bI_if (b : Bool) : (if bI b = 0 then some (0 : Int32) else some 1) = some (bI b) := by cases b <;> rfl
theorem bI_any (v : Int32) : (1 : Int32) = bI (decide (-2147483648 ≤ v.toInt ∧ v.toInt ≤ 2147483647)) := by
  have := i_rng v
  rw [decide_eq_true (by omega)]; rfl
theorem ck_0 : ck ((0 : Int32) = 0 ∨ (0 : Int32) = 1) (some (0 : Int32)) = some 0 := rfl
theorem ck_1 : ck ((1 : Int32) = 0 ∨ (1 : Int32) = 1) (some (1 : Int32)) = some 1 := rfl

theorem may_1_0 (v : Int32) : F_Cmd_may 1 0 v = some (bI (decide ((0 : Int) ≤ v.toInt ∧ v.toInt ≤ 7))) := by
  have e := e_cin v (0) 7 (by omega) (by omega)
  show ((F_Cmd_in v.toInt64 (Int64.ofInt (0)) (Int64.ofInt 7)) : Option Int32).bind _ = _
  rw [e]
  cases decide ((0 : Int) ≤ v.toInt ∧ v.toInt ≤ 7) <;> rfl
theorem may_1_1 (v : Int32) : F_Cmd_may 1 1 v = some (bI (decide ((-2147483648 : Int) ≤ v.toInt ∧ v.toInt ≤ 2147483647))) := by
  rw [← bI_any v]
  rfl
theorem may_1_2 (v : Int32) : F_Cmd_may 1 2 v = some (bI (decide ((0 : Int) ≤ v.toInt ∧ v.toInt ≤ 16777215))) := by
  have e := e_cin v (0) 16777215 (by omega) (by omega)
  show ((F_Cmd_in v.toInt64 (Int64.ofInt (0)) (Int64.ofInt 16777215)) : Option Int32).bind _ = _
  rw [e]
  cases decide ((0 : Int) ≤ v.toInt ∧ v.toInt ≤ 16777215) <;> rfl
theorem may_1_3 (v : Int32) : F_Cmd_may 1 3 v = some (bI (decide ((0 : Int) ≤ v.toInt ∧ v.toInt ≤ 255))) := by
  have e := e_cin v (0) 255 (by omega) (by omega)
  show ((F_Cmd_in v.toInt64 (Int64.ofInt (0)) (Int64.ofInt 255)) : Option Int32).bind _ = _
  rw [e]
  cases decide ((0 : Int) ≤ v.toInt ∧ v.toInt ≤ 255) <;> rfl
theorem may_2_0 (v : Int32) : F_Cmd_may 2 0 v = some (bI (decide ((-1023 : Int) ≤ v.toInt ∧ v.toInt ≤ 1023))) := by
  have e := e_cin v (-1023) 1023 (by omega) (by omega)
  show (((F_Cmd_in v.toInt64 (Int64.ofInt (-1023)) (Int64.ofInt 1023)) : Option Int32).bind _).bind _ = _
  rw [e]
  cases decide ((-1023 : Int) ≤ v.toInt ∧ v.toInt ≤ 1023) <;> rfl
theorem may_2_1 (v : Int32) : F_Cmd_may 2 1 v = some (bI (decide ((-1023 : Int) ≤ v.toInt ∧ v.toInt ≤ 1023))) := by
  have e := e_cin v (-1023) 1023 (by omega) (by omega)
  show (((F_Cmd_in v.toInt64 (Int64.ofInt (-1023)) (Int64.ofInt 1023)) : Option Int32).bind _).bind _ = _
  rw [e]
  cases decide ((-1023 : Int) ≤ v.toInt ∧ v.toInt ≤ 1023) <;> rfl
theorem may_2_2 (v : Int32) : F_Cmd_may 2 2 v = some (bI (decide ((1 : Int) ≤ v.toInt ∧ v.toInt ≤ 1024))) := by
  have e := e_cin v (1) 1024 (by omega) (by omega)
  show (((F_Cmd_in v.toInt64 (Int64.ofInt (1)) (Int64.ofInt 1024)) : Option Int32).bind _).bind _ = _
  rw [e]
  cases decide ((1 : Int) ≤ v.toInt ∧ v.toInt ≤ 1024) <;> rfl
theorem may_2_3 (v : Int32) : F_Cmd_may 2 3 v = some (bI (decide ((1 : Int) ≤ v.toInt ∧ v.toInt ≤ 1024))) := by
  have e := e_cin v (1) 1024 (by omega) (by omega)
  show (((F_Cmd_in v.toInt64 (Int64.ofInt (1)) (Int64.ofInt 1024)) : Option Int32).bind _).bind _ = _
  rw [e]
  cases decide ((1 : Int) ≤ v.toInt ∧ v.toInt ≤ 1024) <;> rfl
theorem may_2_4 (v : Int32) : F_Cmd_may 2 4 v = some (bI (decide ((0 : Int) ≤ v.toInt ∧ v.toInt ≤ 16777215))) := by
  have e := e_cin v (0) 16777215 (by omega) (by omega)
  show (((F_Cmd_in v.toInt64 (Int64.ofInt (0)) (Int64.ofInt 16777215)) : Option Int32).bind _).bind _ = _
  rw [e]
  cases decide ((0 : Int) ≤ v.toInt ∧ v.toInt ≤ 16777215) <;> rfl
theorem may_2_5 (v : Int32) : F_Cmd_may 2 5 v = some (bI (decide ((0 : Int) ≤ v.toInt ∧ v.toInt ≤ 16777215))) := by
  have e := e_cin v (0) 16777215 (by omega) (by omega)
  show (((F_Cmd_in v.toInt64 (Int64.ofInt (0)) (Int64.ofInt 16777215)) : Option Int32).bind _).bind _ = _
  rw [e]
  cases decide ((0 : Int) ≤ v.toInt ∧ v.toInt ≤ 16777215) <;> rfl
theorem may_3_0 (v : Int32) : F_Cmd_may 3 0 v = some (bI (decide ((-2147483648 : Int) ≤ v.toInt ∧ v.toInt ≤ 2147483647))) := by
  rw [← bI_any v]
  rfl
theorem may_3_1 (v : Int32) : F_Cmd_may 3 1 v = some (bI (decide ((-2147483648 : Int) ≤ v.toInt ∧ v.toInt ≤ 2147483647))) := by
  rw [← bI_any v]
  rfl
theorem may_3_2 (v : Int32) : F_Cmd_may 3 2 v = some (bI (decide ((-2147483648 : Int) ≤ v.toInt ∧ v.toInt ≤ 2147483647))) := by
  rw [← bI_any v]
  rfl
theorem may_3_3 (v : Int32) : F_Cmd_may 3 3 v = some (bI (decide ((-2147483648 : Int) ≤ v.toInt ∧ v.toInt ≤ 2147483647))) := by
  rw [← bI_any v]
  rfl
theorem may_4_0 (v : Int32) : F_Cmd_may 4 0 v = some (bI (decide ((0 : Int) ≤ v.toInt ∧ v.toInt ≤ 7))) := by
  have e := e_cin v (0) 7 (by omega) (by omega)
  show ((F_Cmd_in v.toInt64 (Int64.ofInt (0)) (Int64.ofInt 7)) : Option Int32).bind _ = _
  rw [e]
  cases decide ((0 : Int) ≤ v.toInt ∧ v.toInt ≤ 7) <;> rfl
theorem may_4_1 (v : Int32) : F_Cmd_may 4 1 v = some (bI (decide ((0 : Int) ≤ v.toInt ∧ v.toInt ≤ 1048576))) := by
  have e := e_cin v (0) 1048576 (by omega) (by omega)
  show ((F_Cmd_in v.toInt64 (Int64.ofInt (0)) (Int64.ofInt 1048576)) : Option Int32).bind _ = _
  rw [e]
  cases decide ((0 : Int) ≤ v.toInt ∧ v.toInt ≤ 1048576) <;> rfl
theorem may_4_2 (v : Int32) : F_Cmd_may 4 2 v = some (bI (decide ((0 : Int) ≤ v.toInt ∧ v.toInt ≤ 1024))) := by
  have e := e_cin v (0) 1024 (by omega) (by omega)
  show ((F_Cmd_in v.toInt64 (Int64.ofInt (0)) (Int64.ofInt 1024)) : Option Int32).bind _ = _
  rw [e]
  cases decide ((0 : Int) ≤ v.toInt ∧ v.toInt ≤ 1024) <;> rfl
theorem may_4_3 (v : Int32) : F_Cmd_may 4 3 v = some (bI (decide ((0 : Int) ≤ v.toInt ∧ v.toInt ≤ 4))) := by
  have e := e_cin v (0) 4 (by omega) (by omega)
  show ((F_Cmd_in v.toInt64 (Int64.ofInt (0)) (Int64.ofInt 4)) : Option Int32).bind _ = _
  rw [e]
  cases decide ((0 : Int) ≤ v.toInt ∧ v.toInt ≤ 4) <;> rfl
theorem may_4_4 (v : Int32) : F_Cmd_may 4 4 v = some (bI (decide ((0 : Int) ≤ v.toInt ∧ v.toInt ≤ 3))) := by
  have e := e_cin v (0) 3 (by omega) (by omega)
  show ((F_Cmd_in v.toInt64 (Int64.ofInt (0)) (Int64.ofInt 3)) : Option Int32).bind _ = _
  rw [e]
  cases decide ((0 : Int) ≤ v.toInt ∧ v.toInt ≤ 3) <;> rfl
theorem may_5_0 (v : Int32) : F_Cmd_may 5 0 v = some (bI (decide ((0 : Int) ≤ v.toInt ∧ v.toInt ≤ 31))) := by
  have e := e_cin v (0) 31 (by omega) (by omega)
  show ((F_Cmd_in v.toInt64 (Int64.ofInt (0)) (Int64.ofInt 31)) : Option Int32).bind _ = _
  rw [e]
  cases decide ((0 : Int) ≤ v.toInt ∧ v.toInt ≤ 31) <;> rfl
theorem may_5_1 (v : Int32) : F_Cmd_may 5 1 v = some (bI (decide ((-2147483648 : Int) ≤ v.toInt ∧ v.toInt ≤ 2147483647))) := by
  rw [← bI_any v]
  rfl
theorem may_5_2 (v : Int32) : F_Cmd_may 5 2 v = some (bI (decide ((-2147483648 : Int) ≤ v.toInt ∧ v.toInt ≤ 2147483647))) := by
  rw [← bI_any v]
  rfl
theorem may_5_3 (v : Int32) : F_Cmd_may 5 3 v = some (bI (decide ((-2147483648 : Int) ≤ v.toInt ∧ v.toInt ≤ 2147483647))) := by
  rw [← bI_any v]
  rfl
theorem may_5_4 (v : Int32) : F_Cmd_may 5 4 v = some (bI (decide ((-2147483648 : Int) ≤ v.toInt ∧ v.toInt ≤ 2147483647))) := by
  rw [← bI_any v]
  rfl
theorem may_6_0 (v : Int32) : F_Cmd_may 6 0 v = some (bI (decide ((0 : Int) ≤ v.toInt ∧ v.toInt ≤ 31))) := by
  have e := e_cin v (0) 31 (by omega) (by omega)
  show ((F_Cmd_in v.toInt64 (Int64.ofInt (0)) (Int64.ofInt 31)) : Option Int32).bind _ = _
  rw [e]
  cases decide ((0 : Int) ≤ v.toInt ∧ v.toInt ≤ 31) <;> rfl
theorem may_6_1 (v : Int32) : F_Cmd_may 6 1 v = some (bI (decide ((0 : Int) ≤ v.toInt ∧ v.toInt ≤ 32))) := by
  have e := e_cin v (0) 32 (by omega) (by omega)
  show ((F_Cmd_in v.toInt64 (Int64.ofInt (0)) (Int64.ofInt 32)) : Option Int32).bind _ = _
  rw [e]
  cases decide ((0 : Int) ≤ v.toInt ∧ v.toInt ≤ 32) <;> rfl
theorem may_6_2 (v : Int32) : F_Cmd_may 6 2 v = some (bI (decide ((0 : Int) ≤ v.toInt ∧ v.toInt ≤ 1048576))) := by
  have e := e_cin v (0) 1048576 (by omega) (by omega)
  show ((F_Cmd_in v.toInt64 (Int64.ofInt (0)) (Int64.ofInt 1048576)) : Option Int32).bind _ = _
  rw [e]
  cases decide ((0 : Int) ≤ v.toInt ∧ v.toInt ≤ 1048576) <;> rfl
theorem may_7_0 (v : Int32) : F_Cmd_may 7 0 v = some (bI (decide ((0 : Int) ≤ v.toInt ∧ v.toInt ≤ 1048576))) := by
  have e := e_cin v (0) 1048576 (by omega) (by omega)
  show ((F_Cmd_in v.toInt64 (Int64.ofInt (0)) (Int64.ofInt 1048576)) : Option Int32).bind _ = _
  rw [e]
  cases decide ((0 : Int) ≤ v.toInt ∧ v.toInt ≤ 1048576) <;> rfl
theorem may_7_1 (v : Int32) : F_Cmd_may 7 1 v = some (bI (decide ((1 : Int) ≤ v.toInt ∧ v.toInt ≤ 256))) := by
  have e := e_cin v (1) 256 (by omega) (by omega)
  show ((F_Cmd_in v.toInt64 (Int64.ofInt (1)) (Int64.ofInt 256)) : Option Int32).bind _ = _
  rw [e]
  cases decide ((1 : Int) ≤ v.toInt ∧ v.toInt ≤ 256) <;> rfl
theorem may_8_0 (v : Int32) : F_Cmd_may 8 0 v = some (bI (decide ((0 : Int) ≤ v.toInt ∧ v.toInt ≤ 1048576))) := by
  have e := e_cin v (0) 1048576 (by omega) (by omega)
  show ((F_Cmd_in v.toInt64 (Int64.ofInt (0)) (Int64.ofInt 1048576)) : Option Int32).bind _ = _
  rw [e]
  cases decide ((0 : Int) ≤ v.toInt ∧ v.toInt ≤ 1048576) <;> rfl
theorem may_8_1 (v : Int32) : F_Cmd_may 8 1 v = some (bI (decide ((1 : Int) ≤ v.toInt ∧ v.toInt ≤ 256))) := by
  have e := e_cin v (1) 256 (by omega) (by omega)
  show ((F_Cmd_in v.toInt64 (Int64.ofInt (1)) (Int64.ofInt 256)) : Option Int32).bind _ = _
  rw [e]
  cases decide ((1 : Int) ≤ v.toInt ∧ v.toInt ≤ 256) <;> rfl
theorem may_9_0 (v : Int32) : F_Cmd_may 9 0 v = some (bI (decide ((0 : Int) ≤ v.toInt ∧ v.toInt ≤ 3))) := by
  have e := e_cin v (0) 3 (by omega) (by omega)
  show (((F_Cmd_in v.toInt64 (Int64.ofInt (0)) (Int64.ofInt 3)) : Option Int32).bind _).bind _ = _
  rw [e]
  cases decide ((0 : Int) ≤ v.toInt ∧ v.toInt ≤ 3) <;> rfl
theorem may_9_1 (v : Int32) : F_Cmd_may 9 1 v = some (bI (decide ((0 : Int) ≤ v.toInt ∧ v.toInt ≤ 1048576))) := by
  have e := e_cin v (0) 1048576 (by omega) (by omega)
  show (((F_Cmd_in v.toInt64 (Int64.ofInt (0)) (Int64.ofInt 1048576)) : Option Int32).bind _).bind _ = _
  rw [e]
  cases decide ((0 : Int) ≤ v.toInt ∧ v.toInt ≤ 1048576) <;> rfl
theorem may_9_2 (v : Int32) : F_Cmd_may 9 2 v = some (bI (decide ((0 : Int) ≤ v.toInt ∧ v.toInt ≤ 10))) := by
  have e := e_cin v (0) 10 (by omega) (by omega)
  show (((F_Cmd_in v.toInt64 (Int64.ofInt (0)) (Int64.ofInt 10)) : Option Int32).bind _).bind _ = _
  rw [e]
  cases decide ((0 : Int) ≤ v.toInt ∧ v.toInt ≤ 10) <;> rfl
theorem may_9_3 (v : Int32) : F_Cmd_may 9 3 v = some (bI (decide ((0 : Int) ≤ v.toInt ∧ v.toInt ≤ 10))) := by
  have e := e_cin v (0) 10 (by omega) (by omega)
  show (((F_Cmd_in v.toInt64 (Int64.ofInt (0)) (Int64.ofInt 10)) : Option Int32).bind _).bind _ = _
  rw [e]
  cases decide ((0 : Int) ≤ v.toInt ∧ v.toInt ≤ 10) <;> rfl
theorem may_9_4 (v : Int32) : F_Cmd_may 9 4 v = some (bI (decide ((1 : Int) ≤ v.toInt ∧ v.toInt ≤ 11))) := by
  have e := e_cin v (1) 11 (by omega) (by omega)
  show (((F_Cmd_in v.toInt64 (Int64.ofInt (1)) (Int64.ofInt 11)) : Option Int32).bind _).bind _ = _
  rw [e]
  cases decide ((1 : Int) ≤ v.toInt ∧ v.toInt ≤ 11) <;> rfl
theorem may_9_5 (v : Int32) : F_Cmd_may 9 5 v = some (bI (decide ((0 : Int) ≤ v.toInt ∧ v.toInt ≤ 7))) := by
  have e := e_cin v (0) 7 (by omega) (by omega)
  show (((F_Cmd_in v.toInt64 (Int64.ofInt (0)) (Int64.ofInt 7)) : Option Int32).bind _).bind _ = _
  rw [e]
  cases decide ((0 : Int) ≤ v.toInt ∧ v.toInt ≤ 7) <;> rfl
theorem may_10_0 (v : Int32) : F_Cmd_may 10 0 v = some (bI (decide ((-1 : Int) ≤ v.toInt ∧ v.toInt ≤ 7))) := by
  have e := e_cin v (-1) 7 (by omega) (by omega)
  show ((F_Cmd_in v.toInt64 (Int64.ofInt (-1)) (Int64.ofInt 7)) : Option Int32).bind _ = _
  rw [e]
  cases decide ((-1 : Int) ≤ v.toInt ∧ v.toInt ≤ 7) <;> rfl
theorem may_10_1 (v : Int32) : F_Cmd_may 10 1 v = some (bI (decide ((0 : Int) ≤ v.toInt ∧ v.toInt ≤ 1))) := by
  have e := e_cin v (0) 1 (by omega) (by omega)
  show ((F_Cmd_in v.toInt64 (Int64.ofInt (0)) (Int64.ofInt 1)) : Option Int32).bind _ = _
  rw [e]
  cases decide ((0 : Int) ≤ v.toInt ∧ v.toInt ≤ 1) <;> rfl
theorem may_11_0 (v : Int32) : F_Cmd_may 11 0 v = some (bI (decide ((0 : Int) ≤ v.toInt ∧ v.toInt ≤ 1))) := by
  have e := e_cin v (0) 1 (by omega) (by omega)
  show (((F_Cmd_in v.toInt64 (Int64.ofInt (0)) (Int64.ofInt 1)) : Option Int32).bind _).bind _ = _
  rw [e]
  cases decide ((0 : Int) ≤ v.toInt ∧ v.toInt ≤ 1) <;> rfl
theorem may_11_1 (v : Int32) : F_Cmd_may 11 1 v = some (bI (decide ((-1 : Int) ≤ v.toInt ∧ v.toInt ≤ 7))) := by
  have e := e_cin v (-1) 7 (by omega) (by omega)
  show (((F_Cmd_in v.toInt64 (Int64.ofInt (-1)) (Int64.ofInt 7)) : Option Int32).bind _).bind _ = _
  rw [e]
  cases decide ((-1 : Int) ≤ v.toInt ∧ v.toInt ≤ 7) <;> rfl
theorem may_11_2 (v : Int32) : F_Cmd_may 11 2 v = some (bI (decide ((0 : Int) ≤ v.toInt ∧ v.toInt ≤ 255))) := by
  have e := e_cin v (0) 255 (by omega) (by omega)
  show (((F_Cmd_in v.toInt64 (Int64.ofInt (0)) (Int64.ofInt 255)) : Option Int32).bind _).bind _ = _
  rw [e]
  cases decide ((0 : Int) ≤ v.toInt ∧ v.toInt ≤ 255) <;> rfl
theorem may_11_3 (v : Int32) : F_Cmd_may 11 3 v = some (bI (decide ((0 : Int) ≤ v.toInt ∧ v.toInt ≤ 255))) := by
  have e := e_cin v (0) 255 (by omega) (by omega)
  show (((F_Cmd_in v.toInt64 (Int64.ofInt (0)) (Int64.ofInt 255)) : Option Int32).bind _).bind _ = _
  rw [e]
  cases decide ((0 : Int) ≤ v.toInt ∧ v.toInt ≤ 255) <;> rfl
theorem may_11_4 (v : Int32) : F_Cmd_may 11 4 v = some (bI (decide ((0 : Int) ≤ v.toInt ∧ v.toInt ≤ 255))) := by
  have e := e_cin v (0) 255 (by omega) (by omega)
  show (((F_Cmd_in v.toInt64 (Int64.ofInt (0)) (Int64.ofInt 255)) : Option Int32).bind _).bind _ = _
  rw [e]
  cases decide ((0 : Int) ≤ v.toInt ∧ v.toInt ≤ 255) <;> rfl
theorem may_11_5 (v : Int32) : F_Cmd_may 11 5 v = some (bI (decide ((0 : Int) ≤ v.toInt ∧ v.toInt ≤ 7))) := by
  have e := e_cin v (0) 7 (by omega) (by omega)
  show (((F_Cmd_in v.toInt64 (Int64.ofInt (0)) (Int64.ofInt 7)) : Option Int32).bind _).bind _ = _
  rw [e]
  cases decide ((0 : Int) ≤ v.toInt ∧ v.toInt ≤ 7) <;> rfl
theorem may_11_6 (v : Int32) : F_Cmd_may 11 6 v = some (bI (decide ((0 : Int) ≤ v.toInt ∧ v.toInt ≤ 7))) := by
  have e := e_cin v (0) 7 (by omega) (by omega)
  show (((F_Cmd_in v.toInt64 (Int64.ofInt (0)) (Int64.ofInt 7)) : Option Int32).bind _).bind _ = _
  rw [e]
  cases decide ((0 : Int) ≤ v.toInt ∧ v.toInt ≤ 7) <;> rfl
theorem may_11_7 (v : Int32) : F_Cmd_may 11 7 v = some (bI (decide ((0 : Int) ≤ v.toInt ∧ v.toInt ≤ 7))) := by
  have e := e_cin v (0) 7 (by omega) (by omega)
  show (((F_Cmd_in v.toInt64 (Int64.ofInt (0)) (Int64.ofInt 7)) : Option Int32).bind _).bind _ = _
  rw [e]
  cases decide ((0 : Int) ≤ v.toInt ∧ v.toInt ≤ 7) <;> rfl
theorem may_12_0 (v : Int32) : F_Cmd_may 12 0 v = some (bI (decide ((0 : Int) ≤ v.toInt ∧ v.toInt ≤ 14))) := by
  have e := e_cin v (0) 14 (by omega) (by omega)
  show ((F_Cmd_in v.toInt64 (Int64.ofInt (0)) (Int64.ofInt 14)) : Option Int32).bind _ = _
  rw [e]
  cases decide ((0 : Int) ≤ v.toInt ∧ v.toInt ≤ 14) <;> rfl
theorem may_12_1 (v : Int32) : F_Cmd_may 12 1 v = some (bI (decide ((0 : Int) ≤ v.toInt ∧ v.toInt ≤ 14))) := by
  have e := e_cin v (0) 14 (by omega) (by omega)
  show ((F_Cmd_in v.toInt64 (Int64.ofInt (0)) (Int64.ofInt 14)) : Option Int32).bind _ = _
  rw [e]
  cases decide ((0 : Int) ≤ v.toInt ∧ v.toInt ≤ 14) <;> rfl
theorem may_12_2 (v : Int32) : F_Cmd_may 12 2 v = some (bI (decide ((0 : Int) ≤ v.toInt ∧ v.toInt ≤ 14))) := by
  have e := e_cin v (0) 14 (by omega) (by omega)
  show ((F_Cmd_in v.toInt64 (Int64.ofInt (0)) (Int64.ofInt 14)) : Option Int32).bind _ = _
  rw [e]
  cases decide ((0 : Int) ≤ v.toInt ∧ v.toInt ≤ 14) <;> rfl
theorem may_12_3 (v : Int32) : F_Cmd_may 12 3 v = some (bI (decide ((0 : Int) ≤ v.toInt ∧ v.toInt ≤ 14))) := by
  have e := e_cin v (0) 14 (by omega) (by omega)
  show ((F_Cmd_in v.toInt64 (Int64.ofInt (0)) (Int64.ofInt 14)) : Option Int32).bind _ = _
  rw [e]
  cases decide ((0 : Int) ≤ v.toInt ∧ v.toInt ≤ 14) <;> rfl
theorem may_12_4 (v : Int32) : F_Cmd_may 12 4 v = some (bI (decide ((-1 : Int) ≤ v.toInt ∧ v.toInt ≤ 4))) := by
  have e := e_cin v (-1) 4 (by omega) (by omega)
  show ((F_Cmd_in v.toInt64 (Int64.ofInt (-1)) (Int64.ofInt 4)) : Option Int32).bind _ = _
  rw [e]
  cases decide ((-1 : Int) ≤ v.toInt ∧ v.toInt ≤ 4) <;> rfl
theorem may_12_5 (v : Int32) : F_Cmd_may 12 5 v = some (bI (decide ((0 : Int) ≤ v.toInt ∧ v.toInt ≤ 4))) := by
  have e := e_cin v (0) 4 (by omega) (by omega)
  show ((F_Cmd_in v.toInt64 (Int64.ofInt (0)) (Int64.ofInt 4)) : Option Int32).bind _ = _
  rw [e]
  cases decide ((0 : Int) ≤ v.toInt ∧ v.toInt ≤ 4) <;> rfl
theorem may_13_0 (v : Int32) : F_Cmd_may 13 0 v = some (bI (decide ((-2147483648 : Int) ≤ v.toInt ∧ v.toInt ≤ 2147483647))) := by
  rw [← bI_any v]
  rfl
theorem may_14_0 (v : Int32) : F_Cmd_may 14 0 v = some (bI (decide ((-1 : Int) ≤ v.toInt ∧ v.toInt ≤ 15))) := by
  have e := e_cin v (-1) 15 (by omega) (by omega)
  show ((F_Cmd_in v.toInt64 (Int64.ofInt (-1)) (Int64.ofInt 15)) : Option Int32).bind _ = _
  rw [e]
  cases decide ((-1 : Int) ≤ v.toInt ∧ v.toInt ≤ 15) <;> rfl
theorem may_15_0 (v : Int32) : F_Cmd_may 15 0 v = some (bI (decide ((0 : Int) ≤ v.toInt ∧ v.toInt ≤ 15))) := by
  have e := e_cin v (0) 15 (by omega) (by omega)
  show ((F_Cmd_in v.toInt64 (Int64.ofInt (0)) (Int64.ofInt 15)) : Option Int32).bind _ = _
  rw [e]
  cases decide ((0 : Int) ≤ v.toInt ∧ v.toInt ≤ 15) <;> rfl
theorem may_16_0 (v : Int32) : F_Cmd_may 16 0 v = some (bI (decide ((0 : Int) ≤ v.toInt ∧ v.toInt ≤ 3))) := by
  have e := e_cin v (0) 3 (by omega) (by omega)
  show ((F_Cmd_in v.toInt64 (Int64.ofInt (0)) (Int64.ofInt 3)) : Option Int32).bind _ = _
  rw [e]
  cases decide ((0 : Int) ≤ v.toInt ∧ v.toInt ≤ 3) <;> rfl
theorem may_16_1 (v : Int32) : F_Cmd_may 16 1 v = some (bI (decide ((0 : Int) ≤ v.toInt ∧ v.toInt ≤ 1))) := by
  have e := e_cin v (0) 1 (by omega) (by omega)
  show ((F_Cmd_in v.toInt64 (Int64.ofInt (0)) (Int64.ofInt 1)) : Option Int32).bind _ = _
  rw [e]
  cases decide ((0 : Int) ≤ v.toInt ∧ v.toInt ≤ 1) <;> rfl
theorem may_17_0 (v : Int32) : F_Cmd_may 17 0 v = some (bI (decide ((0 : Int) ≤ v.toInt ∧ v.toInt ≤ 2))) := by
  have e := e_cin v (0) 2 (by omega) (by omega)
  show ((F_Cmd_in v.toInt64 (Int64.ofInt (0)) (Int64.ofInt 2)) : Option Int32).bind _ = _
  rw [e]
  cases decide ((0 : Int) ≤ v.toInt ∧ v.toInt ≤ 2) <;> rfl
theorem may_17_1 (v : Int32) : F_Cmd_may 17 1 v = some (bI (decide ((0 : Int) ≤ v.toInt ∧ v.toInt ≤ 1048576))) := by
  have e := e_cin v (0) 1048576 (by omega) (by omega)
  show ((F_Cmd_in v.toInt64 (Int64.ofInt (0)) (Int64.ofInt 1048576)) : Option Int32).bind _ = _
  rw [e]
  cases decide ((0 : Int) ≤ v.toInt ∧ v.toInt ≤ 1048576) <;> rfl
theorem may_17_2 (v : Int32) : F_Cmd_may 17 2 v = some (bI (decide ((0 : Int) ≤ v.toInt ∧ v.toInt ≤ 4096))) := by
  have e := e_cin v (0) 4096 (by omega) (by omega)
  show ((F_Cmd_in v.toInt64 (Int64.ofInt (0)) (Int64.ofInt 4096)) : Option Int32).bind _ = _
  rw [e]
  cases decide ((0 : Int) ≤ v.toInt ∧ v.toInt ≤ 4096) <;> rfl
theorem may_18_0 (v : Int32) : F_Cmd_may 18 0 v = some (bI (decide ((0 : Int) ≤ v.toInt ∧ v.toInt ≤ 2))) := by
  have e := e_cin v (0) 2 (by omega) (by omega)
  show ((F_Cmd_in v.toInt64 (Int64.ofInt (0)) (Int64.ofInt 2)) : Option Int32).bind _ = _
  rw [e]
  cases decide ((0 : Int) ≤ v.toInt ∧ v.toInt ≤ 2) <;> rfl
theorem may_18_1 (v : Int32) : F_Cmd_may 18 1 v = some (bI (decide ((0 : Int) ≤ v.toInt ∧ v.toInt ≤ 1048576))) := by
  have e := e_cin v (0) 1048576 (by omega) (by omega)
  show ((F_Cmd_in v.toInt64 (Int64.ofInt (0)) (Int64.ofInt 1048576)) : Option Int32).bind _ = _
  rw [e]
  cases decide ((0 : Int) ≤ v.toInt ∧ v.toInt ≤ 1048576) <;> rfl
theorem may_18_2 (v : Int32) : F_Cmd_may 18 2 v = some (bI (decide ((0 : Int) ≤ v.toInt ∧ v.toInt ≤ 4096))) := by
  have e := e_cin v (0) 4096 (by omega) (by omega)
  show ((F_Cmd_in v.toInt64 (Int64.ofInt (0)) (Int64.ofInt 4096)) : Option Int32).bind _ = _
  rw [e]
  cases decide ((0 : Int) ≤ v.toInt ∧ v.toInt ≤ 4096) <;> rfl
theorem may_18_3 (v : Int32) : F_Cmd_may 18 3 v = some (bI (decide ((0 : Int) ≤ v.toInt ∧ v.toInt ≤ 2))) := by
  have e := e_cin v (0) 2 (by omega) (by omega)
  show ((F_Cmd_in v.toInt64 (Int64.ofInt (0)) (Int64.ofInt 2)) : Option Int32).bind _ = _
  rw [e]
  cases decide ((0 : Int) ≤ v.toInt ∧ v.toInt ≤ 2) <;> rfl
theorem may_18_4 (v : Int32) : F_Cmd_may 18 4 v = some (bI (decide ((-2147483648 : Int) ≤ v.toInt ∧ v.toInt ≤ 2147483647))) := by
  rw [← bI_any v]
  rfl
theorem may_19_0 (v : Int32) : F_Cmd_may 19 0 v = some (bI (decide ((0 : Int) ≤ v.toInt ∧ v.toInt ≤ 7))) := by
  have e := e_cin v (0) 7 (by omega) (by omega)
  show ((F_Cmd_in v.toInt64 (Int64.ofInt (0)) (Int64.ofInt 7)) : Option Int32).bind _ = _
  rw [e]
  cases decide ((0 : Int) ≤ v.toInt ∧ v.toInt ≤ 7) <;> rfl
theorem may_19_1 (v : Int32) : F_Cmd_may 19 1 v = some (bI (decide ((0 : Int) ≤ v.toInt ∧ v.toInt ≤ 1))) := by
  have e := e_cin v (0) 1 (by omega) (by omega)
  show ((F_Cmd_in v.toInt64 (Int64.ofInt (0)) (Int64.ofInt 1)) : Option Int32).bind _ = _
  rw [e]
  cases decide ((0 : Int) ≤ v.toInt ∧ v.toInt ≤ 1) <;> rfl
theorem may_20_0 (v : Int32) : F_Cmd_may 20 0 v = some (bI (decide ((0 : Int) ≤ v.toInt ∧ v.toInt ≤ 127))) := by
  have e := e_cin v (0) 127 (by omega) (by omega)
  show (((F_Cmd_in v.toInt64 (Int64.ofInt (0)) (Int64.ofInt 127)) : Option Int32).bind _).bind _ = _
  rw [e]
  cases decide ((0 : Int) ≤ v.toInt ∧ v.toInt ≤ 127) <;> rfl
theorem may_20_1 (v : Int32) : F_Cmd_may 20 1 v = some (bI (decide ((0 : Int) ≤ v.toInt ∧ v.toInt ≤ 127))) := by
  have e := e_cin v (0) 127 (by omega) (by omega)
  show (((F_Cmd_in v.toInt64 (Int64.ofInt (0)) (Int64.ofInt 127)) : Option Int32).bind _).bind _ = _
  rw [e]
  cases decide ((0 : Int) ≤ v.toInt ∧ v.toInt ≤ 127) <;> rfl
theorem may_20_2 (v : Int32) : F_Cmd_may 20 2 v = some (bI (decide ((1 : Int) ≤ v.toInt ∧ v.toInt ≤ 128))) := by
  have e := e_cin v (1) 128 (by omega) (by omega)
  show (((F_Cmd_in v.toInt64 (Int64.ofInt (1)) (Int64.ofInt 128)) : Option Int32).bind _).bind _ = _
  rw [e]
  cases decide ((1 : Int) ≤ v.toInt ∧ v.toInt ≤ 128) <;> rfl
theorem may_20_3 (v : Int32) : F_Cmd_may 20 3 v = some (bI (decide ((1 : Int) ≤ v.toInt ∧ v.toInt ≤ 128))) := by
  have e := e_cin v (1) 128 (by omega) (by omega)
  show (((F_Cmd_in v.toInt64 (Int64.ofInt (1)) (Int64.ofInt 128)) : Option Int32).bind _).bind _ = _
  rw [e]
  cases decide ((1 : Int) ≤ v.toInt ∧ v.toInt ≤ 128) <;> rfl
theorem may_20_4 (v : Int32) : F_Cmd_may 20 4 v = some (bI (decide ((0 : Int) ≤ v.toInt ∧ v.toInt ≤ 1048576))) := by
  have e := e_cin v (0) 1048576 (by omega) (by omega)
  show (((F_Cmd_in v.toInt64 (Int64.ofInt (0)) (Int64.ofInt 1048576)) : Option Int32).bind _).bind _ = _
  rw [e]
  cases decide ((0 : Int) ≤ v.toInt ∧ v.toInt ≤ 1048576) <;> rfl
theorem may_20_5 (v : Int32) : F_Cmd_may 20 5 v = some (bI (decide ((0 : Int) ≤ v.toInt ∧ v.toInt ≤ 2))) := by
  have e := e_cin v (0) 2 (by omega) (by omega)
  show (((F_Cmd_in v.toInt64 (Int64.ofInt (0)) (Int64.ofInt 2)) : Option Int32).bind _).bind _ = _
  rw [e]
  cases decide ((0 : Int) ≤ v.toInt ∧ v.toInt ≤ 2) <;> rfl
theorem may_21_0 (v : Int32) : F_Cmd_may 21 0 v = some (bI (decide ((0 : Int) ≤ v.toInt ∧ v.toInt ≤ 1048576))) := by
  have e := e_cin v (0) 1048576 (by omega) (by omega)
  show ((F_Cmd_in v.toInt64 (Int64.ofInt (0)) (Int64.ofInt 1048576)) : Option Int32).bind _ = _
  rw [e]
  cases decide ((0 : Int) ≤ v.toInt ∧ v.toInt ≤ 1048576) <;> rfl
theorem may_21_1 (v : Int32) : F_Cmd_may 21 1 v = some (bI (decide ((0 : Int) ≤ v.toInt ∧ v.toInt ≤ 256))) := by
  have e := e_cin v (0) 256 (by omega) (by omega)
  show ((F_Cmd_in v.toInt64 (Int64.ofInt (0)) (Int64.ofInt 256)) : Option Int32).bind _ = _
  rw [e]
  cases decide ((0 : Int) ≤ v.toInt ∧ v.toInt ≤ 256) <;> rfl
theorem may_23_0 (v : Int32) : F_Cmd_may 23 0 v = some (bI (decide ((0 : Int) ≤ v.toInt ∧ v.toInt ≤ 1048576))) := by
  have e := e_cin v (0) 1048576 (by omega) (by omega)
  show ((F_Cmd_in v.toInt64 (Int64.ofInt (0)) (Int64.ofInt 1048576)) : Option Int32).bind _ = _
  rw [e]
  cases decide ((0 : Int) ≤ v.toInt ∧ v.toInt ≤ 1048576) <;> rfl
theorem may_24_0 (v : Int32) : F_Cmd_may 24 0 v = some (bI (decide ((0 : Int) ≤ v.toInt ∧ v.toInt ≤ 3))) := by
  have e := e_cin v (0) 3 (by omega) (by omega)
  show ((F_Cmd_in v.toInt64 (Int64.ofInt (0)) (Int64.ofInt 3)) : Option Int32).bind _ = _
  rw [e]
  cases decide ((0 : Int) ≤ v.toInt ∧ v.toInt ≤ 3) <;> rfl
theorem may_24_1 (v : Int32) : F_Cmd_may 24 1 v = some (bI (decide ((0 : Int) ≤ v.toInt ∧ v.toInt ≤ 3))) := by
  have e := e_cin v (0) 3 (by omega) (by omega)
  show ((F_Cmd_in v.toInt64 (Int64.ofInt (0)) (Int64.ofInt 3)) : Option Int32).bind _ = _
  rw [e]
  cases decide ((0 : Int) ≤ v.toInt ∧ v.toInt ≤ 3) <;> rfl
theorem may_24_2 (v : Int32) : F_Cmd_may 24 2 v = some (bI (decide ((0 : Int) ≤ v.toInt ∧ v.toInt ≤ 3))) := by
  have e := e_cin v (0) 3 (by omega) (by omega)
  show ((F_Cmd_in v.toInt64 (Int64.ofInt (0)) (Int64.ofInt 3)) : Option Int32).bind _ = _
  rw [e]
  cases decide ((0 : Int) ≤ v.toInt ∧ v.toInt ≤ 3) <;> rfl
theorem may_24_3 (v : Int32) : F_Cmd_may 24 3 v = some (bI (decide ((0 : Int) ≤ v.toInt ∧ v.toInt ≤ 3))) := by
  have e := e_cin v (0) 3 (by omega) (by omega)
  show ((F_Cmd_in v.toInt64 (Int64.ofInt (0)) (Int64.ofInt 3)) : Option Int32).bind _ = _
  rw [e]
  cases decide ((0 : Int) ≤ v.toInt ∧ v.toInt ≤ 3) <;> rfl
theorem may_25_0 (v : Int32) : F_Cmd_may 25 0 v = some (bI (decide ((0 : Int) ≤ v.toInt ∧ v.toInt ≤ 3))) := by
  have e := e_cin v (0) 3 (by omega) (by omega)
  show ((F_Cmd_in v.toInt64 (Int64.ofInt (0)) (Int64.ofInt 3)) : Option Int32).bind _ = _
  rw [e]
  cases decide ((0 : Int) ≤ v.toInt ∧ v.toInt ≤ 3) <;> rfl
theorem may_25_1 (v : Int32) : F_Cmd_may 25 1 v = some (bI (decide ((-2147483648 : Int) ≤ v.toInt ∧ v.toInt ≤ 2147483647))) := by
  rw [← bI_any v]
  rfl
theorem may_25_2 (v : Int32) : F_Cmd_may 25 2 v = some (bI (decide ((-2147483648 : Int) ≤ v.toInt ∧ v.toInt ≤ 2147483647))) := by
  rw [← bI_any v]
  rfl
theorem may_25_3 (v : Int32) : F_Cmd_may 25 3 v = some (bI (decide ((-2147483648 : Int) ≤ v.toInt ∧ v.toInt ≤ 2147483647))) := by
  rw [← bI_any v]
  rfl
theorem may_25_4 (v : Int32) : F_Cmd_may 25 4 v = some (bI (decide ((-2147483648 : Int) ≤ v.toInt ∧ v.toInt ≤ 2147483647))) := by
  rw [← bI_any v]
  rfl
theorem e_may (K k : Nat) (v : Int32) (hK : K < 26) (hk : k < na K) : F_Cmd_may (Int32.ofNat K) (Int32.ofNat k) v = some (bI (decide (vlo K k ≤ v.toInt ∧ v.toInt ≤ vhi K k))) := by
  have hKc : K = 0 ∨ K = 1 ∨ K = 2 ∨ K = 3 ∨ K = 4 ∨ K = 5 ∨ K = 6 ∨ K = 7 ∨ K = 8 ∨ K = 9 ∨ K = 10 ∨ K = 11 ∨ K = 12 ∨ K = 13 ∨ K = 14 ∨ K = 15 ∨ K = 16 ∨ K = 17 ∨ K = 18 ∨ K = 19 ∨ K = 20 ∨ K = 21 ∨ K = 22 ∨ K = 23 ∨ K = 24 ∨ K = 25 := by omega
  rcases hKc with rfl | rfl | rfl | rfl | rfl | rfl | rfl | rfl | rfl | rfl | rfl | rfl | rfl | rfl | rfl | rfl | rfl | rfl | rfl | rfl | rfl | rfl | rfl | rfl | rfl | rfl
  · exact absurd hk (Nat.not_lt_zero k)
  · have hk' : k < 4 := hk
    have hkc : k = 0 ∨ k = 1 ∨ k = 2 ∨ k = 3 := by omega
    rcases hkc with rfl | rfl | rfl | rfl
    · exact may_1_0 v
    · exact may_1_1 v
    · exact may_1_2 v
    · exact may_1_3 v
  · have hk' : k < 6 := hk
    have hkc : k = 0 ∨ k = 1 ∨ k = 2 ∨ k = 3 ∨ k = 4 ∨ k = 5 := by omega
    rcases hkc with rfl | rfl | rfl | rfl | rfl | rfl
    · exact may_2_0 v
    · exact may_2_1 v
    · exact may_2_2 v
    · exact may_2_3 v
    · exact may_2_4 v
    · exact may_2_5 v
  · have hk' : k < 4 := hk
    have hkc : k = 0 ∨ k = 1 ∨ k = 2 ∨ k = 3 := by omega
    rcases hkc with rfl | rfl | rfl | rfl
    · exact may_3_0 v
    · exact may_3_1 v
    · exact may_3_2 v
    · exact may_3_3 v
  · have hk' : k < 5 := hk
    have hkc : k = 0 ∨ k = 1 ∨ k = 2 ∨ k = 3 ∨ k = 4 := by omega
    rcases hkc with rfl | rfl | rfl | rfl | rfl
    · exact may_4_0 v
    · exact may_4_1 v
    · exact may_4_2 v
    · exact may_4_3 v
    · exact may_4_4 v
  · have hk' : k < 5 := hk
    have hkc : k = 0 ∨ k = 1 ∨ k = 2 ∨ k = 3 ∨ k = 4 := by omega
    rcases hkc with rfl | rfl | rfl | rfl | rfl
    · exact may_5_0 v
    · exact may_5_1 v
    · exact may_5_2 v
    · exact may_5_3 v
    · exact may_5_4 v
  · have hk' : k < 3 := hk
    have hkc : k = 0 ∨ k = 1 ∨ k = 2 := by omega
    rcases hkc with rfl | rfl | rfl
    · exact may_6_0 v
    · exact may_6_1 v
    · exact may_6_2 v
  · have hk' : k < 2 := hk
    have hkc : k = 0 ∨ k = 1 := by omega
    rcases hkc with rfl | rfl
    · exact may_7_0 v
    · exact may_7_1 v
  · have hk' : k < 2 := hk
    have hkc : k = 0 ∨ k = 1 := by omega
    rcases hkc with rfl | rfl
    · exact may_8_0 v
    · exact may_8_1 v
  · have hk' : k < 6 := hk
    have hkc : k = 0 ∨ k = 1 ∨ k = 2 ∨ k = 3 ∨ k = 4 ∨ k = 5 := by omega
    rcases hkc with rfl | rfl | rfl | rfl | rfl | rfl
    · exact may_9_0 v
    · exact may_9_1 v
    · exact may_9_2 v
    · exact may_9_3 v
    · exact may_9_4 v
    · exact may_9_5 v
  · have hk' : k < 2 := hk
    have hkc : k = 0 ∨ k = 1 := by omega
    rcases hkc with rfl | rfl
    · exact may_10_0 v
    · exact may_10_1 v
  · have hk' : k < 8 := hk
    have hkc : k = 0 ∨ k = 1 ∨ k = 2 ∨ k = 3 ∨ k = 4 ∨ k = 5 ∨ k = 6 ∨ k = 7 := by omega
    rcases hkc with rfl | rfl | rfl | rfl | rfl | rfl | rfl | rfl
    · exact may_11_0 v
    · exact may_11_1 v
    · exact may_11_2 v
    · exact may_11_3 v
    · exact may_11_4 v
    · exact may_11_5 v
    · exact may_11_6 v
    · exact may_11_7 v
  · have hk' : k < 6 := hk
    have hkc : k = 0 ∨ k = 1 ∨ k = 2 ∨ k = 3 ∨ k = 4 ∨ k = 5 := by omega
    rcases hkc with rfl | rfl | rfl | rfl | rfl | rfl
    · exact may_12_0 v
    · exact may_12_1 v
    · exact may_12_2 v
    · exact may_12_3 v
    · exact may_12_4 v
    · exact may_12_5 v
  · have hk' : k < 1 := hk
    have hkc : k = 0 := by omega
    rcases hkc with rfl
    · exact may_13_0 v
  · have hk' : k < 1 := hk
    have hkc : k = 0 := by omega
    rcases hkc with rfl
    · exact may_14_0 v
  · have hk' : k < 1 := hk
    have hkc : k = 0 := by omega
    rcases hkc with rfl
    · exact may_15_0 v
  · have hk' : k < 2 := hk
    have hkc : k = 0 ∨ k = 1 := by omega
    rcases hkc with rfl | rfl
    · exact may_16_0 v
    · exact may_16_1 v
  · have hk' : k < 3 := hk
    have hkc : k = 0 ∨ k = 1 ∨ k = 2 := by omega
    rcases hkc with rfl | rfl | rfl
    · exact may_17_0 v
    · exact may_17_1 v
    · exact may_17_2 v
  · have hk' : k < 5 := hk
    have hkc : k = 0 ∨ k = 1 ∨ k = 2 ∨ k = 3 ∨ k = 4 := by omega
    rcases hkc with rfl | rfl | rfl | rfl | rfl
    · exact may_18_0 v
    · exact may_18_1 v
    · exact may_18_2 v
    · exact may_18_3 v
    · exact may_18_4 v
  · have hk' : k < 2 := hk
    have hkc : k = 0 ∨ k = 1 := by omega
    rcases hkc with rfl | rfl
    · exact may_19_0 v
    · exact may_19_1 v
  · have hk' : k < 6 := hk
    have hkc : k = 0 ∨ k = 1 ∨ k = 2 ∨ k = 3 ∨ k = 4 ∨ k = 5 := by omega
    rcases hkc with rfl | rfl | rfl | rfl | rfl | rfl
    · exact may_20_0 v
    · exact may_20_1 v
    · exact may_20_2 v
    · exact may_20_3 v
    · exact may_20_4 v
    · exact may_20_5 v
  · have hk' : k < 2 := hk
    have hkc : k = 0 ∨ k = 1 := by omega
    rcases hkc with rfl | rfl
    · exact may_21_0 v
    · exact may_21_1 v
  · exact absurd hk (Nat.not_lt_zero k)
  · have hk' : k < 1 := hk
    have hkc : k = 0 := by omega
    rcases hkc with rfl
    · exact may_23_0 v
  · have hk' : k < 4 := hk
    have hkc : k = 0 ∨ k = 1 ∨ k = 2 ∨ k = 3 := by omega
    rcases hkc with rfl | rfl | rfl | rfl
    · exact may_24_0 v
    · exact may_24_1 v
    · exact may_24_2 v
    · exact may_24_3 v
  · have hk' : k < 5 := hk
    have hkc : k = 0 ∨ k = 1 ∨ k = 2 ∨ k = 3 ∨ k = 4 := by omega
    rcases hkc with rfl | rfl | rfl | rfl | rfl
    · exact may_25_0 v
    · exact may_25_1 v
    · exact may_25_2 v
    · exact may_25_3 v
    · exact may_25_4 v
theorem may_more (K k : Nat) (v : Int32) (hk : na K ≤ k) (h21 : K = 21) (hb : k < 2147483648) : F_Cmd_may (Int32.ofNat K) (Int32.ofNat k) v = some 1 := by
  subst h21
  have hk2 : 2 ≤ k := hk
  show (if (1 : Int32) < Int32.ofNat k then (some (1 : Int32)) else _) = some 1
  rw [if_pos (show (1 : Int32) < Int32.ofNat k from (n_lt 1 k (by omega) hb).mpr (by omega))]
