/-! triangles on the screen: the numbers -/
theorem mul_bd (a b A B : Int) (ha : -A ≤ a ∧ a ≤ A) (hb : -B ≤ b ∧ b ≤ B) : -(A * B) ≤ a * b ∧ a * b ≤ A * B := by
  have hA : 0 ≤ A := by omega
  have hB : 0 ≤ B := by omega
  have h1 : (a * b).natAbs = a.natAbs * b.natAbs := Int.natAbs_mul a b
  have h2 : a.natAbs * b.natAbs ≤ A.natAbs * B.natAbs := Nat.mul_le_mul (by omega) (by omega)
  have h3 : (A * B).natAbs = A.natAbs * B.natAbs := Int.natAbs_mul A B
  have h4 : 0 ≤ A * B := Int.mul_nonneg hA hB
  omega
theorem lo_ext (x : Int32) : x.toInt64 = Int64.ofInt x.toInt := by
  apply l_inj
  have := i_rng x
  rw [l_ext, l_int _ (by omega) (by omega)]
theorem lo_sub32 (x y : Int32) (h0 : -2147483648 ≤ x.toInt - y.toInt) (h1 : x.toInt - y.toInt < 2147483648) : (x - y).toInt64 = Int64.ofInt (x.toInt - y.toInt) := by
  rw [lo_ext, i_sub x y h0 h1]
theorem lo_mul (a b : Int) : Int64.ofInt a * Int64.ofInt b = Int64.ofInt (a * b) := (Int64.ofInt_mul a b).symm
theorem lo_sub (a b : Int) : Int64.ofInt a - Int64.ofInt b = Int64.ofInt (a - b) := (Int64.ofInt_sub a b).symm
theorem lo_add (a b : Int) : Int64.ofInt a + Int64.ofInt b = Int64.ofInt (a + b) := (Int64.ofInt_add a b).symm
theorem lo_neg (a : Int) : -Int64.ofInt a = Int64.ofInt (-a) := (Int64.ofInt_neg a).symm
/-- coordinates of three corners that may be -/
def XyOK (X : Nat → Int32) : Prop := ∀ j, j < 3 → -16384 ≤ (X j).toInt ∧ (X j).toInt ≤ 16383
def ed (X Y : Nat → Int32) (a b : Nat) (px py : Int) : Int := ((X b).toInt - (X a).toInt) * (py - (Y a).toInt) - ((Y b).toInt - (Y a).toInt) * (px - (X a).toInt)
theorem ed_bd (X Y : Nat → Int32) (a b : Nat) (px py : Int) (hX : XyOK X) (hY : XyOK Y) (ha : a < 3) (hb : b < 3) (hx : -16384 ≤ px ∧ px ≤ 16383) (hy : -16384 ≤ py ∧ py ≤ 16383) : -2147483648 ≤ ed X Y a b px py ∧ ed X Y a b px py ≤ 2147483648 := by
  have x1 := hX a ha
  have x2 := hX b hb
  have y1 := hY a ha
  have y2 := hY b hb
  have m1 := mul_bd ((X b).toInt - (X a).toInt) (py - (Y a).toInt) 32767 32767 (by omega) (by omega)
  have m2 := mul_bd ((Y b).toInt - (Y a).toInt) (px - (X a).toInt) 32767 32767 (by omega) (by omega)
  unfold ed
  omega
def whl (X Y : Nat → Int32) : Int := ed X Y 0 1 (X 2).toInt (Y 2).toInt
def rfr (W : Int) (j : Nat) : Nat := if W < 0 then (j + 2) % 3 else (j + 1) % 3
def rto (W : Int) (j : Nat) : Nat := if W < 0 then (j + 1) % 3 else (j + 2) % 3
def wgt (X Y : Nat → Int32) (j : Nat) (x y : Int) : Int := ed X Y (rfr (whl X Y) j) (rto (whl X Y) j) (16 * x + 8) (16 * y + 8)
def own (X Y : Nat → Int32) (j : Nat) : Prop := ((Y (rto (whl X Y) j)).toInt - (Y (rfr (whl X Y) j)).toInt = 0 ∧ 0 < (X (rto (whl X Y) j)).toInt - (X (rfr (whl X Y) j)).toInt) ∨ (Y (rto (whl X Y) j)).toInt - (Y (rfr (whl X Y) j)).toInt < 0
def okw (X Y : Nat → Int32) (j : Nat) (x y : Int) : Prop := 0 < wgt X Y j x y ∨ (wgt X Y j x y = 0 ∧ own X Y j)
def cov (X Y : Nat → Int32) (x y : Int) : Prop := whl X Y ≠ 0 ∧ ∀ j, j < 3 → okw X Y j x y
theorem rf_lt (W : Int) (j : Nat) : rfr W j < 3 ∧ rto W j < 3 := by
  unfold rfr rto; split <;> omega
theorem wgt_sum (X Y : Nat → Int32) (x y : Int) : wgt X Y 0 x y + wgt X Y 1 x y + wgt X Y 2 x y = if whl X Y < 0 then -whl X Y else whl X Y := by
  unfold wgt rfr rto
  have hW : whl X Y = ed X Y 0 1 (X 2).toInt (Y 2).toInt := rfl
  by_cases c : whl X Y < 0
  · simp only [if_pos c]
    rw [hW]; unfold ed
    show _ = _
    simp only [show (0 + 2) % 3 = 2 from rfl, show (0 + 1) % 3 = 1 from rfl, show (1 + 2) % 3 = 0 from rfl, show (1 + 1) % 3 = 2 from rfl, show (2 + 2) % 3 = 1 from rfl, show (2 + 1) % 3 = 0 from rfl]
    grind
  · simp only [if_neg c]
    rw [hW]; unfold ed
    simp only [show (0 + 2) % 3 = 2 from rfl, show (0 + 1) % 3 = 1 from rfl, show (1 + 2) % 3 = 0 from rfl, show (1 + 1) % 3 = 2 from rfl, show (2 + 2) % 3 = 1 from rfl, show (2 + 1) % 3 = 0 from rfl]
    grind
theorem wgt_sumx (X Y : Nat → Int32) (x y m : Int) : wgt X Y 0 x y * ((X 0).toInt - m) + wgt X Y 1 x y * ((X 1).toInt - m) + wgt X Y 2 x y * ((X 2).toInt - m) = (if whl X Y < 0 then -whl X Y else whl X Y) * (16 * x + 8 - m) := by
  unfold wgt rfr rto
  have hW : whl X Y = ed X Y 0 1 (X 2).toInt (Y 2).toInt := rfl
  by_cases c : whl X Y < 0
  · simp only [if_pos c]
    rw [hW]; unfold ed
    simp only [show (0 + 2) % 3 = 2 from rfl, show (0 + 1) % 3 = 1 from rfl, show (1 + 2) % 3 = 0 from rfl, show (1 + 1) % 3 = 2 from rfl, show (2 + 2) % 3 = 1 from rfl, show (2 + 1) % 3 = 0 from rfl]
    grind
  · simp only [if_neg c]
    rw [hW]; unfold ed
    simp only [show (0 + 2) % 3 = 2 from rfl, show (0 + 1) % 3 = 1 from rfl, show (1 + 2) % 3 = 0 from rfl, show (1 + 1) % 3 = 2 from rfl, show (2 + 2) % 3 = 1 from rfl, show (2 + 1) % 3 = 0 from rfl]
    grind
theorem wgt_sumy (X Y : Nat → Int32) (x y m : Int) : wgt X Y 0 x y * ((Y 0).toInt - m) + wgt X Y 1 x y * ((Y 1).toInt - m) + wgt X Y 2 x y * ((Y 2).toInt - m) = (if whl X Y < 0 then -whl X Y else whl X Y) * (16 * y + 8 - m) := by
  unfold wgt rfr rto
  have hW : whl X Y = ed X Y 0 1 (X 2).toInt (Y 2).toInt := rfl
  by_cases c : whl X Y < 0
  · simp only [if_pos c]
    rw [hW]; unfold ed
    simp only [show (0 + 2) % 3 = 2 from rfl, show (0 + 1) % 3 = 1 from rfl, show (1 + 2) % 3 = 0 from rfl, show (1 + 1) % 3 = 2 from rfl, show (2 + 2) % 3 = 1 from rfl, show (2 + 1) % 3 = 0 from rfl]
    grind
  · simp only [if_neg c]
    rw [hW]; unfold ed
    simp only [show (0 + 2) % 3 = 2 from rfl, show (0 + 1) % 3 = 1 from rfl, show (1 + 2) % 3 = 0 from rfl, show (1 + 1) % 3 = 2 from rfl, show (2 + 2) % 3 = 1 from rfl, show (2 + 1) % 3 = 0 from rfl]
    grind
theorem cov_pos (X Y : Nat → Int32) (x y : Int) (h : cov X Y x y) : 0 < (if whl X Y < 0 then -whl X Y else whl X Y) ∧ 0 ≤ wgt X Y 0 x y ∧ 0 ≤ wgt X Y 1 x y ∧ 0 ≤ wgt X Y 2 x y := by
  obtain ⟨h0, h1⟩ := h
  have g : ∀ j, j < 3 → 0 ≤ wgt X Y j x y := fun j hj => by rcases h1 j hj with h | h <;> omega
  refine ⟨?_, g 0 (by omega), g 1 (by omega), g 2 (by omega)⟩
  split <;> omega
/-- a covered place lies between the corners -/
theorem cov_x (X Y : Nat → Int32) (x y : Int) (h : cov X Y x y) (m : Int) : ((∀ j, j < 3 → m ≤ (X j).toInt) → m ≤ 16 * x + 8) ∧ ((∀ j, j < 3 → (X j).toInt ≤ m) → 16 * x + 8 ≤ m) := by
  obtain ⟨hW, w0, w1, w2⟩ := cov_pos X Y x y h
  have e := wgt_sumx X Y x y m
  generalize (if whl X Y < 0 then -whl X Y else whl X Y) = W at *
  constructor
  · intro hm
    have a0 := Int.mul_nonneg w0 (show 0 ≤ (X 0).toInt - m by have := hm 0 (by omega); omega)
    have a1 := Int.mul_nonneg w1 (show 0 ≤ (X 1).toInt - m by have := hm 1 (by omega); omega)
    have a2 := Int.mul_nonneg w2 (show 0 ≤ (X 2).toInt - m by have := hm 2 (by omega); omega)
    have : 0 ≤ W * (16 * x + 8 - m) := by omega
    have := Int.nonneg_of_mul_nonneg_right this hW
    omega
  · intro hm
    have a0 := Int.mul_nonneg w0 (show 0 ≤ m - (X 0).toInt by have := hm 0 (by omega); omega)
    have a1 := Int.mul_nonneg w1 (show 0 ≤ m - (X 1).toInt by have := hm 1 (by omega); omega)
    have a2 := Int.mul_nonneg w2 (show 0 ≤ m - (X 2).toInt by have := hm 2 (by omega); omega)
    have e2 : wgt X Y 0 x y * (m - (X 0).toInt) + wgt X Y 1 x y * (m - (X 1).toInt) + wgt X Y 2 x y * (m - (X 2).toInt) = W * (m - (16 * x + 8)) := by grind
    have : 0 ≤ W * (m - (16 * x + 8)) := by omega
    have := Int.nonneg_of_mul_nonneg_right this hW
    omega
theorem cov_y (X Y : Nat → Int32) (x y : Int) (h : cov X Y x y) (m : Int) : ((∀ j, j < 3 → m ≤ (Y j).toInt) → m ≤ 16 * y + 8) ∧ ((∀ j, j < 3 → (Y j).toInt ≤ m) → 16 * y + 8 ≤ m) := by
  obtain ⟨hW, w0, w1, w2⟩ := cov_pos X Y x y h
  have e := wgt_sumy X Y x y m
  generalize (if whl X Y < 0 then -whl X Y else whl X Y) = W at *
  constructor
  · intro hm
    have a0 := Int.mul_nonneg w0 (show 0 ≤ (Y 0).toInt - m by have := hm 0 (by omega); omega)
    have a1 := Int.mul_nonneg w1 (show 0 ≤ (Y 1).toInt - m by have := hm 1 (by omega); omega)
    have a2 := Int.mul_nonneg w2 (show 0 ≤ (Y 2).toInt - m by have := hm 2 (by omega); omega)
    have : 0 ≤ W * (16 * y + 8 - m) := by omega
    have := Int.nonneg_of_mul_nonneg_right this hW
    omega
  · intro hm
    have a0 := Int.mul_nonneg w0 (show 0 ≤ m - (Y 0).toInt by have := hm 0 (by omega); omega)
    have a1 := Int.mul_nonneg w1 (show 0 ≤ m - (Y 1).toInt by have := hm 1 (by omega); omega)
    have a2 := Int.mul_nonneg w2 (show 0 ≤ m - (Y 2).toInt by have := hm 2 (by omega); omega)
    have e2 : wgt X Y 0 x y * (m - (Y 0).toInt) + wgt X Y 1 x y * (m - (Y 1).toInt) + wgt X Y 2 x y * (m - (Y 2).toInt) = W * (m - (16 * y + 8)) := by grind
    have : 0 ≤ W * (m - (16 * y + 8)) := by omega
    have := Int.nonneg_of_mul_nonneg_right this hW
    omega
