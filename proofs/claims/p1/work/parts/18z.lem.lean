theorem lgc_lt {x y : Int64} : lg_cmp x y < 0 ↔ x < y := lg_cmp_lt x y
theorem lgc_gt {x y : Int64} : 0 < lg_cmp x y ↔ y < x := lg_cmp_gt x y
theorem tl_lt {x y : Int32} : x.toInt64 < y.toInt64 ↔ x < y := by
  rw [Int64.lt_iff_toInt_lt, Int32.lt_iff_toInt_lt, Int32.toInt_toInt64, Int32.toInt_toInt64]
theorem good_lo {x : Int32} (lo : Int32) {L : Int64} (e : lo.toInt64 = L) (h : ¬ x < lo) : ¬ x.toInt64 < L := by
  rw [← e]; exact fun h1 => h (tl_lt.mp h1)
theorem good_hi {x : Int32} (hi : Int32) {L : Int64} (e : hi.toInt64 = L) (h : ¬ hi < x) : ¬ L < x.toInt64 := by
  rw [← e]; exact fun h1 => h (tl_lt.mp h1)
theorem bad_in {x : Int32} (lo hi : Int32) {L M : Int64} (e : lo.toInt64 = L) (f : hi.toInt64 = M) (h : x < lo ∨ hi < x) : x.toInt64 < L ∨ M < x.toInt64 := by
  rw [← e, ← f]; exact h.imp tl_lt.mpr tl_lt.mpr
theorem le_of_nlt1 {x : Int32} (n : Nat) (hn : n < 2147483647) (h : nI (n + 1) ≤ x) : nI n < x := by
  have h1 : (nI n).toInt < (nI (n + 1)).toInt := Int32.lt_iff_toInt_lt.mp (nI_lt (a := n) (b := n + 1) (by omega) (by omega))
  have h2 := Int32.le_iff_toInt_le.mp h
  exact Int32.lt_iff_toInt_lt.mpr (by omega)
