def mny (k : Nat) : Nat := ([0, 0, 1, 1, 8, 32, 0, 1, 1, 4, 1, 2, 1, 1, 1, 1, 1, 0, 0, 0, 0, 0, 0, 0, 4, 4] : List Nat).getD k 0
def cnt (k : Nat) : Nat := ([0, 4, 6, 4, 5, 5, 3, 2, 2, 6, 2, 8, 6, 1, 1, 1, 2, 3, 5, 2, 6, 2, 0, 1, 4, 5] : List Nat).getD k 0
theorem row_lt0 : ∀ k, k < 26 → ∀ n, n < mny k → 160 * k + n * cnt k < 4160 := by decide +kernel
theorem row_lt {k n : Nat} (hk : k < 26) (hn : n < mny k) : 160 * k + n * cnt k < 4160 := row_lt0 k hk n hn
theorem mny_lt (k : Nat) : mny k < 100000 := by
  by_cases h : k < 26
  · have : ∀ k, k < 26 → mny k < 100000 := by decide +kernel
    exact this k h
  · have : mny k = 0 := by
      unfold mny
      rw [List.getD_eq_getElem?_getD, List.getElem?_eq_none (by simp; omega)]
      rfl
    omega
