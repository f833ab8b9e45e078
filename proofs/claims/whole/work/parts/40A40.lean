/-! evaluation -/
theorem ck_pos {α : Type} {q : Prop} [Decidable q] {k : Option α} (h : q) : ck q k = k := if_pos h
theorem ck_true {α : Type} {k : Option α} : ck True k = k := rfl
theorem lt_def {α β : Type} {a : α} {k : α → Option β} : lt a k = k a := rfl
theorem bd_def {α β : Type} {a : α} {k : α → Option β} : bd (some a) k = k a := rfl
theorem bd_eq {α β : Type} {e : Option α} {a : α} {k : α → Option β} (h : e = some a) : bd e k = k a := by rw [h]; rfl
/-! states -/
theorem sA_1 (σ : Sg) (a : Nat) (f : Nat → Int32) : (sA σ a f).1 = σ.1 := rfl
theorem sA_2 (σ : Sg) (a : Nat) (f : Nat → Int32) : (sA σ a f).2.1 = σ.2.1 := rfl
theorem sA_3 (σ : Sg) (a b : Nat) (f : Nat → Int32) : (sA σ a f).2.2.1 b = if b = a then f else σ.2.2.1 b := rfl
theorem sA_4 (σ : Sg) (a : Nat) (f : Nat → Int32) : (sA σ a f).2.2.2 = σ.2.2.2 := rfl
theorem sI_1 (σ : Sg) (a b : Nat) (v : Int32) : (sI σ a v).1 b = if b = a then v else σ.1 b := rfl
theorem sI_2 (σ : Sg) (a : Nat) (v : Int32) : (sI σ a v).2 = σ.2 := rfl
theorem sJ_1 (σ : Sg) (a : Nat) (v : Int64) : (sJ σ a v).1 = σ.1 := rfl
theorem sJ_2 (σ : Sg) (a b : Nat) (v : Int64) : (sJ σ a v).2.1 b = if b = a then v else σ.2.1 b := rfl
theorem sJ_3 (σ : Sg) (a : Nat) (v : Int64) : (sJ σ a v).2.2 = σ.2.2 := rfl
theorem sB_1 (σ : Sg) (a : Nat) (f : Nat → Int64) : (sB σ a f).1 = σ.1 := rfl
theorem sB_2 (σ : Sg) (a : Nat) (f : Nat → Int64) : (sB σ a f).2.1 = σ.2.1 := rfl
theorem sB_3 (σ : Sg) (a : Nat) (f : Nat → Int64) : (sB σ a f).2.2.1 = σ.2.2.1 := rfl
theorem sB_4 (σ : Sg) (a b : Nat) (f : Nat → Int64) : (sB σ a f).2.2.2.1 b = if b = a then f else σ.2.2.2.1 b := rfl
theorem sB_5 (σ : Sg) (a : Nat) (f : Nat → Int64) : (sB σ a f).2.2.2.2 = σ.2.2.2.2 := rfl
theorem sN_1 (σ : Sg) (a n : Nat) : (sN σ a n).1 = σ.1 := rfl
theorem sN_2 (σ : Sg) (a n : Nat) : (sN σ a n).2.1 = σ.2.1 := rfl
theorem sN_3 (σ : Sg) (a n : Nat) : (sN σ a n).2.2.1 = σ.2.2.1 := rfl
theorem sN_4 (σ : Sg) (a n : Nat) : (sN σ a n).2.2.2.1 = σ.2.2.2.1 := rfl
theorem sN_5 (σ : Sg) (a b n : Nat) : (sN σ a n).2.2.2.2 b = if b = a then n else σ.2.2.2.2 b := rfl
theorem sA_self (σ : Sg) (a : Nat) : sA σ a (σ.2.2.1 a) = σ := by
  obtain ⟨s1, s2, s3, s4⟩ := σ
  simp only [sA]
  congr 3
  funext j
  split
  · subst_vars; rfl
  · rfl
theorem sA_sA (σ : Sg) (a : Nat) (f g : Nat → Int32) : sA (sA σ a f) a g = sA σ a g := by
  simp only [sA]
  congr 3
  funext j
  split <;> rfl
theorem sB_self (σ : Sg) (a : Nat) : sB σ a (σ.2.2.2.1 a) = σ := by
  obtain ⟨s1, s2, s3, s4, s5⟩ := σ
  simp only [sB]
  congr 4
  funext j
  split
  · subst_vars; rfl
  · rfl
theorem sB_sB (σ : Sg) (a : Nat) (f g : Nat → Int64) : sB (sB σ a f) a g = sB σ a g := by
  simp only [sB]
  congr 4
  funext j
  split <;> rfl
theorem sI_sI (σ : Sg) (a : Nat) (f g : Int32) : sI (sI σ a f) a g = sI σ a g := by
  simp only [sI]
  congr 1
  funext j
  split <;> rfl
theorem sI_self (σ : Sg) (a : Nat) : sI σ a (σ.1 a) = σ := by
  obtain ⟨s1, s2⟩ := σ
  simp only [sI]
  congr 1
  funext j
  split
  · subst_vars; rfl
  · rfl
theorem lenC_sA (σ : Sg) (a : Nat) (f : Nat → Int32) (k : Nat) : lenC (sA σ a f) k = lenC σ k := rfl
theorem lenC_sI (σ : Sg) (a : Nat) (v : Int32) (k : Nat) : lenC (sI σ a v) k = lenC σ k := rfl
theorem lenC_sJ (σ : Sg) (a : Nat) (v : Int64) (k : Nat) : lenC (sJ σ a v) k = lenC σ k := rfl
theorem lenC_sB (σ : Sg) (a : Nat) (f : Nat → Int64) (k : Nat) : lenC (sB σ a f) k = lenC σ k := rfl
theorem lenM_any (σ τ : Sg) (k : Nat) : lenM σ k = lenM τ k := rfl
/-! numbers -/
theorem n_nat (k : Nat) (h : k < 2147483648) : (Int32.ofNat k).toNatClampNeg = k := by
  have h1 : (Int32.ofNat k).toInt = (k : Int) := Int32.toInt_ofNat_of_lt (by omega)
  show (Int32.ofNat k).toInt.toNat = k
  rw [h1]; rfl
theorem n_int (k : Nat) (h : k < 2147483648) : (Int32.ofNat k).toInt = (k : Int) := Int32.toInt_ofNat_of_lt (by omega)
theorem n_get (i : Int32) (h : 0 ≤ i) : ∃ k : Nat, k < 2147483648 ∧ i = Int32.ofNat k := by
  have h1 : 0 ≤ i.toInt := Int32.le_iff_toInt_le.mp h
  have h2 : i.toInt < 2147483648 := i.toInt_lt
  refine ⟨i.toInt.toNat, by omega, ?_⟩
  apply Int32.toInt_inj.mp
  rw [n_int _ (by omega)]
  omega
theorem n_add (a b : Nat) : Int32.ofNat a + Int32.ofNat b = Int32.ofNat (a + b) := (Int32.ofNat_add a b).symm
theorem n_mul (a b : Nat) : Int32.ofNat a * Int32.ofNat b = Int32.ofNat (a * b) := (Int32.ofNat_mul a b).symm
theorem n_le (a b : Nat) (ha : a < 2147483648) (hb : b < 2147483648) : Int32.ofNat a ≤ Int32.ofNat b ↔ a ≤ b := by
  rw [Int32.le_iff_toInt_le, n_int a ha, n_int b hb]; omega
theorem n_lt (a b : Nat) (ha : a < 2147483648) (hb : b < 2147483648) : Int32.ofNat a < Int32.ofNat b ↔ a < b := by
  rw [Int32.lt_iff_toInt_lt, n_int a ha, n_int b hb]; omega
theorem n_inj (a b : Nat) (ha : a < 2147483648) (hb : b < 2147483648) : Int32.ofNat a = Int32.ofNat b ↔ a = b := by
  rw [← Int32.toInt_inj, n_int a ha, n_int b hb]; omega
theorem n_inb (k n : Nat) (h : k < n) (h2 : k < 2147483648) : inb (Int32.ofNat k) n := by
  unfold inb
  rw [n_int k h2]; omega
theorem i_inb {i : Int32} {n : Nat} (h0 : 0 ≤ i) (h1 : i < Int32.ofNat n) (hn : n < 2147483648) : inb i n := by
  have a0 := Int32.le_iff_toInt_le.mp h0
  have a1 := Int32.lt_iff_toInt_lt.mp h1
  rw [n_int n hn] at a1
  exact ⟨a0, a1⟩
theorem i_nat (i : Int32) (h0 : 0 ≤ i) : Int32.ofNat i.toNatClampNeg = i := by
  obtain ⟨k, hk, rfl⟩ := n_get i h0
  rw [n_nat k hk]
theorem i_natlt (i : Int32) (n : Nat) (h0 : 0 ≤ i) (h1 : i < Int32.ofNat n) (hn : n < 2147483648) : i.toNatClampNeg < n := by
  obtain ⟨k, hk, rfl⟩ := n_get i h0
  rw [n_nat k hk]
  exact (n_lt k n hk hn).mp h1
theorem n_succ (l : Nat) : Int32.ofNat l + 1 = Int32.ofNat (l + 1) := (Int32.ofNat_add l 1).symm
