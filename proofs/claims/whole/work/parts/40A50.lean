/-! the processor's numbers -/
theorem b_field (x : Int32) (k m : Nat) (h : k + m ≤ 32) (hk : k < 32) : (x >>> Int32.ofNat k) &&& Int32.ofNat (2 ^ m - 1) = Int32.ofNat (un x / 2 ^ k % 2 ^ m) := by
  rw [b_mask _ _ (by omega)]
  congr 1
  have h1 := un_toInt (x >>> Int32.ofNat k)
  rw [b_sar x k hk] at h1
  have h3 := un_toInt x
  have h4 : (4294967296 : Int) = 2 ^ k * 2 ^ (32 - k) := by rw [← Int.pow_add, show k + (32 - k) = 32 by omega]; rfl
  have h5 : x.toInt = (un x : Int) + 2 ^ k * (2 ^ (32 - k) * (x.toInt / 4294967296)) := by
    rw [← Int.mul_assoc, ← h4, h3]; omega
  have hp : (2 : Int) ^ k ≠ 0 := by have := Int.pow_pos (n := 2) (m := k) (by omega); omega
  have h6 : x.toInt / 2 ^ k = (un x : Int) / 2 ^ k + 2 ^ (32 - k) * (x.toInt / 4294967296) := by
    conv => lhs; rw [h5]
    rw [Int.add_mul_ediv_left _ _ hp]
  have h7 : (2 : Int) ^ (32 - k) = 2 ^ m * 2 ^ (32 - k - m) := by
    rw [← Int.pow_add]; congr 1; omega
  have h8 : (4294967296 : Int) = 2 ^ m * 2 ^ (32 - m) := by rw [← Int.pow_add, show m + (32 - m) = 32 by omega]; rfl
  have h9 : ((un (x >>> Int32.ofNat k) % 2 ^ m : Nat) : Int) = ((un x / 2 ^ k % 2 ^ m : Nat) : Int) := by
    rw [Int.natCast_emod, h1, Int.natCast_pow]
    show (x.toInt / 2 ^ k) % 4294967296 % 2 ^ m = _
    rw [Int.emod_emod_of_dvd _ (by rw [h8]; exact ⟨2 ^ (32 - m), rfl⟩), h6, h7, Int.mul_assoc, Int.add_mul_emod_self_left, Int.natCast_emod, Int.natCast_ediv, Int.natCast_pow, Int.natCast_pow]
    rfl
  exact_mod_cast h9
theorem u_field (x : Int32) (k m : Nat) (hm : m ≤ 32) (hk : k < 32) : (ushr x (Int32.ofNat k)) &&& Int32.ofNat (2 ^ m - 1) = Int32.ofNat (un x / 2 ^ k % 2 ^ m) := by
  rw [b_ushr x k hk, b_mask _ _ hm, un_ofNat]
  congr 2
  apply Nat.mod_eq_of_lt
  have := un_lt x
  have := Nat.div_le_self (un x) (2 ^ k)
  omega
def prd (a b : Int32) : Int32 := (lshr (a.toInt64 * b.toInt64) 16).toInt32
theorem e_product (a b : Int32) : F_Pro_product a b = some (prd a b) := rfl
theorem e_Shm_product (a b : Int32) : F_Shm_product a b = some (prd a b) := rfl
def oneB (x : Int32) : Int32 := if x = 0 then 2147483647 else if fdiv 4294967296 x.toInt64 < -2147483648 then -2147483648 else if 2147483647 < fdiv 4294967296 x.toInt64 then 2147483647 else (fdiv 4294967296 x.toInt64).toInt32
theorem ext_ne (x : Int32) (h : ¬ x = 0) : ¬ x.toInt64 = 0 := by
  intro g
  apply h
  apply i_inj
  have := congrArg Int64.toInt g
  rw [l_ext] at this
  exact this
theorem e_oneBy (x : Int32) : F_Pro_oneBy x = some (oneB x) := by
  unfold F_Pro_oneBy oneB
  by_cases h : x = 0
  · rw [if_pos h, if_pos h]
  · rw [if_neg h, if_neg h, ck_pos (ext_ne x h), e_within, bd_def]; rfl
theorem e_Shm_oneBy (x : Int32) : F_Shm_oneBy x = some (oneB x) := by
  have key : ∀ q : Int64, F_Shm_oneBy_36 q = some (if q < -2147483648 then -2147483648 else if 2147483647 < q then 2147483647 else q.toInt32) := by
    intro q
    simp only [F_Shm_oneBy_36, F_Shm_oneBy_65]
    grind
  unfold F_Shm_oneBy oneB
  by_cases h : x = 0
  · rw [if_pos h, if_pos h]
  · have hn := ext_ne x h
    rw [if_neg h, if_neg h, ck_pos hn, lt_def, ck_pos hn]
    have h0 : x.toInt64 < 0 ↔ x < 0 := by
      rw [Int64.lt_iff_toInt_lt, Int32.lt_iff_toInt_lt, l_ext]; rfl
    have hx : ((4294967296 : Int64) ^^^ x.toInt64) < 0 ↔ x < 0 := by
      rw [l_xor_neg, h0]
      have : ¬ ((4294967296 : Int64) < 0) := by decide
      simp [this]
    have hr : lrem 4294967296 x.toInt64 = 0 ↔ 4294967296 / x.toInt64 * x.toInt64 = 4294967296 := by
      unfold lrem
      generalize 4294967296 / x.toInt64 * x.toInt64 = z
      constructor <;> intro h <;> grind
    have fe : fdiv 4294967296 x.toInt64 = if x < 0 then (if lrem 4294967296 x.toInt64 = 0 then 4294967296 / x.toInt64 else 4294967296 / x.toInt64 - 1) else 4294967296 / x.toInt64 := by
      unfold fdiv
      by_cases c : x < 0
      · rw [if_pos (hx.mpr c), if_pos c]
        by_cases d : lrem 4294967296 x.toInt64 = 0
        · rw [if_pos d, if_pos (hr.mp d)]
        · rw [if_neg d, if_neg (fun e => d (hr.mpr e))]
      · rw [if_neg (fun e => c (hx.mp e)), if_neg c]
    rw [fe]
    unfold F_Shm_oneBy_35
    by_cases d : lrem 4294967296 x.toInt64 = 0
    · rw [if_pos d, key]
      simp only [if_pos d]
      by_cases c : x < 0
      · simp only [if_pos c]
      · simp only [if_neg c]
    · rw [if_neg d]
      simp only [if_neg d]
      by_cases c : x < 0
      · rw [if_neg (by grind), key]; simp only [if_pos c]
      · rw [if_pos (by grind), key]; simp only [if_neg c]
def rtv (v : Int64) : Int32 := (F_Pro_rootOf v).getD 0
theorem bt24 : ∀ k, k < 25 → ((¬ (Int32.ofNat k < 0)) ∧ lshl 1 (Int32.ofNat k) = Int64.ofNat (2 ^ k) ∧ (¬ (Int64.ofNat (2 ^ k) ≤ 0)) ∧ (k ≠ 0 → lshr (Int64.ofNat (2 ^ k)) 1 = Int64.ofNat (2 ^ (k - 1))) ∧ (k ≠ 0 → Int32.ofNat k + -1 = Int32.ofNat (k - 1)) ∧ (k = 0 → lshr (Int64.ofNat (2 ^ k)) 1 = 0)) := by decide
theorem root_both (v : Int64) : ∀ k, k < 25 → ∀ n, k + 1 < n → ∀ r : Int64, ∃ o, L_Pro_rootOf_6 n v r (Int32.ofNat k) = some o ∧ L_Shm_greatest_7 n v r (Int64.ofNat (2 ^ k)) = some o := by
  intro k
  induction k with
  | zero =>
    intro hk n hn r
    obtain ⟨n, rfl⟩ : ∃ m, n = m + 1 + 1 := ⟨n - 2, by omega⟩
    obtain ⟨a1, a2, a3, a4, a5, a6⟩ := bt24 0 (by omega)
    rw [L_Pro_rootOf_6, if_neg a1, lt_def, a2, L_Shm_greatest_7, if_neg a3]
    unfold F_Pro_rootOf_32 F_Shm_greatest_36
    simp only [lt, a6 rfl]
    have b1 : Int32.ofNat 0 + -1 < 0 := by decide
    have b2 : (0 : Int64) ≤ 0 := by decide
    rw [L_Pro_rootOf_6, L_Pro_rootOf_6, L_Shm_greatest_7, L_Shm_greatest_7]
    simp only [if_pos b1, if_pos b2]
    exact ⟨if v < (r + Int64.ofNat (2 ^ 0)) * (r + Int64.ofNat (2 ^ 0)) then r.toInt32 else (r + Int64.ofNat (2 ^ 0)).toInt32, by split <;> rfl, by split <;> rfl⟩
  | succ k ih =>
    intro hk n hn r
    obtain ⟨n, rfl⟩ : ∃ m, n = m + 1 := ⟨n - 1, by omega⟩
    obtain ⟨a1, a2, a3, a4, a5, a6⟩ := bt24 (k + 1) hk
    rw [L_Pro_rootOf_6, if_neg a1, lt_def, a2, L_Shm_greatest_7, if_neg a3]
    unfold F_Pro_rootOf_32 F_Shm_greatest_36
    simp only [lt, a4 (by omega), a5 (by omega), Nat.add_sub_cancel]
    by_cases c : v < (r + Int64.ofNat (2 ^ (k + 1))) * (r + Int64.ofNat (2 ^ (k + 1)))
    · rw [if_pos c, if_pos c]; exact ih (by omega) n (by omega) r
    · rw [if_neg c, if_neg c]; exact ih (by omega) n (by omega) _
theorem e_rootOf (v : Int64) : F_Pro_rootOf v = some (rtv v) ∧ F_Shm_greatest v = some (rtv v) := by
  obtain ⟨o, h1, h2⟩ := root_both v 24 (by omega) 100000 (by omega) 0
  have e : F_Pro_rootOf v = some o := h1
  unfold rtv
  rw [e]
  exact ⟨rfl, h2⟩
theorem e_fill4 (σ : Sg) (v : Int32) : F_Pro_setAll σ v = some (sA σ 14 (rowset (σ.2.2.1 14) 0 4 (fun _ => v))) := by
  unfold F_Pro_setAll F_Arr_fill
  rw [ck_pos (by decide), lt_def, show lenC σ 14 = 4 from rfl]
  have h : L_Arr_fill_5 100000 σ 14 v 0 (Int32.ofNat 4) = some (sA σ 14 (rowset (σ.2.2.1 14) 0 4 (fun _ => v))) := by
    refine fill_loop (fun n σ w => L_Arr_fill_5 n σ 14 v w (Int32.ofNat 4)) σ 14 0 4 0 (fun _ => v) _ (fun n k hk => ?_) (fun n => ?_) 100000 (by decide)
    · obtain ⟨b1, b2, b3, b4, b5⟩ := ix4 k hk
      simp only [Nat.zero_add]
      rw [L_Arr_fill_5, ck_pos (by decide), if_neg (show ¬ Int32.ofNat 4 ≤ Int32.ofNat k from b3), lenC_sA, show lenC σ 14 = 4 from rfl, ck_pos b2]
      simp only [lt, b1, b4, sA_sA, sA_3, if_true]
    · rw [L_Arr_fill_5, ck_pos (by decide), if_pos (by decide)]
  rw [h, bd_def]
