/-! bytes of a word -/
def bn (x : Int32) (k : Nat) : Nat := un x / 2 ^ (8 * k) % 256
def byt (x : Int32) (k : Nat) : Int32 := Int32.ofNat (bn x k)
theorem bn_lt (x : Int32) (k : Nat) : bn x k < 256 := Nat.mod_lt _ (by decide)
theorem ix8 (k : Nat) (h : k < 4) : (8 * Int32.ofNat k : Int32) &&& 31 = Int32.ofNat (8 * k) := by
  have : k = 0 ∨ k = 1 ∨ k = 2 ∨ k = 3 := by omega
  rcases this with rfl | rfl | rfl | rfl <;> decide
theorem ix8u (k : Nat) : (8 * Int32.ofNat k : Int32) = Int32.ofNat (8 * k) := n_mul 8 k
theorem byt_u (x : Int32) (k : Nat) (h : k < 4) : (ushr x (8 * Int32.ofNat k)) &&& 255 = byt x k := by
  rw [ix8u, b_ushr x _ (by omega), show (255 : Int32) = Int32.ofNat (2 ^ 8 - 1) from rfl, b_mask _ 8 (by omega), un_ofNat]
  have : un x / 2 ^ (8 * k) < 4294967296 := Nat.lt_of_le_of_lt (Nat.div_le_self _ _) (un_lt x)
  rw [Nat.mod_eq_of_lt this]; rfl
theorem byt_3 (x : Int32) : ushr x 24 = byt x 3 := by
  rw [show (24 : Int32) = Int32.ofNat 24 from rfl, b_ushr x 24 (by omega)]
  have := un_lt x
  unfold byt bn
  congr 1
  omega
theorem un_or_add (a b n : Nat) (ha : a < 2 ^ n) (hn : n < 32) (hb : a + b * 2 ^ n < 4294967296) : Int32.ofNat a ||| (Int32.ofNat b <<< Int32.ofNat n) = Int32.ofNat (a + b * 2 ^ n) := by
  rw [b_shl _ n hn, n_mul]
  apply un_inj
  rw [un_or, un_ofNat, un_ofNat, un_ofNat]
  have h1 : b * 2 ^ n < 4294967296 := by omega
  rw [Nat.mod_eq_of_lt (show a < 4294967296 by omega), Nat.mod_eq_of_lt h1, Nat.mod_eq_of_lt hb, Nat.or_comm, Nat.mul_comm b, ← Nat.two_pow_add_eq_or_of_lt ha]
  omega
/-- four bytes as a word -/
def pkw (f : Nat → Nat) : Int32 := Int32.ofNat (f 0 + f 1 * 256 + f 2 * 65536 + f 3 * 16777216)
theorem pkw_loop (f : Nat → Nat) (h : ∀ k, k < 4 → f k < 256) : (((((0 : Int32) ||| (Int32.ofNat (f 0) <<< Int32.ofNat 0)) ||| (Int32.ofNat (f 1) <<< Int32.ofNat 8)) ||| (Int32.ofNat (f 2) <<< Int32.ofNat 16)) ||| (Int32.ofNat (f 3) <<< Int32.ofNat 24)) = pkw f := by
  have h0 := h 0 (by omega)
  have h1 := h 1 (by omega)
  have h2 := h 2 (by omega)
  have h3 := h 3 (by omega)
  rw [show (0 : Int32) = Int32.ofNat 0 from rfl, un_or_add 0 (f 0) 0 (by omega) (by omega) (by omega), un_or_add _ (f 1) 8 (by omega) (by omega) (by omega), un_or_add _ (f 2) 16 (by omega) (by omega) (by omega), un_or_add _ (f 3) 24 (by omega) (by omega) (by omega)]
  unfold pkw
  congr 1
  omega
theorem bn_pkw (f : Nat → Nat) (h : ∀ k, k < 4 → f k < 256) (k : Nat) (hk : k < 4) : bn (pkw f) k = f k := by
  have h0 := h 0 (by omega)
  have h1 := h 1 (by omega)
  have h2 := h 2 (by omega)
  have h3 := h 3 (by omega)
  unfold bn pkw
  rw [un_ofNat]
  have : k = 0 ∨ k = 1 ∨ k = 2 ∨ k = 3 := by omega
  rcases this with rfl | rfl | rfl | rfl <;> simp only [Nat.mul_zero, Nat.mul_one, Nat.reduceMul, Nat.reducePow, Nat.pow_zero] <;> omega
theorem pkw_bn (x : Int32) : pkw (bn x) = x := by
  have hx := un_lt x
  apply un_inj
  unfold pkw bn
  rw [un_ofNat]
  simp only [Nat.mul_zero, Nat.mul_one, Nat.reduceMul, Nat.reducePow, Nat.pow_zero]
  omega
theorem bn_ext (x y : Int32) (h : ∀ k, k < 4 → bn x k = bn y k) : x = y := by
  rw [← pkw_bn x, ← pkw_bn y]
  unfold pkw
  rw [h 0 (by omega), h 1 (by omega), h 2 (by omega), h 3 (by omega)]
theorem bn_and (x y : Int32) (k : Nat) : bn (x &&& y) k = bn x k &&& bn y k := by
  unfold bn
  rw [un_and, Nat.and_div_two_pow, show (256 : Nat) = 2 ^ 8 from rfl, Nat.and_mod_two_pow]
theorem bn_or (x y : Int32) (k : Nat) : bn (x ||| y) k = bn x k ||| bn y k := by
  unfold bn
  rw [un_or, Nat.or_div_two_pow, show (256 : Nat) = 2 ^ 8 from rfl, Nat.or_mod_two_pow]
theorem bn_xor (x y : Int32) (k : Nat) : bn (x ^^^ y) k = bn x k ^^^ bn y k := by
  unfold bn
  rw [un_xor, Nat.xor_div_two_pow, show (256 : Nat) = 2 ^ 8 from rfl, Nat.xor_mod_two_pow]
theorem bn_m1 (k : Nat) (h : k < 4) : bn (-1) k = 255 := by
  have : k = 0 ∨ k = 1 ∨ k = 2 ∨ k = 3 := by omega
  rcases this with rfl | rfl | rfl | rfl <;> decide
theorem bn_sar (x : Int32) (k : Nat) (h : k < 4) : (x >>> (Int32.ofNat (8 * k))) &&& 255 = byt x k := by
  apply i_inj
  rw [show (255 : Int32) = Int32.ofNat (2 ^ 8 - 1) from rfl, b_and _ 8 (by omega), b_sar x _ (by omega)]
  unfold byt
  rw [n_int _ (by have := bn_lt x k; omega)]
  unfold bn
  have hu := un_toInt x
  have hr := i_rng x
  have hx := un_lt x
  have : k = 0 ∨ k = 1 ∨ k = 2 ∨ k = 3 := by omega
  rcases this with rfl | rfl | rfl | rfl <;> simp only [Nat.mul_zero, Nat.mul_one, Nat.reduceMul, Nat.reducePow, Nat.pow_zero] <;> omega
/-- a mixture of two words, byte by byte -/
theorem bn_mix (c n b : Int32) (k : Nat) (hk : k < 4) (h : bn b k = 0 ∨ bn b k = 255) : bn ((c &&& (b ^^^ (-1))) ||| (n &&& b)) k = if bn b k = 255 then bn n k else bn c k := by
  rw [bn_or, bn_and, bn_and, bn_xor, bn_m1 k hk]
  have h1 := bn_lt c k
  have h2 := bn_lt n k
  have e255 : ∀ x, x < 256 → x &&& 255 = x := fun x hx => by
    rw [show (255 : Nat) = 2 ^ 8 - 1 from rfl, Nat.and_two_pow_sub_one_eq_mod]; omega
  rcases h with h | h
  · rw [h, if_neg (by omega), show (0 ^^^ 255 : Nat) = 255 from rfl, e255 _ h1, Nat.and_zero, Nat.or_zero]
  · rw [h, if_pos rfl, show (255 ^^^ 255 : Nat) = 0 from rfl, e255 _ h2, Nat.and_zero, Nat.zero_or]
/-! which channels a mask lets through -/
theorem e_channelBits (m : Nat) (h : m < 16) : ∃ b, F_Pic_channelBits (Int32.ofNat m) = some b ∧ ∀ k, k < 4 → bn b k = if m / 2 ^ k % 2 = 1 then 255 else 0 := by
  refine ⟨pkw (fun k => if m / 2 ^ k % 2 = 1 then 255 else 0), ?_, fun k hk => bn_pkw _ (fun j _ => by split <;> omega) k hk⟩
  have : m = 0 ∨ m = 1 ∨ m = 2 ∨ m = 3 ∨ m = 4 ∨ m = 5 ∨ m = 6 ∨ m = 7 ∨ m = 8 ∨ m = 9 ∨ m = 10 ∨ m = 11 ∨ m = 12 ∨ m = 13 ∨ m = 14 ∨ m = 15 := by omega
  rcases this with rfl | rfl | rfl | rfl | rfl | rfl | rfl | rfl | rfl | rfl | rfl | rfl | rfl | rfl | rfl | rfl <;> decide +kernel
theorem mask_bit (m k : Nat) (h : m < 16) (hk : k < 4) : ((Int32.ofNat m >>> (Int32.ofNat k &&& 31)) &&& 1 : Int32) = Int32.ofNat (m / 2 ^ k % 2) := by
  have hm : m = 0 ∨ m = 1 ∨ m = 2 ∨ m = 3 ∨ m = 4 ∨ m = 5 ∨ m = 6 ∨ m = 7 ∨ m = 8 ∨ m = 9 ∨ m = 10 ∨ m = 11 ∨ m = 12 ∨ m = 13 ∨ m = 14 ∨ m = 15 := by omega
  have : k = 0 ∨ k = 1 ∨ k = 2 ∨ k = 3 := by omega
  rcases this with rfl | rfl | rfl | rfl <;> rcases hm with rfl | rfl | rfl | rfl | rfl | rfl | rfl | rfl | rfl | rfl | rfl | rfl | rfl | rfl | rfl | rfl <;> decide +kernel
