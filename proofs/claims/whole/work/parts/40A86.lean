/-! bits and the new colour -/
theorem ub_and (x y : Int32) (p : Nat) : (un (x &&& y)).testBit p = ((un x).testBit p && (un y).testBit p) := by rw [un_and, Nat.testBit_and]
theorem ub_or (x y : Int32) (p : Nat) : (un (x ||| y)).testBit p = ((un x).testBit p || (un y).testBit p) := by rw [un_or, Nat.testBit_or]
theorem ub_not (x : Int32) (p : Nat) (h : p < 32) : (un (x ^^^ (-1))).testBit p = !(un x).testBit p := by
  rw [un_xor, Nat.testBit_xor, show un (-1) = 2 ^ 32 - 1 from rfl, Nat.testBit_two_pow_sub_one, decide_eq_true h, Bool.xor_true]
theorem ub_zero (p : Nat) : (un (0 : Int32)).testBit p = false := by rw [show un (0 : Int32) = 0 from rfl, Nat.zero_testBit]
theorem e_byLogic (l : Nat) (hl : l < 16) (s d : Int32) : ∃ r, F_Pic_byLogic (Int32.ofNat l) s d = some r ∧ ∀ p, p < 32 → (un r).testBit p = l.testBit (2 * ((un s).testBit p).toNat + ((un d).testBit p).toNat) := by
  have hm : l = 0 ∨ l = 1 ∨ l = 2 ∨ l = 3 ∨ l = 4 ∨ l = 5 ∨ l = 6 ∨ l = 7 ∨ l = 8 ∨ l = 9 ∨ l = 10 ∨ l = 11 ∨ l = 12 ∨ l = 13 ∨ l = 14 ∨ l = 15 := by omega
  rcases hm with rfl | rfl | rfl | rfl | rfl | rfl | rfl | rfl | rfl | rfl | rfl | rfl | rfl | rfl | rfl | rfl <;>
  · refine ⟨_, rfl, fun p hp => ?_⟩
    simp only [ub_or, ub_and, ub_not _ p hp, ub_zero]
    cases (un s).testBit p <;> cases (un d).testBit p <;> decide
theorem sbit (a b : Nat) (ha : a < 256) (hb : b < 8) : ((Int32.ofNat a >>> (Int32.ofNat b &&& 31)) &&& 1 : Int32) = Int32.ofNat (a / 2 ^ b % 2) := by
  apply i_inj
  have e : (Int32.ofNat b &&& 31 : Int32) = Int32.ofNat b := by
    have : b = 0 ∨ b = 1 ∨ b = 2 ∨ b = 3 ∨ b = 4 ∨ b = 5 ∨ b = 6 ∨ b = 7 := by omega
    rcases this with rfl | rfl | rfl | rfl | rfl | rfl | rfl | rfl <;> decide
  rw [e, show (1 : Int32) = Int32.ofNat (2 ^ 1 - 1) from rfl, b_and _ 1 (by omega), b_sar _ b (by omega), n_int a (by omega), n_int _ (by omega), Int.natCast_emod, Int.natCast_ediv, Int.natCast_pow]
  rfl
theorem shl8 (b : Nat) (hb : b < 8) : (Int32.ofNat b &&& 31 : Int32) = Int32.ofNat b := by
  have : b = 0 ∨ b = 1 ∨ b = 2 ∨ b = 3 ∨ b = 4 ∨ b = 5 ∨ b = 6 ∨ b = 7 := by omega
  rcases this with rfl | rfl | rfl | rfl | rfl | rfl | rfl | rfl <;> decide
theorem bn_bit (x : Int32) (k b : Nat) (hb : b < 8) : bn x k / 2 ^ b % 2 = ((un x).testBit (8 * k + b)).toNat := by
  rw [Nat.toNat_testBit]
  unfold bn
  rw [show 2 ^ (8 * k + b) = 2 ^ (8 * k) * 2 ^ b from Nat.pow_add .., ← Nat.div_div_eq_div_mul]
  generalize un x / 2 ^ (8 * k) = q
  have : b = 0 ∨ b = 1 ∨ b = 2 ∨ b = 3 ∨ b = 4 ∨ b = 5 ∨ b = 6 ∨ b = 7 := by omega
  rcases this with rfl | rfl | rfl | rfl | rfl | rfl | rfl | rfl <;> simp only [Nat.reducePow] <;> omega
theorem e_bits (σ τ : Sg) (s d r : Int32) (h : Blo σ τ s d) (l k : Nat) (hl : l < 16) (hk : k < 4) (hL : τ.1 38 = Int32.ofNat l)
    (hr : ∀ p, p < 32 → (un r).testBit p = l.testBit (2 * ((un s).testBit p).toNat + ((un d).testBit p).toNat)) : F_Ptm_bits τ (Int32.ofNat k) = some (byt r k) := by
  have hkk := n_inb k 4 hk (by omega)
  have hkn := n_nat k (by omega)
  have hR := bn_lt r k
  have st : ∀ n b, b < 8 → L_Ptm_bits_4 (n + 1) τ (Int32.ofNat k) (Int32.ofNat (bn r k % 2 ^ b)) (Int32.ofNat b) = L_Ptm_bits_4 n τ (Int32.ofNat k) (Int32.ofNat (bn r k % 2 ^ (b + 1))) (Int32.ofNat (b + 1)) := by
    intro n b hb
    have eb : bn r k / 2 ^ b % 2 = l / 2 ^ (2 * (bn s k / 2 ^ b % 2) + bn d k / 2 ^ b % 2) % 2 := by
      rw [bn_bit r k b hb, bn_bit s k b hb, bn_bit d k b hb, hr _ (by omega), Nat.toNat_testBit]
    have hp : 2 ^ b ≤ 128 := Nat.pow_le_pow_right (n := 2) (by omega) (show b ≤ 7 by omega)
    have hlt : bn r k % 2 ^ b < 2 ^ b := Nat.mod_lt _ (Nat.two_pow_pos b)
    have hmul : (bn r k / 2 ^ b % 2) * 2 ^ b ≤ 1 * 2 ^ b := Nat.mul_le_mul_right _ (by omega)
    rw [L_Ptm_bits_4, if_neg (show ¬ (8 : Int32) ≤ Int32.ofNat b from fun e => absurd ((n_le 8 b (by omega) (by omega)).mp e) (by omega)), ck_pos hkk, ck_pos hkk, lt_def, lt_def, lt_def, hkn, h.s k hk, h.d k hk, byt_eq, byt_eq, sbit _ b (bn_lt _ _) hb, sbit _ b (bn_lt _ _) hb, hL]
    rw [show ((2 : Int32) * Int32.ofNat (bn s k / 2 ^ b % 2) + Int32.ofNat (bn d k / 2 ^ b % 2)) = Int32.ofNat (2 * (bn s k / 2 ^ b % 2) + bn d k / 2 ^ b % 2) by rw [show (2 : Int32) = Int32.ofNat 2 from rfl, n_mul, n_add]]
    rw [mask_bit l _ hl (by omega), ← eb, shl8 b hb, un_or_add _ _ b hlt (by omega) (by omega), n_succ]
    congr 2
    rw [Nat.mod_pow_succ, Nat.mul_comm (2 ^ b)]
  unfold F_Ptm_bits
  rw [show L_Ptm_bits_4 100000 τ (Int32.ofNat k) 0 0 = L_Ptm_bits_4 (99991 + 1 + 1 + 1 + 1 + 1 + 1 + 1 + 1 + 1) τ (Int32.ofNat k) (Int32.ofNat 0) (Int32.ofNat 0) from rfl, show Int32.ofNat 0 = Int32.ofNat (bn r k % 2 ^ 0) by rw [Nat.pow_zero, Nat.mod_one]]
  rw [show L_Ptm_bits_4 (99991 + 1 + 1 + 1 + 1 + 1 + 1 + 1 + 1 + 1) τ (Int32.ofNat k) (Int32.ofNat (bn r k % 2 ^ 0)) (Int32.ofNat (bn r k % 2 ^ 0)) = L_Ptm_bits_4 (99991 + 1 + 1 + 1 + 1 + 1 + 1 + 1 + 1 + 1) τ (Int32.ofNat k) (Int32.ofNat (bn r k % 2 ^ 0)) (Int32.ofNat 0) by congr 2; rw [Nat.pow_zero, Nat.mod_one]]
  rw [st _ 0 (by omega), st _ 1 (by omega), st _ 2 (by omega), st _ 3 (by omega), st _ 4 (by omega), st _ 5 (by omega), st _ 6 (by omega), st _ 7 (by omega), L_Ptm_bits_4, if_pos (by decide)]
  congr 2
  rw [Nat.mod_eq_of_lt (by omega)]
/-- the reference's new byte of a channel -/
def rvC (τ : Sg) (k : Nat) : Option Int32 := if (τ.1 38) < 0 then (if (τ.1 36) < 0 then some (τ.2.2.1 53 k) else F_Ptm_blended τ (Int32.ofNat k)) else F_Ptm_bits τ (Int32.ofNat k)
theorem e_newColour (σ τ : Sg) (s d : Int32) (h : Blo σ τ s d) (g : Bls σ τ) (hl : τ.1 38 = σ.2.2.1 1 213) (hl0 : -1 ≤ (σ.2.2.1 1 213).toInt) (hl1 : (σ.2.2.1 1 213).toInt ≤ 15) :
    ∃ c, F_Pic_newColour σ s d = some c ∧ ∀ k, k < 4 → rvC τ k = some (byt c k) := by
  unfold F_Pic_newColour rvC
  rw [hl, g.e]
  by_cases c1 : (σ.2.2.1 1 213) < 0
  · rw [if_pos c1]
    by_cases c2 : (σ.2.2.1 1 210) < 0
    · rw [if_neg (show ¬ 0 ≤ σ.2.2.1 1 210 by grind)]
      exact ⟨s, rfl, fun k hk => by rw [if_pos c1, if_pos c2, h.s k hk]⟩
    · rw [if_pos (show 0 ≤ σ.2.2.1 1 210 by grind)]
      have hb := fun k (hk : k < 4) => e_blended σ τ s d h g k hk
      let f : Nat → Nat := fun k => if hk : k < 4 then (hb k hk).choose else 0
      have fe : ∀ k (hk : k < 4), f k = (hb k hk).choose := fun k hk => by simp only [f, dif_pos hk]
      have f1 : ∀ k, k < 4 → f k < 256 := fun k hk => by rw [fe k hk]; exact (hb k hk).choose_spec.1
      have f2 : ∀ k, k < 4 → F_Pic_blended σ (Int32.ofNat k) s d = some (Int32.ofNat (f k)) := fun k hk => by rw [fe k hk]; exact (hb k hk).choose_spec.2.1
      have f3 : ∀ k, k < 4 → F_Ptm_blended τ (Int32.ofNat k) = some (Int32.ofNat (f k)) := fun k hk => by rw [fe k hk]; exact (hb k hk).choose_spec.2.2
      refine ⟨pkw f, ?_, fun k hk => by rw [if_pos c1, if_neg c2, f3 k hk, byt_eq, bn_pkw f f1 k hk]⟩
      have st : ∀ (n k : Nat) (v : Int32), k < 4 → L_Pic_newColour_43 (n + 1) σ s d v (Int32.ofNat k) = L_Pic_newColour_43 n σ s d (v ||| (Int32.ofNat (f k) <<< Int32.ofNat (8 * k))) (Int32.ofNat (k + 1)) := by
        intro n k v hk
        rw [L_Pic_newColour_43, if_neg (show ¬ (4 : Int32) ≤ Int32.ofNat k from fun e => absurd ((n_le 4 k (by omega) (by omega)).mp e) (by omega)), f2 k hk, bd_def, lt_def, lt_def, ix8 k hk, n_succ]
      rw [show L_Pic_newColour_43 100000 σ s d 0 0 = L_Pic_newColour_43 (99995 + 1 + 1 + 1 + 1 + 1) σ s d 0 (Int32.ofNat 0) from rfl, st _ 0 _ (by omega), st _ 1 _ (by omega), st _ 2 _ (by omega), st _ 3 _ (by omega), L_Pic_newColour_43, if_pos (by decide), ← pkw_loop f f1]
  · have c0 : 0 ≤ (σ.2.2.1 1 213).toInt := by
      have : ¬ (σ.2.2.1 1 213).toInt < 0 := fun e => c1 (Int32.lt_iff_toInt_lt.mpr e)
      omega
    obtain ⟨l, l1, e⟩ : ∃ l : Nat, l < 16 ∧ σ.2.2.1 1 213 = Int32.ofNat l := ⟨(σ.2.2.1 1 213).toInt.toNat, by omega, i_inj _ _ (by rw [n_int _ (by omega)]; omega)⟩
    rw [if_neg c1, e]
    obtain ⟨r, r1, r2⟩ := e_byLogic l l1 s d
    refine ⟨r, by rw [r1]; rfl, fun k hk => ?_⟩
    rw [if_neg (by rw [← e]; exact c1)]
    exact e_bits σ τ s d r h l k l1 hk (by rw [hl, e]) r2
