/-! depths and shares -/
def SD (X Y D : Nat → Int32) (x y : Nat) : Int := wgt X Y 0 x y * (D 0).toInt + wgt X Y 1 x y * (D 1).toInt + wgt X Y 2 x y * (D 2).toInt
def dpt (X Y D : Nat → Int32) (x y : Nat) : Int32 := (Int64.ofInt (SD X Y D x y) / Int64.ofInt (aWh X Y)).toInt32
theorem pm_sum (W : Int) (g : Nat → Int) : g (pm W 0) + g (pm W 1) + g (pm W 2) = g 0 + g 1 + g 2 := by
  unfold pm
  by_cases c : W < 0
  · simp only [if_pos c]
    show g 0 + g 2 + g 1 = _
    omega
  · simp only [if_neg c]
theorem e_depthThere (X Y D : Nat → Int32) (k x y : Nat) (σ : Sg) (hk : 1 ≤ k ∧ k ≤ 6) (hX : XyOK X) (hY : XyOK Y) (hA : σ.2.1 2 = Int64.ofInt (aWh X Y)) (hne : whl X Y ≠ 0) (hW : WhoC X Y k σ) (hw : WtC X Y x y 3 σ) (hD : ∀ j, j < 3 → σ.2.2.1 26 (ci k j) = D j) :
    F_Cov_depthThere σ = some (dpt X Y D x y) := by
  have hWb := whl_bd X Y hX hY
  have haz : ¬ Int64.ofInt (aWh X Y) = 0 := by
    rw [(lo_nn (aWh X Y) (by unfold aWh; split <;> omega) (by unfold aWh; split <;> omega)).2.1]
    unfold aWh; split <;> omega
  have step : ∀ (n i : Nat) (v : Int), i < 3 → L_Cov_depthThere_4 (n + 1) σ (Int64.ofInt v) (Int32.ofNat i) = L_Cov_depthThere_4 n σ (Int64.ofInt (v + wgt X Y (pm (whl X Y) i) x y * (D (pm (whl X Y) i)).toInt)) (Int32.ofNat (i + 1)) := by
    intro n i v hi
    have pj := (pm_edge (whl X Y) i hi).2.2
    have lj := ci_lt k _ hk.2 pj
    rw [L_Cov_depthThere_4, if_neg (by rw [show (3 : Int32) = Int32.ofNat 3 from rfl, n_le _ _ (by omega) (by omega)]; omega)]
    simp only [ck_pos (n_inb i 3 hi (by omega)), n_nat i (by omega), hW i hi, ck_pos (n_inb _ 8 lj (by omega)), n_nat _ (show ci k (pm (whl X Y) i) < 2147483648 by omega), hw i hi, hD _ pj, lt, n_succ, lo_ext (D (pm (whl X Y) i)), lo_mul, lo_add]
  unfold F_Cov_depthThere
  rw [show (0 : Int64) = Int64.ofInt 0 from rfl, show (0 : Int32) = Int32.ofNat 0 from rfl, show (100000 : Nat) = 99996 + 1 + 1 + 1 + 1 from rfl, step _ 0 _ (by omega), step _ 1 _ (by omega), step _ 2 _ (by omega), L_Cov_depthThere_4, if_pos (by decide), hA, if_neg haz, ck_pos haz]
  unfold F_Cov_depthThere_60 dpt SD
  congr 3
  have := pm_sum (whl X Y) (fun j => wgt X Y j x y * (D j).toInt)
  congr 1
  omega
/-- how far the shares are moved -/
def shP (f : Nat → Nat) (s : Nat) : Prop := (∀ j, j < 3 → f j / 2 ^ s < 536870912) ∧ (s = 0 ∨ ∃ j, j < 3 ∧ 536870912 ≤ f j / 2 ^ (s - 1))
theorem shP_uniq (f : Nat → Nat) (s t : Nat) (hs : shP f s) (ht : shP f t) : s = t := by
  have h : ∀ s t, shP f s → shP f t → ¬ s < t := by
    intro s t hs ht hlt
    rcases ht.2 with h | ⟨j, hj, h⟩
    · omega
    · have h1 := hs.1 j hj
      have h2 : f j / 2 ^ (t - 1) ≤ f j / 2 ^ s := Nat.div_le_div_left (Nat.pow_le_pow_right (by omega) (by omega)) (Nat.two_pow_pos s)
      omega
  have := h s t hs ht
  have := h t s ht hs
  omega
theorem ln_sar (a s : Nat) (ha : a < 9223372036854775808) (hs : s < 64) : lshr (Int64.ofNat a) (Int32.ofNat s) = Int64.ofNat (a / 2 ^ s) := by
  apply l_inj
  have := Nat.div_le_self a (2 ^ s)
  rw [l_sar _ s hs, ln_int a ha, ln_int _ (by omega), Int.natCast_ediv, Int.natCast_pow]
  rfl
/-! the number of zeros ahead -/
theorem un_ushrN (a s : Nat) (ha : a < 4294967296) (hs : s < 32) : ushr (Int32.ofNat a) (Int32.ofNat s) = Int32.ofNat (a / 2 ^ s) := by
  rw [b_ushr _ _ hs, un_small a ha]
theorem e_nlz (a : Nat) (h0 : 0 < a) (h1 : a < 2147483648) : ∃ r : Nat, r ≤ 31 ∧ F_Itg_numberOfLeadingZeros (Int32.ofNat a) = some (Int32.ofNat r) ∧ 2 ^ (31 - r) ≤ a ∧ a < 2 ^ (32 - r) := by
  have e73 : ∀ (b v c : Nat), v = a / 2 ^ b → b + c = 31 → 1 ≤ c → 1 ≤ v → v < 4 → ∃ r : Nat, r ≤ 31 ∧ F_Itg_numberOfLeadingZeros_73 (Int32.ofNat v) (Int32.ofNat c) = some (Int32.ofNat r) ∧ 2 ^ (31 - r) ≤ a ∧ a < 2 ^ (32 - r) := by
    intro b v c hv hbc hc h1 h4
    unfold F_Itg_numberOfLeadingZeros_73
    rw [show (1 : Int32) = Int32.ofNat 1 from rfl, un_ushrN v 1 (by omega) (by omega), i_subn _ _ (by omega)]
    refine ⟨c - v / 2 ^ 1, by omega, rfl, ?_, ?_⟩
    · have hm := Nat.div_mul_le_self a (2 ^ b)
      rw [← hv] at hm
      by_cases c2 : v = 1
      · subst c2
        rw [show 31 - (c - 1 / 2 ^ 1) = b by omega]; omega
      · have hv2 : v / 2 ^ 1 = 1 := by omega
        rw [hv2, show 31 - (c - 1) = b + 1 by omega, Nat.pow_succ]
        have : 2 * 2 ^ b ≤ v * 2 ^ b := Nat.mul_le_mul_right _ (by omega)
        omega
    · have hlt : a < (v + 1) * 2 ^ b := by
        have q1 := Nat.div_add_mod a (2 ^ b)
        have q2 := Nat.mod_lt a (Nat.two_pow_pos b)
        rw [← hv] at q1
        rw [Nat.add_mul, Nat.one_mul, Nat.mul_comm v]; omega
      by_cases c2 : v = 1
      · subst c2
        rw [show 32 - (c - 1 / 2 ^ 1) = b + 1 by omega, Nat.pow_succ]; omega
      · have hv2 : v / 2 ^ 1 = 1 := by omega
        rw [hv2, show 32 - (c - 1) = b + 2 by omega, Nat.pow_add]
        have : (v + 1) * 2 ^ b ≤ 4 * 2 ^ b := Nat.mul_le_mul_right _ (by omega)
        omega
  have neg : ∀ c t : Nat, t ≤ c → Int32.ofNat c + (-(Int32.ofNat t)) = Int32.ofNat (c - t) := fun c t h => by
    rw [← i_subn c t h]; grind
  have dd : ∀ b t : Nat, a / 2 ^ b / 2 ^ t = a / 2 ^ (b + t) := fun b t => by rw [Nat.div_div_eq_div_mul, Nat.pow_add]
  have e61 : ∀ (b v c : Nat), v = a / 2 ^ b → b + c = 31 → 3 ≤ c → 1 ≤ v → v < 16 → ∃ r : Nat, r ≤ 31 ∧ F_Itg_numberOfLeadingZeros_61 (Int32.ofNat v) (Int32.ofNat c) = some (Int32.ofNat r) ∧ 2 ^ (31 - r) ≤ a ∧ a < 2 ^ (32 - r) := by
    intro b v c hv hbc hc h1 h4
    unfold F_Itg_numberOfLeadingZeros_61
    by_cases d : v < 4
    · rw [if_pos (show Int32.ofNat v < 4 from (n_lt v 4 (by omega) (by omega)).mpr d)]; exact e73 b v c hv hbc (by omega) h1 d
    · rw [if_neg (show ¬ Int32.ofNat v < 4 from fun h => d ((n_lt v 4 (by omega) (by omega)).mp h)), lt_def, lt_def, show (-2 : Int32) = -(Int32.ofNat 2) from rfl, neg c 2 (by omega), show (2 : Int32) = Int32.ofNat 2 from rfl, un_ushrN v 2 (by omega) (by omega)]
      exact e73 (b + 2) _ (c - 2) (by rw [hv, dd]) (by omega) (by omega) (by omega) (by omega)
  have e48 : ∀ (b v c : Nat), v = a / 2 ^ b → b + c = 31 → 7 ≤ c → 1 ≤ v → v < 256 → ∃ r : Nat, r ≤ 31 ∧ F_Itg_numberOfLeadingZeros_48 (Int32.ofNat v) (Int32.ofNat c) = some (Int32.ofNat r) ∧ 2 ^ (31 - r) ≤ a ∧ a < 2 ^ (32 - r) := by
    intro b v c hv hbc hc h1 h4
    unfold F_Itg_numberOfLeadingZeros_48
    by_cases d : v < 16
    · rw [if_pos (show Int32.ofNat v < 16 from (n_lt v 16 (by omega) (by omega)).mpr d)]; exact e61 b v c hv hbc (by omega) h1 d
    · rw [if_neg (show ¬ Int32.ofNat v < 16 from fun h => d ((n_lt v 16 (by omega) (by omega)).mp h)), lt_def, lt_def, show (-4 : Int32) = -(Int32.ofNat 4) from rfl, neg c 4 (by omega), show (4 : Int32) = Int32.ofNat 4 from rfl, un_ushrN v 4 (by omega) (by omega)]
      exact e61 (b + 4) _ (c - 4) (by rw [hv, dd]) (by omega) (by omega) (by omega) (by omega)
  have e33 : ∀ (b v c : Nat), v = a / 2 ^ b → b + c = 31 → 15 ≤ c → 1 ≤ v → v < 65536 → ∃ r : Nat, r ≤ 31 ∧ F_Itg_numberOfLeadingZeros_33 (Int32.ofNat v) (Int32.ofNat c) = some (Int32.ofNat r) ∧ 2 ^ (31 - r) ≤ a ∧ a < 2 ^ (32 - r) := by
    intro b v c hv hbc hc h1 h4
    unfold F_Itg_numberOfLeadingZeros_33
    by_cases d : v < 256
    · rw [if_pos (show Int32.ofNat v < 256 from (n_lt v 256 (by omega) (by omega)).mpr d)]; exact e48 b v c hv hbc (by omega) h1 d
    · rw [if_neg (show ¬ Int32.ofNat v < 256 from fun h => d ((n_lt v 256 (by omega) (by omega)).mp h)), lt_def, lt_def, show (-8 : Int32) = -(Int32.ofNat 8) from rfl, neg c 8 (by omega), show (8 : Int32) = Int32.ofNat 8 from rfl, un_ushrN v 8 (by omega) (by omega)]
      exact e48 (b + 8) _ (c - 8) (by rw [hv, dd]) (by omega) (by omega) (by omega) (by omega)
  unfold F_Itg_numberOfLeadingZeros
  rw [if_pos (show 0 < Int32.ofNat a from (n_lt 0 a (by omega) (by omega)).mpr h0)]
  by_cases d : a < 65536
  · rw [if_pos (show Int32.ofNat a < 65536 from (n_lt a 65536 (by omega) (by omega)).mpr d)]; exact e33 0 a 31 (by simp) rfl (by omega) (by omega) d
  · rw [if_neg (show ¬ Int32.ofNat a < 65536 from fun h => d ((n_lt a 65536 (by omega) (by omega)).mp h)), lt_def, show (16 : Int32) = Int32.ofNat 16 from rfl, un_ushrN a 16 (by omega) (by omega)]
    exact e33 16 _ 15 rfl rfl (by omega) (by omega) (by omega)
theorem lu32 (n : Nat) (h : n < 9223372036854775808) : lushr (Int64.ofNat n) 32 = Int64.ofNat (n / 4294967296) := by
  apply Int64.toBitVec_inj.mp
  apply BitVec.eq_of_toNat_eq
  have h4 : (lushr (Int64.ofNat n) 32).toBitVec.toNat = ((Int64.ofNat n).toUInt64 >>> ((32 : Int32).toInt64.toUInt64 &&& Int64.toUInt64 63)).toNat := rfl
  rw [h4, UInt64.toNat_shiftRight, show ((32 : Int32).toInt64.toUInt64 &&& Int64.toUInt64 63).toNat % 64 = 32 from rfl, Nat.shiftRight_eq_div_pow]
  show (BitVec.ofNat 64 n).toNat / 2 ^ 32 = (BitVec.ofNat 64 (n / 4294967296)).toNat
  rw [BitVec.toNat_ofNat, BitVec.toNat_ofNat]
  omega
theorem e_lnz (n : Nat) (h : n < 4611686018427387904) : ∃ b : Nat, b ≤ 62 ∧ F_Lng_numberOfLeadingZeros (Int64.ofNat n) = some (Int32.ofNat (64 - b)) ∧ (0 < n → 1 ≤ b ∧ 2 ^ (b - 1) ≤ n) ∧ n < 2 ^ b ∧ (n = 0 → b = 0) := by
  unfold F_Lng_numberOfLeadingZeros F_Lng_numberOfLeadingZeros_25
  rw [lu32 n (by omega), ln_cut, ln_cut, lt_def]
  by_cases c : n / 4294967296 = 0
  · rw [if_pos (by rw [c]; rfl)]
    by_cases c0 : n = 0
    · subst c0
      exact ⟨0, by omega, rfl, fun h => by omega, by decide, fun _ => rfl⟩
    · by_cases c1 : n < 2147483648
      · obtain ⟨r, r1, r2, r3, r4⟩ := e_nlz n (by omega) c1
        rw [r2, bd_def, show (32 : Int32) = Int32.ofNat 32 from rfl, n_add]
        refine ⟨32 - r, by omega, by congr 2; omega, fun _ => ⟨by omega, ?_⟩, r4, fun h => absurd h c0⟩
        rw [show 32 - r - 1 = 31 - r by omega]; exact r3
      · have hneg : Int32.ofNat n < 0 := by
          have e : (Int32.ofNat n).toInt = (n : Int) - 4294967296 := by
            show (BitVec.ofNat 32 n).toInt = _
            rw [BitVec.toInt_ofNat', Int.bmod_def]
            split <;> omega
          rw [Int32.lt_iff_toInt_lt, e, show (0 : Int32).toInt = 0 from rfl]; omega
        have e0 : F_Itg_numberOfLeadingZeros (Int32.ofNat n) = some 0 := by
          unfold F_Itg_numberOfLeadingZeros F_Itg_numberOfLeadingZeros_14
          rw [if_neg (show ¬ 0 < Int32.ofNat n by grind), if_neg (show ¬ Int32.ofNat n = 0 by grind)]
        rw [e0, bd_def]
        refine ⟨32, by omega, rfl, fun _ => ⟨by omega, ?_⟩, ?_, fun h => absurd h c0⟩
        · show 2 ^ 31 ≤ n; omega
        · show n < 2 ^ 32; omega
  · rw [if_neg (show ¬ Int32.ofNat (n / 4294967296) = 0 from fun h => c ((n_inj _ 0 (by omega) (by omega)).mp h))]
    obtain ⟨r, r1, r2, r3, r4⟩ := e_nlz (n / 4294967296) (by omega) (by omega)
    rw [r2, bd_def]
    have hr : 2 ≤ r := by
      refine Classical.byContradiction fun hc => ?_
      have : r = 0 ∨ r = 1 := by omega
      rcases this with rfl | rfl
      · have : (2 : Nat) ^ (31 - 0) = 2147483648 := by decide
        omega
      · have : (2 : Nat) ^ (31 - 1) = 1073741824 := by decide
        omega
    have q1 := Nat.div_add_mod n 4294967296
    have q2 := Nat.mod_lt n (show 0 < 4294967296 by omega)
    refine ⟨64 - r, by omega, by congr 2; omega, fun _ => ⟨by omega, ?_⟩, ?_, fun h => by omega⟩
    · rw [show 64 - r - 1 = 32 + (31 - r) by omega, Nat.pow_add]
      have : 4294967296 * 2 ^ (31 - r) ≤ 4294967296 * (n / 4294967296) := Nat.mul_le_mul_left _ r3
      have e : (2 : Nat) ^ 32 = 4294967296 := by decide
      rw [e]; omega
    · rw [show 64 - r = 32 + (32 - r) by omega, Nat.pow_add]
      have : 4294967296 * (n / 4294967296 + 1) ≤ 4294967296 * 2 ^ (32 - r) := Nat.mul_le_mul_left _ r4
      have e : (2 : Nat) ^ 32 = 4294967296 := by decide
      rw [e]; omega
theorem sh_of_bl (n b : Nat) (h1 : 0 < n → 1 ≤ b ∧ 2 ^ (b - 1) ≤ n) (h2 : n < 2 ^ b) (h0 : n = 0 → b = 0) : n / 2 ^ (b - 29) < 536870912 ∧ (b - 29 = 0 ∨ 536870912 ≤ n / 2 ^ (b - 29 - 1)) := by
  constructor
  · rw [Nat.div_lt_iff_lt_mul (Nat.two_pow_pos _)]
    by_cases c : b ≤ 29
    · rw [show b - 29 = 0 by omega]
      have : 2 ^ b ≤ 2 ^ 29 := Nat.pow_le_pow_right (by omega) c
      omega
    · have e : 536870912 * 2 ^ (b - 29) = 2 ^ b := by
        rw [show (536870912 : Nat) = 2 ^ 29 from rfl, ← Nat.pow_add]; congr 1; omega
      omega
  · by_cases c : b ≤ 29
    · left; omega
    · right
      have hn : 0 < n := by
        refine Nat.pos_of_ne_zero fun h => ?_
        have := h0 h
        omega
      rw [Nat.le_div_iff_mul_le (Nat.two_pow_pos _)]
      have e : 536870912 * 2 ^ (b - 29 - 1) = 2 ^ (b - 1) := by
        rw [show (536870912 : Nat) = 2 ^ 29 from rfl, ← Nat.pow_add]; congr 1; omega
      rw [e]; exact (h1 hn).2
