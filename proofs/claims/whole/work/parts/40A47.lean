/-! textures: the reference's bits -/
theorem ln_int (n : Nat) (h : n < 9223372036854775808) : (Int64.ofNat n).toInt = (n : Int) := Int64.toInt_ofNat_of_lt (by omega)
theorem ln_ext (n : Nat) (h : n < 2147483648) : (Int32.ofNat n).toInt64 = Int64.ofNat n := by
  apply l_inj; rw [l_ext, n_int n h, ln_int n (by omega)]
theorem ln_cut (n : Nat) : (Int64.ofNat n).toInt32 = Int32.ofNat n := by
  apply i_inj
  rw [l_cut]
  show ((BitVec.ofNat 64 n).toInt).bmod 4294967296 = (BitVec.ofNat 32 n).toInt
  rw [BitVec.toInt_ofNat', BitVec.toInt_ofNat']
  rw [Int.bmod_bmod_of_dvd]
  exact ⟨4294967296, by decide⟩
theorem ln_add (a b : Nat) : Int64.ofNat a + Int64.ofNat b = Int64.ofNat (a + b) := (Int64.ofNat_add a b).symm
theorem ln_mul (a b : Nat) : Int64.ofNat a * Int64.ofNat b = Int64.ofNat (a * b) := (Int64.ofNat_mul a b).symm
theorem ln_div32 (n : Nat) (h : n < 9223372036854775808) : Int64.ofNat n / 32 = Int64.ofNat (n / 32) := by
  apply l_inj
  have z : (32 : Int64).toInt = 32 := rfl
  rw [l_div _ _ (by rw [z]; omega), ln_int n h, ln_int _ (by omega), z, Int.tdiv_eq_ediv_of_nonneg (by omega)]
  omega
theorem ln_rem32 (n : Nat) (h : n < 9223372036854775808) : (lrem (Int64.ofNat n) 32).toInt32 = Int32.ofNat (n % 32) := by
  unfold lrem
  rw [ln_div32 n h, show (32 : Int64) = Int64.ofNat 32 from rfl, ln_mul]
  have e : Int64.ofNat n - Int64.ofNat (n / 32 * 32) = Int64.ofNat (n % 32) := by
    apply l_inj
    rw [l_sub, ln_int n h, ln_int _ (by omega), ln_int _ (by omega)]
    · omega
    · rw [ln_int n h, ln_int _ (by omega)]; omega
    · rw [ln_int n h, ln_int _ (by omega)]; omega
  rw [e, ln_cut]
theorem an31 : ∀ k, k < 32 → Int32.ofNat k &&& 31 = Int32.ofNat k := by decide
/-- one bit of a word -/
theorem b_bit (x : Int32) (k : Nat) (hk : k < 32) : (x >>> Int32.ofNat k) &&& 1 = Int32.ofNat (un x / 2 ^ k % 2) := by
  apply i_inj
  have h1 : ((x >>> Int32.ofNat k) &&& Int32.ofNat (2 ^ 1 - 1)).toInt = (x >>> Int32.ofNat k).toInt % 2 ^ 1 := b_and _ 1 (by omega)
  have h2 : (1 : Int32) = Int32.ofNat (2 ^ 1 - 1) := rfl
  rw [h2, h1, b_sar x k hk, n_int _ (by omega)]
  have h3 := un_toInt x
  have h4 : (4294967296 : Int) = 2 ^ k * 2 ^ (32 - k) := by rw [← Int.pow_add, show k + (32 - k) = 32 by omega]; rfl
  have h5 : x.toInt = (un x : Int) + 2 ^ k * (2 ^ (32 - k) * (x.toInt / 4294967296)) := by
    rw [← Int.mul_assoc, ← h4, h3]; omega
  have h6 : x.toInt / 2 ^ k = (un x : Int) / 2 ^ k + 2 ^ (32 - k) * (x.toInt / 4294967296) := by
    conv => lhs; rw [h5]
    rw [Int.add_mul_ediv_left _ _ (by have := Int.pow_pos (n := 2) (m := k) (by omega); omega)]
  have h7 : (2 : Int) ^ (32 - k) = 2 * 2 ^ (32 - k - 1) := by
    conv => lhs; rw [show 32 - k = (32 - k - 1) + 1 by omega]
    rw [Int.pow_succ, Int.mul_comm]
  rw [h6, h7, Int.mul_assoc]
  show _ % 2 = _
  rw [Int.add_mul_emod_self_left]
  rw [Int.natCast_emod, Int.natCast_ediv, Int.natCast_pow]; rfl
theorem e_bit (σ : Sg) (fr n : Nat) (hf : fr ≤ 1048576) (hn : n < 2147483648) :
    F_Txm_bit σ (Int32.ofNat fr) (Int64.ofNat n) = some (Int32.ofNat (un (wd (σ.2.2.1 0) (Int64.ofNat (fr + n / 32))) / 2 ^ (n % 32) % 2)) := by
  unfold F_Txm_bit
  simp only [lt, F_Txm_bit_40]
  rw [ln_ext fr (by omega), ln_div32 n (by omega), ln_add, ln_rem32 n (by omega), an31 _ (by omega)]
  have h9 : (4096 : Int64) = Int64.ofNat 4096 := rfl
  have h0 : (0 : Int64) = Int64.ofNat 0 := rfl
  by_cases h : 4096 ≤ fr + n / 32
  · rw [if_pos (by rw [h9, Int64.le_iff_toInt_le, ln_int _ (by omega), ln_int _ (by omega)]; omega)]
    unfold wd
    rw [if_neg]
    · have : un 0 = 0 := rfl
      rw [this]; simp
    · rw [h9, Int64.lt_iff_toInt_lt, ln_int _ (by omega), ln_int _ (by omega)]; omega
  · have q1 : (0 : Int64) ≤ Int64.ofNat (fr + n / 32) := by rw [h0, Int64.le_iff_toInt_le, ln_int _ (by omega), ln_int _ (by omega)]; omega
    have q2 : Int64.ofNat (fr + n / 32) < 4096 := by rw [h9, Int64.lt_iff_toInt_lt, ln_int _ (by omega), ln_int _ (by omega)]; omega
    rw [if_neg (by rw [h9, Int64.le_iff_toInt_le, ln_int _ (by omega), ln_int _ (by omega)]; omega), ck_pos (wd_inb _ q1 q2)]
    rw [b_bit _ _ (by omega)]
    unfold wd
    rw [if_pos ⟨q1, q2⟩]
theorem j9 : ∀ j, j < 9 → ((Int32.ofNat j - 1 < 0 ↔ j = 0) ∧ (j ≠ 0 → (Int32.ofNat j - 1).toInt64 = Int64.ofNat (j - 1)) ∧ (j ≠ 0 → Int32.ofNat j - 1 + -1 = Int32.ofNat (j - 1) - 1)) := by decide
theorem fld_step (W b m : Nat) : 2 * (W / 2 ^ (b + 1) % 2 ^ m) + W / 2 ^ b % 2 = W / 2 ^ b % 2 ^ (m + 1) := by
  have h1 : W / 2 ^ (b + 1) = W / 2 ^ b / 2 := by rw [Nat.pow_succ, Nat.div_div_eq_div_mul]
  rw [h1]
  generalize W / 2 ^ b = V
  rw [Nat.pow_succ, Nat.mul_comm (2 ^ m) 2, Nat.mod_mul]
  omega
/-- where the texel's channel lies in its word -/
theorem same_word (bits i f : Nat) (hb : bits = 4 ∨ bits = 8 ∨ bits = 16 ∨ bits = 32) (hf : f < bits) : (i * bits + f) / 32 = i * bits / 32 ∧ (i * bits + f) % 32 = i * bits % 32 + f := by
  rcases hb with rfl | rfl | rfl | rfl <;> omega
theorem e_look65 (rc : Sg → Int32 → Int64 → Int32 → Option Sg) (σ : Sg) (u fr c i bits fs sz : Nat) (W : Nat) (hu : u < 4) (hc : c < 4) (hfr : fr ≤ 1048576) (hb : bits = 4 ∨ bits = 8 ∨ bits = 16 ∨ bits = 32) (hs : fs + sz ≤ bits) (hz : sz ≤ 8) (hi : i * bits < 2000000000)
    (h5 : σ.2.2.1 5 (8 * u) = Int32.ofNat fr) (h12 : σ.2.2.1 12 c = Int32.ofNat fs) (hW : W = un (wd (σ.2.2.1 0) (Int64.ofNat (fr + i * bits / 32)))) :
    ∀ j, j ≤ sz → ∀ n, j < n → L_Txm_look_65 rc n σ (Int32.ofNat u) (Int64.ofNat (i * bits)) (Int32.ofNat c) (Int32.ofNat (W / 2 ^ (i * bits % 32 + fs + j) % 2 ^ (sz - j))) (Int32.ofNat j - 1)
      = L_Txm_look_65 rc (n - j) σ (Int32.ofNat u) (Int64.ofNat (i * bits)) (Int32.ofNat c) (Int32.ofNat (W / 2 ^ (i * bits % 32 + fs) % 2 ^ sz)) (Int32.ofNat 0 - 1) := by
  obtain ⟨a1, a2, a3, a4, a5⟩ := ix4 c hc
  obtain ⟨⟨b0, b1⟩, -⟩ := v4 u hu
  intro j
  induction j with
  | zero => intro _ n hn; simp only [Nat.add_zero, Nat.sub_zero]
  | succ j ih =>
    intro hj n hn
    obtain ⟨n, rfl⟩ : ∃ m, n = m + 1 := ⟨n - 1, by omega⟩
    obtain ⟨c1, c2, c3⟩ := j9 (j + 1) (by omega)
    obtain ⟨d1, d2⟩ := same_word bits i (fs + j) hb (by omega)
    rw [L_Txm_look_65]
    simp only [lt, b0, ck_pos (mi (8 * u) (by omega)), mn (8 * u) (by omega), a1, ck_pos a2, h5, h12, c2 (by omega), c3 (by omega)]
    rw [if_neg (by rw [c1]; omega), ln_ext fs (by omega), ln_add, ln_add, Nat.add_sub_cancel, Nat.add_assoc (i * bits), e_bit σ fr _ hfr (by omega), bd_def, d1, d2, ← hW]
    rw [show (2 : Int32) = Int32.ofNat 2 from rfl, n_mul, n_add, ← Nat.add_assoc (i * bits % 32), ← Nat.add_assoc (i * bits % 32 + fs) j 1, fld_step, show sz - (j + 1) + 1 = sz - j by omega, ih (by omega) n (by omega)]
    congr 1
    omega
theorem fit8 : ∀ sz, sz < 9 → (1 : Int32) <<< (Int32.ofNat sz &&& 31) - 1 = Int32.ofNat (2 ^ sz - 1) := by decide
theorem chn_nat (m k : Nat) (w : Int32) (hm : m < 8) (hk : k < 4) : (ushr w (tb_CHANNEL_SHIFT (4 * m + k))) &&& grt m k = Int32.ofNat (un w / 2 ^ shN m k % 2 ^ szN m k) := by
  obtain ⟨⟨-, hb⟩, h⟩ := fmt m hm
  obtain ⟨h1, h2, h3, h4, h5⟩ := h k hk
  by_cases c : szN m k = 0
  · rw [h4, c]
    have q : ∀ x : Int32, x &&& Int32.ofNat (2 ^ 0 - 1) = 0 := fun x => by
      apply un_inj; rw [un_and]; show _ &&& 0 = 0; rw [Nat.and_zero]
    rw [q]; simp [Nat.mod_one]
  · rw [h2, h4, b_ushr w _ (by omega), b_mask _ _ (by omega), un_ofNat]
    congr 2
    apply Nat.mod_eq_of_lt
    have := un_lt w
    have := Nat.div_le_self (un w) (2 ^ shN m k)
    omega
theorem txw_nat (μ κ : Nat → Int32) (u i m fr : Nat) (hm : m < 8) (hi : i * btN m < 2000000000) (hf : fr ≤ 1048576) (em : κ (170 + 5 * u + 4) = Int32.ofNat m) (ef : κ (170 + 5 * u) = Int32.ofNat fr) :
    txw μ κ u (Int32.ofNat i) = Int32.ofNat (un (wd μ (Int64.ofNat (fr + i * btN m / 32))) / 2 ^ (i * btN m % 32)) := by
  obtain ⟨⟨hb, -⟩, -⟩ := fmt m hm
  unfold txw
  rw [em, n_nat m (by omega), hb, n_mul]
  have h1 : Int32.ofNat (i * btN m) >>> 5 = Int32.ofNat (i * btN m / 32) := by
    apply i_inj
    have := b_sar (Int32.ofNat (i * btN m)) 5 (by omega)
    rw [show (5 : Int32) = Int32.ofNat 5 from rfl, this, n_int _ (by omega), n_int _ (by omega)]
    omega
  have h2 : Int32.ofNat (i * btN m) &&& 31 = Int32.ofNat (i * btN m % 32) := by
    have := b_mask (Int32.ofNat (i * btN m)) 5 (by omega)
    rw [show (31 : Int32) = Int32.ofNat (2 ^ 5 - 1) from rfl, this, un_ofNat]
    congr 1
    omega
  rw [h1, h2, ef, n_add, ln_ext _ (by omega), b_ushr _ _ (by omega)]
theorem e_look (κ : Nat → Int32) (σ : Sg) (u level x y : Nat) (hu : u < 4) (hl : level ≤ 11) (hk : TxOK κ) (hr : TxRel κ σ) (hx : x < 2 ^ (lw0 κ u - level)) (hy : y < 2 ^ (lh0 κ u - level)) :
    ∃ σ', F_Txm_look σ (Int32.ofNat u) (Int32.ofNat level) (Int32.ofNat x) (Int32.ofNat y) = some σ' ∧ Fr (fun c k => c == 2 && (k == 8 || k == 12 || k == 13)) σ σ' ∧
      ∀ k, k < 4 → σ'.2.2.1 8 k = txl (σ.2.2.1 0) κ u (Int32.ofNat (ab (lw0 κ u) (lh0 κ u) level + y * 2 ^ (lw0 κ u - level) + x)) k := by
  obtain ⟨⟨a0, a1⟩, -⟩ := v4 u hu
  obtain ⟨r1, -, -⟩ := hr u hu
  obtain ⟨⟨f0, f1⟩, -, -, -, ⟨m0, m1⟩, -⟩ := hk u hu
  have hb := lw_le κ u hu hk
  have e4 : Int32.ofNat (8 * u) + 4 = Int32.ofNat (8 * u + 4) := a1 4 (by omega)
  obtain ⟨m, hm, em⟩ := n_get _ m0
  have m8 : m < 8 := by rw [em] at m1; have := (n_le m 7 hm (by omega)).mp m1; omega
  obtain ⟨fr, hfr0, ef⟩ := n_get _ f0
  have hfr : fr ≤ 1048576 := by rw [ef] at f1; exact (n_le fr 1048576 hfr0 (by omega)).mp f1
  obtain ⟨f, g, q1, q2⟩ := e_layOut σ m m8
  obtain ⟨⟨-, hbt⟩, hch⟩ := fmt m m8
  have hr' : TxRel κ (sA (sA σ 12 f) 13 g) := hr.fr rfl rfl
  have hab := ab_le (lw0 κ u) (lh0 κ u) level hb.1 hb.2
  have p1 : 2 ^ (lw0 κ u - level) ≤ 1024 := by
    have := Nat.pow_le_pow_right (n := 2) (by omega) (show lw0 κ u - level ≤ 10 by omega)
    simpa using this
  have p2 : 2 ^ (lh0 κ u - level) ≤ 1024 := by
    have := Nat.pow_le_pow_right (n := 2) (by omega) (show lh0 κ u - level ≤ 10 by omega)
    simpa using this
  have hyw : y * 2 ^ (lw0 κ u - level) ≤ 1024 * 1024 := Nat.mul_le_mul (by omega) (by omega)
  unfold F_Txm_look
  rw [a0, e4, ck_pos (mi _ (by omega)), mn _ (by omega), r1 4 (by omega), em, q1, bd_def, e_ahead κ _ u level hu hl hk hr', bd_def, e_wide κ _ u level hu hl hk hr', bd_def, n_mul, n_add, n_add, lt_def]
  generalize hi : ab (lw0 κ u) (lh0 κ u) level + y * 2 ^ (lw0 κ u - level) + x = i
  have hi2 : i < 14000000 := by omega
  have hib : i * btN m < 2000000000 := by
    have : i * btN m ≤ i * 32 := Nat.mul_le_mul_left i (by omega)
    omega
  rw [ln_ext i (by omega), ln_ext (btN m) (by omega), ln_mul]
  refine ⟨sA (sA (sA σ 12 f) 13 g) 8 (rowset (σ.2.2.1 8) 0 4 (txl (σ.2.2.1 0) κ u (Int32.ofNat i))), fill_loop (fun n σ v => L_Txm_look_45 n σ (Int32.ofNat u) (Int64.ofNat (i * btN m)) v) (sA (sA σ 12 f) 13 g) 8 0 4 0 (txl (σ.2.2.1 0) κ u (Int32.ofNat i)) _ (fun n k hk4 => ?_) (fun n => ?_) 100000 (by decide), ?_, fun k hk4 => ?_⟩
  · obtain ⟨b1, b2, b3, b4, b5⟩ := ix4 k hk4
    obtain ⟨g1, g2⟩ := q2 k hk4
    obtain ⟨h1, h2, h3, h4, h5⟩ := hch k hk4
    simp only [Nat.zero_add]
    rw [L_Txm_look_45]
    simp only [lt, b1, ck_pos b2]
    rw [if_neg b3, show (sA (sA (sA σ 12 f) 13 g) 8 (rowset ((sA (sA σ 12 f) 13 g).2.2.1 8) 0 k (txl (σ.2.2.1 0) κ u (Int32.ofNat i)))).2.2.1 13 k = g k from rfl, g2]
    have key := e_look65 (L_Txm_look_45 n) (sA (sA (sA σ 12 f) 13 g) 8 (rowset ((sA (sA σ 12 f) 13 g).2.2.1 8) 0 k (txl (σ.2.2.1 0) κ u (Int32.ofNat i)))) u fr k i (btN m) (shN m k) (szN m k) _ hu hk4 hfr hbt h3 h5 hib ((r1 0 (by omega)).trans ef) g1 rfl (szN m k) (Nat.le_refl _) 100000 (by omega)
    rw [Nat.sub_self, Nat.pow_zero, Nat.mod_one] at key
    rw [show (0 : Int32) = Int32.ofNat 0 from rfl, key, show 100000 - szN m k = (100000 - szN m k - 1) + 1 by omega, L_Txm_look_65]
    rw [if_pos (show Int32.ofNat 0 - 1 < 0 by decide)]
    simp only [lt, b1, b4, ck_pos b2, F_Txm_look_163, sA_sA, sA_3, if_true, Nat.reduceEqDiff, reduceIte]
    rw [g2, fit8 _ (by omega), ← h4]
    have val : txl (σ.2.2.1 0) κ u (Int32.ofNat i) k = if grt m k = 0 then (if k = 3 then 65536 else 0) else (131072 * Int32.ofNat (un (wd (σ.2.2.1 0) (Int64.ofNat (fr + i * btN m / 32))) / 2 ^ (i * btN m % 32 + shN m k) % 2 ^ szN m k) + grt m k) / (2 * grt m k) := by
      unfold txl chn
      rw [em, n_nat m hm, chn_nat m k _ m8 hk4, txw_nat (σ.2.2.1 0) κ u i m fr m8 hib hfr em ef, un_ofNat]
      have w1 := un_lt (wd (σ.2.2.1 0) (Int64.ofNat (fr + i * btN m / 32)))
      have w2 := Nat.div_le_self (un (wd (σ.2.2.1 0) (Int64.ofNat (fr + i * btN m / 32)))) (2 ^ (i * btN m % 32))
      rw [Nat.mod_eq_of_lt (a := un (wd (σ.2.2.1 0) (Int64.ofNat (fr + i * btN m / 32))) / 2 ^ (i * btN m % 32)) (by omega), Nat.div_div_eq_div_mul, ← Nat.pow_add]
    rw [val]
    have c1 := chb m m8 k hk4
    by_cases c2 : grt m k = 0
    · rw [if_pos c2, if_pos c2]
      by_cases c3 : k = 3
      · rw [if_pos (b5.mpr c3), if_pos c3]
      · rw [if_neg (fun h => c3 (b5.mp h)), if_neg c3]
    · rw [if_neg c2, if_neg c2, ck_pos (c1 c2)]
  · have h4 : (4 : Int32) ≤ Int32.ofNat (0 + 4) := by decide
    simp only [L_Txm_look_45, if_pos h4]
    rfl
  · exact fr_sA (fr_sA (fr_sA Fr.rfl _ _ (by decide)) _ _ (by decide)) _ _ (by decide)
  · rw [sA_3, if_pos rfl, rowset_get0 _ _ _ _ hk4]
