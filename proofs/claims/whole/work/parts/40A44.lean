/-! textures: the numbers -/
def wd (μ : Nat → Int32) (x : Int64) : Int32 := if 0 ≤ x ∧ x < 4096 then μ x.toInt32.toNatClampNeg else 0
theorem wd_inb (x : Int64) (h0 : 0 ≤ x) (h1 : x < 4096) : inb x.toInt32 4096 := by
  have a0 := Int64.le_iff_toInt_le.mp h0
  have a1 := Int64.lt_iff_toInt_lt.mp h1
  have b0 : (0 : Int64).toInt = 0 := rfl
  have b1 : (4096 : Int64).toInt = 4096 := rfl
  unfold inb
  rw [l_cut' x (by omega) (by omega)]
  omega
theorem e_wordOf (σ : Sg) (x : Int64) : F_DM_wordOf σ 0 x = some (wd (σ.2.2.1 0) x) := by
  unfold F_DM_wordOf wd
  rw [ck_pos (by decide)]
  by_cases h0 : x < 0
  · rw [if_pos h0, if_neg (by grind)]; rfl
  · rw [if_neg h0]
    by_cases h1 : x < 4096
    · rw [if_pos h1, if_pos (by grind), ck_pos (show inb x.toInt32 (lenC σ 0) from wd_inb x (by grind) h1)]; rfl
    · rw [if_neg h1, if_neg (by grind)]; rfl
theorem e_within (x : Int64) (a b : Int32) : F_DM_within x a b = some (if x < a.toInt64 then a else if b.toInt64 < x then b else x.toInt32) := by
  simp only [F_DM_within_24, F_DM_within]
  grind
/-- a number kept within two others -/
def wn (x a b : Int32) : Int32 := if x < a then a else if b < x then b else x
theorem e_within32 (x a b : Int32) : F_DM_within x.toInt64 a b = some (wn x a b) := by
  rw [e_within]
  have h1 : x.toInt64 < a.toInt64 ↔ x < a := by rw [Int64.lt_iff_toInt_lt, Int32.lt_iff_toInt_lt, l_ext, l_ext]
  have h2 : b.toInt64 < x.toInt64 ↔ b < x := by rw [Int64.lt_iff_toInt_lt, Int32.lt_iff_toInt_lt, l_ext, l_ext]
  have h3 : x.toInt64.toInt32 = x := Int32.toInt32_toInt64 x
  simp only [h1, h2, h3, wn]
/-- mixing two channels -/
def mx (p q f : Int32) : Int32 := p + ((lshr ((q.toInt64 - p.toInt64) * f.toInt64) 16).toInt32)
theorem mx_ref (p q f : Int32) : (p.toInt64 + (lshr ((q.toInt64 - p.toInt64) * f.toInt64) 16)).toInt32 = mx p q f := by
  rw [Int64.toInt32_add, Int32.toInt32_toInt64]; rfl
theorem mx_zero (p q : Int32) : mx p q 0 = p := by
  unfold mx
  have h1 : ((q.toInt64 - p.toInt64) * (0 : Int32).toInt64) = 0 := by
    show _ * (0 : Int64) = 0
    grind
  rw [h1]
  have h2 : (lshr 0 16).toInt32 = 0 := by decide
  rw [h2]; grind
theorem e_Txm_mix (p q f : Int32) : F_Txm_mix p q f = some (mx p q f) := by
  unfold F_Txm_mix; rw [mx_ref]
/-- the greatest number of a channel -/
def grt (m k : Nat) : Int32 := ((1 : Int32) <<< ((tb_CHANNEL_BITS (4 * m + k)) &&& 31)) - 1
/-- one channel of a texel that begins at bit 0 of the word w, in format m -/
def chn (m : Nat) (w : Int32) (k : Nat) : Int32 :=
  if grt m k = 0 then (if k = 3 then 65536 else 0) else ((131072 * ((ushr w (tb_CHANNEL_SHIFT (4 * m + k))) &&& grt m k)) + grt m k) / (2 * grt m k)
/-- the word in which a texel lies, moved so that the texel begins at its bit 0 -/
def txw (μ κ : Nat → Int32) (u : Nat) (i : Int32) : Int32 :=
  ushr (wd μ ((κ (170 + 5 * u) + ((i * (tb_TEXEL_BITS (κ (170 + 5 * u + 4)).toNatClampNeg)) >>> 5)).toInt64)) ((i * (tb_TEXEL_BITS (κ (170 + 5 * u + 4)).toNatClampNeg)) &&& 31)
def txl (μ κ : Nat → Int32) (u : Nat) (i : Int32) (k : Nat) : Int32 := chn (κ (170 + 5 * u + 4)).toNatClampNeg (txw μ κ u i) k
/-- what is kept of the units may be -/
def TxOK (κ : Nat → Int32) : Prop := ∀ u, u < 4 → (0 ≤ κ (170 + 5 * u) ∧ κ (170 + 5 * u) ≤ 1048576) ∧ (0 ≤ κ (170 + 5 * u + 1) ∧ κ (170 + 5 * u + 1) ≤ 10) ∧ (0 ≤ κ (170 + 5 * u + 2) ∧ κ (170 + 5 * u + 2) ≤ 10) ∧ (1 ≤ κ (170 + 5 * u + 3) ∧ κ (170 + 5 * u + 3) ≤ 11) ∧ (0 ≤ κ (170 + 5 * u + 4) ∧ κ (170 + 5 * u + 4) ≤ 7) ∧ (0 ≤ κ (217 + 3 * u) ∧ κ (217 + 3 * u) ≤ 3) ∧ (0 ≤ κ (217 + 3 * u + 1) ∧ κ (217 + 3 * u + 1) ≤ 3) ∧ (0 ≤ κ (217 + 3 * u + 2) ∧ κ (217 + 3 * u + 2) ≤ 3)
theorem chb : ∀ m, m < 8 → ∀ k, k < 4 → ¬ (grt m k = 0) → ¬ (2 * grt m k = 0) := by decide
theorem ix32 : ∀ m, m < 8 → ∀ k, k < 4 → (((4 * Int32.ofNat m) + Int32.ofNat k).toNatClampNeg = 4 * m + k ∧ inb ((4 * Int32.ofNat m) + Int32.ofNat k) 32) := by decide
theorem ix4 : ∀ k, k < 4 → ((Int32.ofNat k).toNatClampNeg = k ∧ inb (Int32.ofNat k) 4 ∧ ¬ (4 ≤ Int32.ofNat k) ∧ Int32.ofNat k + 1 = Int32.ofNat (k + 1) ∧ (Int32.ofNat k = 3 ↔ k = 3)) := by decide
theorem e_texel_loop (σ : Sg) (ar m : Nat) (w : Int32) (ha : ar < 47) (hl : lenC σ ar = 4) (hm : m < 8) :
    L_Tex_readTexel_93 100000 σ ar (Int32.ofNat m) w 0 = some (sA σ ar (rowset (σ.2.2.1 ar) 0 4 (chn m w))) := by
  refine fill_loop (fun n σ v => L_Tex_readTexel_93 n σ ar (Int32.ofNat m) w v) σ ar 0 4 0 (chn m w) _ (fun n k hk => ?_) (fun n => ?_) 100000 (by decide)
  · obtain ⟨a1, a2, a3, a4, a5⟩ := ix4 k hk
    obtain ⟨b1, b2⟩ := ix32 m hm k hk
    have c1 := chb m hm k hk
    simp only [Nat.zero_add]
    simp only [L_Tex_readTexel_93, F_Tex_readTexel_178, F_Tex_readTexel_156, lt, lenC_sA, hl, a1, a3, a4, b1, ck_pos ha, ck_pos b2, ck_pos a2, if_false, sA_sA, sA_3, if_true]
    change (if grt m k = 0 then _ else ck (¬ (2 * grt m k = 0)) _) = _
    unfold chn
    by_cases c2 : grt m k = 0
    · rw [if_pos c2, if_pos c2]
      by_cases c3 : k = 3
      · rw [if_pos (a5.mpr c3), if_pos c3]
      · rw [if_neg (fun h => c3 (a5.mp h)), if_neg c3]
    · rw [if_neg c2, if_neg c2, ck_pos (c1 c2)]; rfl
  · have h4 : (4 : Int32) ≤ Int32.ofNat (0 + 4) := by decide
    simp only [L_Tex_readTexel_93, ck_pos ha, if_pos h4]
/-- the unit's places -/
theorem u4 : ∀ u, u < 4 → (((170 + (5 * Int32.ofNat u)) = Int32.ofNat (170 + 5 * u)) ∧ ((170 + (5 * Int32.ofNat u)) + 1 = Int32.ofNat (170 + 5 * u + 1)) ∧ ((170 + (5 * Int32.ofNat u)) + 2 = Int32.ofNat (170 + 5 * u + 2)) ∧ ((170 + (5 * Int32.ofNat u)) + 3 = Int32.ofNat (170 + 5 * u + 3)) ∧ ((170 + (5 * Int32.ofNat u)) + 4 = Int32.ofNat (170 + 5 * u + 4)) ∧ ((217 + (3 * Int32.ofNat u)) = Int32.ofNat (217 + 3 * u)) ∧ ((217 + (3 * Int32.ofNat u)) + 1 = Int32.ofNat (217 + 3 * u + 1)) ∧ ((217 + (3 * Int32.ofNat u)) + 2 = Int32.ofNat (217 + 3 * u + 2)) ∧ ((229 + (4 * Int32.ofNat u)) = Int32.ofNat (229 + 4 * u))) := by decide
theorem nn (k : Nat) (h : k < 245) : (Int32.ofNat k).toNatClampNeg = k := n_nat k (by omega)
theorem ni (k : Nat) (h : k < 245) : inb (Int32.ofNat k) 245 := n_inb k 245 h (by omega)
/-- a texel, or the border -/
def txb (μ κ : Nat → Int32) (u : Nat) (x row : Int32) (k : Nat) : Int32 := if x = -1 ∨ row = -1 then κ (229 + 4 * u + k) else txl μ κ u (row + x) k
theorem cpok4 : ∀ u, u < 4 → cpok (Int32.ofNat (229 + 4 * u)) 0 4 245 4 := by decide
theorem e_readTexel (σ : Sg) (u ar : Nat) (x row : Int32) (hu : u < 4) (ha : ar < 47) (hl : lenC σ ar = 4) (hk : TxOK (σ.2.2.1 1)) :
    F_Tex_readTexel σ (Int32.ofNat u) x row ar = some (sA σ ar (rowset (σ.2.2.1 ar) 0 4 (txb (σ.2.2.1 0) (σ.2.2.1 1) u x row))) := by
  obtain ⟨a0, a1, a2, a3, a4, b0, b1, b2, c0⟩ := u4 u hu
  have e10 : F_Tex_readTexel_10 σ (Int32.ofNat u) ar = some (sA σ ar (rowset (σ.2.2.1 ar) 0 4 (fun k => (σ.2.2.1 1) (229 + 4 * u + k)))) := by
    unfold F_Tex_readTexel_10
    rw [ck_pos ha, c0, hl, ck_pos (cpok4 u hu), lt_def, nn _ (by omega)]
    congr 2
  unfold F_Tex_readTexel
  rw [ck_pos ha]
  by_cases h1 : x = -1
  · rw [if_pos h1, e10]; congr 3; funext k; unfold txb; rw [if_pos (Or.inl h1)]
  · rw [if_neg h1]
    by_cases h2 : row = -1
    · rw [if_pos h2, e10]; congr 3; funext k; unfold txb; rw [if_pos (Or.inr h2)]
    · rw [if_neg h2]
      obtain ⟨-, -, -, -, ⟨m0, m1⟩, -⟩ := hk u hu
      rw [a4, ck_pos (ni _ (by omega)), nn _ (by omega), lt_def]
      obtain ⟨m, hm, em⟩ := n_get _ m0
      have m8 : m < 8 := by rw [em] at m1; have := (n_le m 7 hm (by omega)).mp m1; omega
      rw [em, ck_pos (n_inb m 8 m8 hm), lt_def, a0, ck_pos (ni _ (by omega)), nn _ (by omega), e_wordOf, bd_def, lt_def, e_texel_loop σ ar m _ ha hl m8]
      congr 3
      funext k
      unfold txb txl txw
      rw [if_neg (by simp [h1, h2]), em, n_nat m hm]
theorem e_mix (σ : Sg) (p q : Nat) (f : Int32) (hp : p < 47) (hq : q < 47) (lp : lenC σ p = 4) (lq : lenC σ q = 4) (hne : q ≠ p) :
    F_Tex_mix σ p q f = some (sA σ p (rowset (σ.2.2.1 p) 0 4 (fun k => mx (σ.2.2.1 p k) (σ.2.2.1 q k) f))) := by
  unfold F_Tex_mix
  rw [ck_pos hp, ck_pos hq]
  refine fill_loop (fun n σ v => L_Tex_mix_2 n σ p q f v) σ p 0 4 0 (fun k => mx (σ.2.2.1 p k) (σ.2.2.1 q k) f) _ (fun n k hk => ?_) (fun n => ?_) 100000 (by decide)
  · obtain ⟨a1, a2, a3, a4, a5⟩ := ix4 k hk
    simp only [Nat.zero_add]
    simp only [L_Tex_mix_2, lt, lenC_sA, lp, lq, a1, a3, a4, ck_pos hp, ck_pos hq, ck_pos a2, if_false, sA_sA, sA_3, if_true, if_neg hne]
    rw [rowset_out _ _ _ _ k (by omega)]
    rfl
  · have h4 : (4 : Int32) ≤ Int32.ofNat (0 + 4) := by decide
    simp only [L_Tex_mix_2, ck_pos hp, ck_pos hq, if_pos h4]
/-- how many texels the levels ahead have -/
def ab (lw lh : Nat) : Nat → Nat
  | 0 => 0
  | l + 1 => ab lw lh l + 2 ^ ((lw - l) + (lh - l))
theorem ab_le (lw lh l : Nat) (hw : lw ≤ 10) (hh : lh ≤ 10) : ab lw lh l ≤ l * 1048576 := by
  induction l with
  | zero => simp [ab]
  | succ l ih =>
    have h1 : 2 ^ ((lw - l) + (lh - l)) ≤ 2 ^ 20 := Nat.pow_le_pow_right (by omega) (by omega)
    simp only [ab]
    omega
theorem im10 : ∀ a, a < 11 → ∀ l, l < 12 → imax (Int32.ofNat a - Int32.ofNat l) 0 = Int32.ofNat (a - l) := by decide
theorem sh20 : ∀ a, a < 11 → ∀ b, b < 11 → (1 : Int32) <<< ((Int32.ofNat a + Int32.ofNat b) &&& 31) = Int32.ofNat (2 ^ (a + b)) := by decide
theorem e_texelsAbove (lw lh level : Nat) (hw : lw ≤ 10) (hh : lh ≤ 10) (hl : level ≤ 11) : F_Tex_texelsAbove (Int32.ofNat lw) (Int32.ofNat lh) (Int32.ofNat level) = some (Int32.ofNat (ab lw lh level)) := by
  unfold F_Tex_texelsAbove
  have h : ∀ d l, level = l + d → ∀ n, d < n → L_Tex_texelsAbove_5 n (Int32.ofNat lw) (Int32.ofNat lh) (Int32.ofNat level) (Int32.ofNat (ab lw lh l)) (Int32.ofNat l) = some (Int32.ofNat (ab lw lh level)) := by
    intro d
    induction d with
    | zero =>
      intro l e n hn
      obtain ⟨n, rfl⟩ : ∃ m, n = m + 1 := ⟨n - 1, by omega⟩
      have : l = level := by omega
      subst this
      simp only [L_Tex_texelsAbove_5, Int32.le_refl, if_true]
    | succ d ih =>
      intro l e n hn
      obtain ⟨n, rfl⟩ : ∃ m, n = m + 1 := ⟨n - 1, by omega⟩
      simp only [L_Tex_texelsAbove_5, lt]
      rw [if_neg (by rw [n_le _ _ (by omega) (by omega)]; omega), im10 lw (by omega) l (by omega), im10 lh (by omega) l (by omega), sh20 _ (by omega) _ (by omega), n_add, n_succ]
      exact ih (l + 1) (by omega) n (by omega)
  exact h level 0 (by omega) 100000 (by omega)
/-- a place in a length 2 ^ k -/
def wrp (way i : Int32) (k : Nat) : Int32 :=
  if way = 0 then Int32.ofInt (i.toInt % 2 ^ k) else if way = 1 then wn i 0 (Int32.ofNat (2 ^ k - 1))
  else if way = 2 then (if i.toInt % 2 ^ (k + 1) < 2 ^ k then Int32.ofInt (i.toInt % 2 ^ (k + 1)) else Int32.ofInt (2 ^ (k + 1) - 1 - i.toInt % 2 ^ (k + 1)))
  else if 0 ≤ i ∧ i < Int32.ofNat (2 ^ k) then i else -1
theorem pw : ∀ k, k < 12 → (Int32.ofNat (2 ^ k) - 1 = Int32.ofNat (2 ^ k - 1) ∧ 2 * Int32.ofNat (2 ^ k) = Int32.ofNat (2 ^ (k + 1)) ∧ (Int32.ofNat (2 ^ k)).toInt = 2 ^ k ∧ (Int32.ofNat (2 ^ k - 1)).toInt = 2 ^ k - 1 ∧ (2 : Int) ^ k ≤ 2048 ∧ (0 : Int) < 2 ^ k ∧ (2 : Int) ^ (k + 1) = 2 * 2 ^ k) := by decide
theorem e_wrapped (way i : Int32) (k : Nat) (hk : k ≤ 10) : F_Tex_wrapped way i (Int32.ofNat (2 ^ k)) = some (wrp way i k) := by
  obtain ⟨a1, a2, a3, a4, a5, a6, a7⟩ := pw k (by omega)
  obtain ⟨b1, b2, b3, b4, b5, b6, b7⟩ := pw (k + 1) (by omega)
  simp only [F_Tex_wrapped_83, F_Tex_wrapped_82, F_Tex_wrapped_68, F_Tex_wrapped, lt, a1, a2, b1, e_within32, bd_def]
  unfold wrp
  by_cases h0 : way = 0
  · rw [if_pos h0, if_pos h0]
    congr 1
    apply i_inj
    rw [b_and i k (by omega), i_int _ (by have := Int.emod_nonneg i.toInt (b := 2 ^ k) (by omega); omega) (by have := Int.emod_lt_of_pos i.toInt a6; omega)]
  · rw [if_neg h0, if_neg h0]
    by_cases h1 : way = 1
    · rw [if_pos h1, if_pos h1]
    · rw [if_neg h1, if_neg h1]
      by_cases h2 : way = 2
      · rw [if_pos h2, if_pos h2]
        have c1 := b_and i (k + 1) (by omega)
        have c2 := Int.emod_nonneg i.toInt (b := 2 ^ (k + 1)) (by omega)
        have c3 := Int.emod_lt_of_pos i.toInt b6
        have c4 : Int32.ofNat (2 ^ k) ≤ i &&& Int32.ofNat (2 ^ (k + 1) - 1) ↔ ¬ (i.toInt % 2 ^ (k + 1) < 2 ^ k) := by
          rw [Int32.le_iff_toInt_le, a3, c1]; omega
        by_cases h3 : i.toInt % 2 ^ (k + 1) < 2 ^ k
        · rw [if_neg (fun h => c4.mp h h3), if_pos h3]
          congr 1
          apply i_inj
          rw [c1, i_int _ (by omega) (by omega)]
        · rw [if_pos (c4.mpr h3), if_neg h3]
          congr 1
          apply i_inj
          rw [i_sub, c1, b4, i_int _ (by omega) (by omega)]
          · rw [c1, b4]; omega
          · rw [c1, b4]; omega
      · rw [if_neg h2, if_neg h2]
        grind
theorem wrp_rng (way i : Int32) (k : Nat) (hk : k ≤ 10) : wrp way i k = -1 ∨ (0 ≤ (wrp way i k).toInt ∧ (wrp way i k).toInt < 2 ^ k) := by
  obtain ⟨a1, a2, a3, a4, a5, a6, a7⟩ := pw k (by omega)
  obtain ⟨b1, b2, b3, b4, b5, b6, b7⟩ := pw (k + 1) (by omega)
  unfold wrp
  have c2 := Int.emod_nonneg i.toInt (b := 2 ^ (k + 1)) (by omega)
  have c3 := Int.emod_lt_of_pos i.toInt b6
  have c5 := Int.emod_nonneg i.toInt (b := 2 ^ k) (by omega)
  have c6 := Int.emod_lt_of_pos i.toInt a6
  split
  · right; rw [i_int _ (by omega) (by omega)]; omega
  · split
    · right
      unfold wn
      have z : (0 : Int32).toInt = 0 := rfl
      split
      · rw [z]; omega
      · rename_i h1
        split
        · rw [a4]; omega
        · rename_i h2
          rw [Int32.lt_iff_toInt_lt, z] at h1
          rw [Int32.lt_iff_toInt_lt, a4] at h2
          omega
    · split
      · right
        split
        · rw [i_int _ (by omega) (by omega)]; omega
        · rw [i_int _ (by omega) (by omega)]; omega
      · split
        · rename_i h
          right
          rw [Int32.le_iff_toInt_le, Int32.lt_iff_toInt_lt, a3] at h
          exact h
        · left; rfl
theorem tm_mod (a m : Int) (hm : 0 < m) : (a.tmod m + m).tmod m = a % m := by
  have h1 : -m < a.tmod m := by have := Int.lt_tmod_of_pos a hm; omega
  have h2 := Int.tmod_lt_of_pos a hm
  rw [Int.tmod_eq_emod_of_nonneg (by omega)]
  rw [Int.add_emod_right]
  have h3 : m * a.tdiv m + a.tmod m = a := Int.mul_tdiv_add_tmod a m
  conv => rhs; rw [← h3]
  rw [Int.mul_add_emod_self_left]
theorem e_irem2 (i : Int32) (k : Nat) (hk : k ≤ 11) : (irem ((irem i (Int32.ofNat (2 ^ k))) + Int32.ofNat (2 ^ k)) (Int32.ofNat (2 ^ k))) = Int32.ofInt (i.toInt % 2 ^ k) := by
  obtain ⟨a1, a2, a3, a4, a5, a6, a7⟩ := pw k (by omega)
  have h0 : 0 < (Int32.ofNat (2 ^ k)).toInt := by omega
  have h1 : -(2 ^ k : Int) < i.toInt.tmod (2 ^ k) := by have := Int.lt_tmod_of_pos i.toInt a6; omega
  have h2 := Int.tmod_lt_of_pos i.toInt a6
  apply i_inj
  rw [irem_int _ _ h0, i_add, irem_int _ _ h0, a3, tm_mod _ _ a6]
  · rw [i_int _ (by have := Int.emod_nonneg i.toInt (b := 2 ^ k) (by omega); omega) (by have := Int.emod_lt_of_pos i.toInt a6; omega)]
  · rw [irem_int _ _ h0, a3]; omega
  · rw [irem_int _ _ h0, a3]; omega
theorem e_wrap (way i : Int32) (k : Nat) (hk : k ≤ 10) : F_Txm_wrap i (Int32.ofNat (2 ^ k)) way = some (wrp way i k) := by
  obtain ⟨a1, a2, a3, a4, a5, a6, a7⟩ := pw k (by omega)
  obtain ⟨b1, b2, b3, b4, b5, b6, b7⟩ := pw (k + 1) (by omega)
  have z0 : (0 : Int32).toInt = 0 := rfl
  have nz : ¬ (Int32.ofNat (2 ^ k) = 0) := by intro h; rw [h] at a3; omega
  have nz1 : ¬ (Int32.ofNat (2 ^ (k + 1)) = 0) := by intro h; rw [h] at b3; omega
  simp only [F_Txm_wrap_106, F_Txm_wrap_105, F_Txm_wrap_91, F_Txm_wrap_71, F_Txm_wrap_12, F_Txm_wrap, lt, a1, a2, b1, ck_pos nz, ck_pos nz1, e_irem2 i k (by omega), e_irem2 i (k + 1) (by omega)]
  unfold wrp
  by_cases h2 : way = 2
  · subst h2
    simp only [if_true]
    simp only [if_neg (show ¬ (2 : Int32) = 0 by decide), if_neg (show ¬ (2 : Int32) = 1 by decide)]
    have c2 := Int.emod_nonneg i.toInt (b := 2 ^ (k + 1)) (by omega)
    have c3 := Int.emod_lt_of_pos i.toInt b6
    have c1 : (Int32.ofInt (i.toInt % 2 ^ (k + 1))).toInt = i.toInt % 2 ^ (k + 1) := i_int _ (by omega) (by omega)
    have c4 : Int32.ofNat (2 ^ k) ≤ Int32.ofInt (i.toInt % 2 ^ (k + 1)) ↔ ¬ (i.toInt % 2 ^ (k + 1) < 2 ^ k) := by
      rw [Int32.le_iff_toInt_le, a3, c1]; omega
    by_cases h3 : i.toInt % 2 ^ (k + 1) < 2 ^ k
    · rw [if_neg (fun h => c4.mp h h3), if_pos h3]
    · rw [if_pos (c4.mpr h3), if_neg h3]
      congr 1
      apply i_inj
      rw [i_sub, c1, b4, i_int _ (by omega) (by omega)]
      · rw [c1, b4]; omega
      · rw [c1, b4]; omega
  · simp only [if_neg h2]
    by_cases h0 : way = 0
    · rw [if_pos h0, if_pos h0]
    · rw [if_neg h0, if_neg h0]
      by_cases h1 : way = 1
      · rw [if_pos h1, if_pos h1]
        have d1 : Int32.ofNat (2 ^ k - 1) < i ↔ ¬ (i < Int32.ofNat (2 ^ k)) := by
          rw [Int32.lt_iff_toInt_lt, Int32.lt_iff_toInt_lt, a3, a4]; omega
        unfold wn
        grind
      · rw [if_neg h1, if_neg h1]
        grind
