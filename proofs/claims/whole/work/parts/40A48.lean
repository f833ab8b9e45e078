/-! textures: the reference's levels -/
/-- what a texel's reading changes, in the reference -/
def pF : Nat → Nat → Bool := fun c k => c == 2 && (k == 8 || k == 12 || k == 13)
theorem shl_nat (y lw : Nat) (hl : lw ≤ 10) : Int32.ofNat y <<< (Int32.ofNat lw &&& 31) = Int32.ofNat (y * 2 ^ lw) := by
  rw [an31 lw (by omega), b_shl _ _ (by omega), n_mul]
theorem nat_of_rng (x : Int32) (k : Nat) (h : 0 ≤ x.toInt ∧ x.toInt < 2 ^ k) (hk : k ≤ 10) : ∃ n : Nat, n < 2 ^ k ∧ x = Int32.ofNat n := by
  refine ⟨x.toInt.toNat, ?_, ?_⟩
  · have h2 : ((2 ^ k : Nat) : Int) = 2 ^ k := by rw [Int.natCast_pow]; rfl
    omega
  · apply i_inj
    have := i_rng x
    rw [n_int _ (by omega)]; omega
theorem e_Txm_wrapped (μ κ : Nat → Int32) (σ : Sg) (u level : Nat) (p q : Int32) (hu : u < 4) (hl : level ≤ 11) (hk : TxOK κ) (hr : TxRel κ σ) (h0 : σ.2.2.1 0 = μ) :
    ∃ σ', F_Txm_wrapped σ (Int32.ofNat u) (Int32.ofNat level) p q = some σ' ∧ Fr pF σ σ' ∧
      ∀ k, k < 4 → σ'.2.2.1 8 k = tx2 μ κ u (lw0 κ u - level) (lh0 κ u - level) (Int32.ofNat (ab (lw0 κ u) (lh0 κ u) level)) p q k := by
  obtain ⟨⟨a0, a1⟩, c0, c1⟩ := v4 u hu
  obtain ⟨r1, r2, r3⟩ := hr u hu
  have hb := lw_le κ u hu hk
  have hab := ab_le (lw0 κ u) (lh0 κ u) level hb.1 hb.2
  have e5 : Int32.ofNat (8 * u) + 5 = Int32.ofNat (8 * u + 5) := a1 5 (by omega)
  have e6 : Int32.ofNat (8 * u) + 6 = Int32.ofNat (8 * u + 6) := a1 6 (by omega)
  unfold F_Txm_wrapped
  rw [e_wide κ σ u level hu hl hk hr, bd_def, a0, e5, ck_pos (mi _ (by omega)), mn _ (by omega), e_wrap _ _ _ (by omega), bd_def, e_high κ σ u level hu hl hk hr, bd_def, e6, ck_pos (mi _ (by omega)), mn _ (by omega), e_wrap _ _ _ (by omega), bd_def]
  rw [show σ.2.2.1 5 (8 * u + 5) = κ (217 + 3 * u) from r2 0 (by omega), show σ.2.2.1 5 (8 * u + 6) = κ (217 + 3 * u + 1) from r2 1 (by omega)]
  have w1 := wrp_rng (κ (217 + 3 * u)) p (lw0 κ u - level) (by omega)
  have w2 := wrp_rng (κ (217 + 3 * u + 1)) q (lh0 κ u - level) (by omega)
  have e69 : F_Txm_wrapped_69 σ (Int32.ofNat u) = some (sA σ 8 (rowset (σ.2.2.1 8) 0 4 (fun k => κ (229 + 4 * u + k)))) := by
    unfold F_Txm_wrapped_69
    refine fill_loop (fun n σ v => L_Txm_wrapped_72 n σ (Int32.ofNat u) v) σ 8 0 4 0 (fun k => κ (229 + 4 * u + k)) _ (fun n k hk4 => ?_) (fun n => ?_) 100000 (by decide)
    · obtain ⟨b1, b2, b3, b4, b5⟩ := ix4 k hk4
      simp only [Nat.zero_add]
      rw [L_Txm_wrapped_72]
      simp only [lt, b1, b4, ck_pos b2, if_neg b3, c0, c1 k hk4, ck_pos (n_inb (4 * u + k) 16 (by omega) (by omega)), n_nat (4 * u + k) (by omega), sA_sA, sA_3, if_true, Nat.reduceEqDiff, reduceIte, r3 k hk4]
    · have h4 : (4 : Int32) ≤ Int32.ofNat (0 + 4) := by decide
      simp only [L_Txm_wrapped_72, if_pos h4]
  have neg1 : ∀ x : Int32, x = -1 → x < 0 := by intro x h; subst h; decide
  by_cases h1 : wrp (κ (217 + 3 * u)) p (lw0 κ u - level) = -1
  · rw [if_pos (neg1 _ h1), e69]
    refine ⟨_, rfl, fr_sA Fr.rfl _ _ (by decide), fun k hk4 => ?_⟩
    rw [sA_3, if_pos rfl, rowset_get0 _ _ _ _ hk4]
    unfold tx2 txb
    rw [if_pos (Or.inl h1)]
  · have w1' := w1.resolve_left h1
    obtain ⟨x, hx, ex⟩ := nat_of_rng _ _ w1' (by omega)
    have z0 : (0 : Int32).toInt = 0 := rfl
    rw [if_neg (by rw [Int32.lt_iff_toInt_lt, z0]; omega)]
    by_cases h2 : wrp (κ (217 + 3 * u + 1)) q (lh0 κ u - level) = -1
    · rw [if_pos (neg1 _ h2), e69]
      refine ⟨_, rfl, fr_sA Fr.rfl _ _ (by decide), fun k hk4 => ?_⟩
      rw [sA_3, if_pos rfl, rowset_get0 _ _ _ _ hk4]
      unfold tx2 txb
      rw [if_pos]
      right
      unfold rowA
      rw [if_pos h2]
    · have w2' := w2.resolve_left h2
      obtain ⟨y, hy, ey⟩ := nat_of_rng _ _ w2' (by omega)
      rw [if_neg (by rw [Int32.lt_iff_toInt_lt, z0]; omega), ex, ey]
      obtain ⟨σ', s1, s2, s3⟩ := e_look κ σ u level x y hu hl hk hr hx hy
      rw [s1, bd_def]
      refine ⟨σ', rfl, s2, fun k hk4 => ?_⟩
      rw [s3 k hk4, h0]
      have p1 : 2 ^ (lw0 κ u - level) ≤ 1024 := by
        have := Nat.pow_le_pow_right (n := 2) (by omega) (show lw0 κ u - level ≤ 10 by omega)
        simpa using this
      have p2 : 2 ^ (lh0 κ u - level) ≤ 1024 := by
        have := Nat.pow_le_pow_right (n := 2) (by omega) (show lh0 κ u - level ≤ 10 by omega)
        simpa using this
      have hyw : y * 2 ^ (lw0 κ u - level) ≤ 1024 * 1024 := Nat.mul_le_mul (by omega) (by omega)
      have nneg : ∀ n : Nat, n < 2147483648 → ¬ Int32.ofNat n = -1 := by
        intro n hn h
        have := congrArg Int32.toInt h
        rw [n_int n hn] at this
        have z : (-1 : Int32).toInt = -1 := rfl
        omega
      unfold tx2 txb rowA
      rw [ex, ey, if_neg (nneg y (by omega)), shl_nat y _ (by omega), n_add, if_neg (by
        intro h
        rcases h with h | h
        · exact nneg x (by omega) h
        · exact nneg _ (by omega) h), n_add]
/-- what a row's reading changes, in the reference -/
def pR : Nat → Nat → Bool := fun c k => c == 2 && (k == 8 || k == 9 || k == 12 || k == 13)
theorem e_mixRow (μ κ : Nat → Int32) (σ : Sg) (u level : Nat) (p q f : Int32) (hu : u < 4) (hl : level ≤ 11) (hk : TxOK κ) (hr : TxRel κ σ) (h0 : σ.2.2.1 0 = μ) :
    ∃ σ', F_Txm_mixRow σ (Int32.ofNat u) (Int32.ofNat level) p q f = some σ' ∧ Fr pR σ σ' ∧
      ∀ k, k < 4 → σ'.2.2.1 9 k = mx (tx2 μ κ u (lw0 κ u - level) (lh0 κ u - level) (Int32.ofNat (ab (lw0 κ u) (lh0 κ u) level)) p q k) (tx2 μ κ u (lw0 κ u - level) (lh0 κ u - level) (Int32.ofNat (ab (lw0 κ u) (lh0 κ u) level)) (p + 1) q k) f := by
  have wF : ∀ c k, pR c k = false → pF c k = false := by intro c k; simp only [pR, pF]; grind
  unfold F_Txm_mixRow
  obtain ⟨σ1, s1, s2, s3⟩ := e_Txm_wrapped μ κ σ u level p q hu hl hk hr h0
  rw [s1, bd_def]
  have hr1 : TxRel κ (sA σ1 9 (rowset (σ1.2.2.1 9) 0 4 (σ1.2.2.1 8))) := hr.fr (s2.2.2.1 5 (by decide)) (s2.2.2.1 6 (by decide))
  obtain ⟨σ2, t1, t2, t3⟩ := e_Txm_wrapped μ κ (sA σ1 9 (rowset (σ1.2.2.1 9) 0 4 (σ1.2.2.1 8))) u level (p + 1) q hu hl hk hr1 ((s2.2.2.1 0 (by decide)).trans h0)
  have e1 : L_Txm_mixRow_12 100000 σ1 (Int32.ofNat u) (Int32.ofNat level) p q f 0 = L_Txm_mixRow_52 100000 σ2 f 0 := by
    refine fill_loop (fun n σ v => L_Txm_mixRow_12 n σ (Int32.ofNat u) (Int32.ofNat level) p q f v) σ1 9 0 4 0 (σ1.2.2.1 8) _ (fun n k hk4 => ?_) (fun n => ?_) 100000 (by decide)
    · obtain ⟨b1, b2, b3, b4, b5⟩ := ix4 k hk4
      simp only [Nat.zero_add]
      rw [L_Txm_mixRow_12]
      simp only [lt, b1, b4, ck_pos b2, if_neg b3, sA_sA, sA_3, if_true, Nat.reduceEqDiff, reduceIte]
    · have h4 : (4 : Int32) ≤ Int32.ofNat (0 + 4) := by decide
      simp only [L_Txm_mixRow_12, if_pos h4]
      rw [t1, bd_def]
  have e2 : L_Txm_mixRow_52 100000 σ2 f 0 = some (sA σ2 9 (rowset (σ2.2.2.1 9) 0 4 (fun k => mx (σ2.2.2.1 9 k) (σ2.2.2.1 8 k) f))) := by
    refine fill_loop (fun n σ v => L_Txm_mixRow_52 n σ f v) σ2 9 0 4 0 (fun k => mx (σ2.2.2.1 9 k) (σ2.2.2.1 8 k) f) _ (fun n k hk4 => ?_) (fun n => ?_) 100000 (by decide)
    · obtain ⟨b1, b2, b3, b4, b5⟩ := ix4 k hk4
      simp only [Nat.zero_add]
      rw [L_Txm_mixRow_52]
      simp only [lt, b1, b4, ck_pos b2, if_neg b3, sA_sA, sA_3, if_true, Nat.reduceEqDiff, reduceIte, e_Txm_mix, bd_def, rowset_out _ 0 k _ k (Or.inr (by omega))]
    · have h4 : (4 : Int32) ≤ Int32.ofNat (0 + 4) := by decide
      simp only [L_Txm_mixRow_52, if_pos h4]
  rw [e1, e2]
  refine ⟨_, rfl, fr_sA (((s2.weak wF).trans (fr_sA Fr.rfl _ _ (by decide))).trans (t2.weak wF)) _ _ (by decide), fun k hk4 => ?_⟩
  rw [sA_3, if_pos rfl, rowset_get0 _ _ _ _ hk4, t3 k hk4, t2.2.2.1 9 (by decide), sA_3, if_pos rfl, rowset_get0 _ _ _ _ hk4, s3 k hk4]
/-- what a level's reading changes, in the reference -/
def pL : Nat → Nat → Bool := fun c k => c == 2 && (k == 8 || k == 9 || k == 10 || k == 12 || k == 13)
theorem e_Txm_readLevel (μ κ : Nat → Int32) (σ : Sg) (u level : Nat) (s t four : Int32) (hu : u < 4) (hl : level ≤ 11) (hk : TxOK κ) (hr : TxRel κ σ) (h0 : σ.2.2.1 0 = μ) (hf : four = 0 ↔ κ (217 + 3 * u + 2) &&& 1 = 0) :
    ∃ σ', F_Txm_readLevel σ (Int32.ofNat u) (Int32.ofNat level) s t four = some σ' ∧ Fr pL σ σ' ∧ ∀ k, k < 4 → σ'.2.2.1 8 k = lvl μ κ u level s t k := by
  have wF : ∀ c k, pL c k = false → pF c k = false := by intro c k; simp only [pL, pF]; grind
  have wR : ∀ c k, pL c k = false → pR c k = false := by intro c k; simp only [pL, pR]; grind
  have x0 := e_exponent κ σ u level 0 hu hl (by omega) hk hr
  have x1 := e_exponent κ σ u level 1 hu hl (by omega) hk hr
  rw [if_pos rfl] at x0
  rw [if_neg (by decide)] at x1
  have y0 : F_Txm_exponent σ (Int32.ofNat u) (Int32.ofNat level) 0 = some (Int32.ofNat (lw0 κ u - level)) := x0
  have y1 : F_Txm_exponent σ (Int32.ofNat u) (Int32.ofNat level) 1 = some (Int32.ofNat (lh0 κ u - level)) := x1
  unfold F_Txm_readLevel
  rw [y0, bd_def, lt_def, y1, bd_def, lt_def]
  generalize hws : lshl s.toInt64 (Int32.ofNat (lw0 κ u - level)) = ws
  generalize hht : lshl t.toInt64 (Int32.ofNat (lh0 κ u - level)) = ht
  by_cases hf4 : four = 0
  · rw [if_pos hf4]
    obtain ⟨σ', s1, s2, s3⟩ := e_Txm_wrapped μ κ σ u level ((lshr ws 16).toInt32) ((lshr ht 16).toInt32) hu hl hk hr h0
    rw [s1, bd_def]
    refine ⟨σ', rfl, s2.weak wF, fun k hk4 => ?_⟩
    rw [s3 k hk4]
    unfold lvl lvN
    rw [if_pos (hf.mp hf4), hws, hht]
  · rw [if_neg hf4]
    simp only [lt]
    generalize hw2 : ws - 32768 = ws2
    generalize hh2 : ht - 32768 = ht2
    obtain ⟨σ1, s1, s2, s3⟩ := e_mixRow μ κ σ u level ((lshr ws2 16).toInt32) ((lshr ht2 16).toInt32) ((ws2 &&& 65535).toInt32) hu hl hk hr h0
    rw [s1, bd_def]
    have hr1 : TxRel κ (sA σ1 10 (rowset (σ1.2.2.1 10) 0 4 (σ1.2.2.1 9))) := hr.fr (s2.2.2.1 5 (by decide)) (s2.2.2.1 6 (by decide))
    obtain ⟨σ2, t1, t2, t3⟩ := e_mixRow μ κ (sA σ1 10 (rowset (σ1.2.2.1 10) 0 4 (σ1.2.2.1 9))) u level ((lshr ws2 16).toInt32) ((lshr ht2 16).toInt32 + 1) ((ws2 &&& 65535).toInt32) hu hl hk hr1 ((s2.2.2.1 0 (by decide)).trans h0)
    have e1 : L_Txm_readLevel_101 100000 σ1 (Int32.ofNat u) (Int32.ofNat level) ws2 ht2 ((lshr ws2 16).toInt32) ((lshr ht2 16).toInt32) 0 = L_Txm_readLevel_149 100000 σ2 ht2 0 := by
      refine fill_loop (fun n σ v => L_Txm_readLevel_101 n σ (Int32.ofNat u) (Int32.ofNat level) ws2 ht2 ((lshr ws2 16).toInt32) ((lshr ht2 16).toInt32) v) σ1 10 0 4 0 (σ1.2.2.1 9) _ (fun n k hk4 => ?_) (fun n => ?_) 100000 (by decide)
      · obtain ⟨b1, b2, b3, b4, b5⟩ := ix4 k hk4
        simp only [Nat.zero_add]
        rw [L_Txm_readLevel_101]
        simp only [lt, b1, b4, ck_pos b2, if_neg b3, sA_sA, sA_3, if_true, Nat.reduceEqDiff, reduceIte]
      · have h4 : (4 : Int32) ≤ Int32.ofNat (0 + 4) := by decide
        simp only [L_Txm_readLevel_101, if_pos h4]
        rw [t1, bd_def]
    have e2 : L_Txm_readLevel_149 100000 σ2 ht2 0 = some (sA σ2 8 (rowset (σ2.2.2.1 8) 0 4 (fun k => mx (σ2.2.2.1 10 k) (σ2.2.2.1 9 k) ((ht2 &&& 65535).toInt32)))) := by
      refine fill_loop (fun n σ v => L_Txm_readLevel_149 n σ ht2 v) σ2 8 0 4 0 (fun k => mx (σ2.2.2.1 10 k) (σ2.2.2.1 9 k) ((ht2 &&& 65535).toInt32)) _ (fun n k hk4 => ?_) (fun n => ?_) 100000 (by decide)
      · obtain ⟨b1, b2, b3, b4, b5⟩ := ix4 k hk4
        simp only [Nat.zero_add]
        rw [L_Txm_readLevel_149]
        simp only [lt, b1, b4, ck_pos b2, if_neg b3, sA_sA, sA_3, if_true, Nat.reduceEqDiff, reduceIte, e_Txm_mix, bd_def]
      · have h4 : (4 : Int32) ≤ Int32.ofNat (0 + 4) := by decide
        simp only [L_Txm_readLevel_149, if_pos h4]
    rw [e1, e2]
    refine ⟨_, rfl, fr_sA (((s2.weak wR).trans (fr_sA Fr.rfl _ _ (by decide))).trans (t2.weak wR)) _ _ (by decide), fun k hk4 => ?_⟩
    rw [sA_3, if_pos rfl, rowset_get0 _ _ _ _ hk4, t3 k hk4, t2.2.2.1 10 (by decide), sA_3, if_pos rfl, rowset_get0 _ _ _ _ hk4, s3 k hk4]
    unfold lvl lvF
    rw [if_neg (fun h => hf4 (hf.mpr h)), hws, hht, hw2, hh2]
theorem e_Txm_in (x a b : Int32) : F_Txm_in x a b = some (if a ≤ x ∧ x ≤ b then 1 else 0) := by
  simp only [F_Txm_in_15, F_Txm_in_14, F_Txm_in, ck]
  grind
theorem e_Txm_refuse0 (σ : Sg) : F_Txm_refuse σ 0 0 = some (sI σ 20 0, 0) := by
  simp only [F_Txm_refuse_33, F_Txm_refuse_18, F_Txm_refuse, ck, lt, sI_1]
  simp
theorem in03 : ∀ u, u < 4 → (0 ≤ Int32.ofNat u ∧ Int32.ofNat u ≤ 3) := by decide
theorem flt : ∀ f, f < 4 → ((irem (Int32.ofNat f) 2 = 1 ↔ ¬ Int32.ofNat f &&& 1 = 0)) := by decide
/-- what a reading changes, in the reference -/
def pT : Nat → Nat → Bool := fun c k => (c == 0 && k == 20) || (c == 2 && (7 ≤ k && k ≤ 13))
theorem e_Txm_read224 (σ : Sg) : F_Txm_read_224 σ = some (sA σ 7 (rowset (σ.2.2.1 7) 0 4 (σ.2.2.1 8)), σ.2.2.1 8 0) := by
  unfold F_Txm_read_224
  refine fill_loop (fun n σ v => L_Txm_read_227 n σ v) σ 7 0 4 0 (σ.2.2.1 8) _ (fun n k hk4 => ?_) (fun n => ?_) 100000 (by decide)
  · obtain ⟨b1, b2, b3, b4, b5⟩ := ix4 k hk4
    simp only [Nat.zero_add]
    rw [L_Txm_read_227]
    simp only [lt, b1, b4, ck_pos b2, if_neg b3, sA_sA, sA_3, if_true, Nat.reduceEqDiff, reduceIte]
  · have h4 : (4 : Int32) ≤ Int32.ofNat (0 + 4) := by decide
    simp only [L_Txm_read_227, if_pos h4]
    rfl
theorem e_Txm_read (μ κ : Nat → Int32) (σ : Sg) (u : Nat) (s t l : Int32) (hu : u < 4) (hk : TxOK κ) (hr : TxRel κ σ) (h0 : σ.2.2.1 0 = μ) :
    ∃ o, F_Txm_read σ (Int32.ofNat u) s t l = some o ∧ Fr pT σ o.1 ∧ ∀ k, k < 4 → o.1.2.2.1 7 k = rdt μ κ u s t l k := by
  have wL : ∀ c k, pT c k = false → pL c k = false := by intro c k; simp only [pT, pL]; grind
  obtain ⟨⟨a0, a1⟩, c0, c1⟩ := v4 u hu
  obtain ⟨r1, r2, r3⟩ := hr u hu
  have e3 : Int32.ofNat (8 * u) + 3 = Int32.ofNat (8 * u + 3) := a1 3 (by omega)
  have e7 : Int32.ofNat (8 * u) + 7 = Int32.ofNat (8 * u + 7) := a1 7 (by omega)
  have hrg := rdl_rng κ u l hu hk
  have z0 : (0 : Int32).toInt = 0 := rfl
  have hs : (rdl κ u l >>> 16).toInt = (rdl κ u l).toInt / 2 ^ 16 := b_sar _ 16 (by omega)
  have hm : (rdl κ u l &&& 65535).toInt = (rdl κ u l).toInt % 2 ^ 16 := b_and _ 16 (by omega)
  have hq : (0 : Int32) ≤ (rdl κ u l >>> 16) := by rw [Int32.le_iff_toInt_le, hs, z0]; omega
  have hN : (rdl κ u l >>> 16).toNatClampNeg = ((rdl κ u l).toInt / 2 ^ 16).toNat := by
    show (rdl κ u l >>> 16).toInt.toNat = _
    rw [hs]
  have en : rdl κ u l >>> 16 = Int32.ofNat (rdl κ u l >>> 16).toNatClampNeg := (i_nat _ hq).symm
  obtain ⟨-, -, -, ⟨l0, l1⟩, -, -, -, ⟨f0, f1⟩⟩ := hk u hu
  obtain ⟨fl, hfl0, efl⟩ := n_get _ f0
  have hfl : fl < 4 := by rw [efl] at f1; have := (n_le fl 3 hfl0 (by omega)).mp f1; omega
  have e65 : ∃ o, F_Txm_read_65 (sI σ 20 0) (Int32.ofNat u) s t (rdl κ u l) = some o ∧ Fr pT σ o.1 ∧ ∀ k, k < 4 → o.1.2.2.1 7 k = rdt μ κ u s t l k := by
    have e94 : ∀ four : Int32, (four = 0 ↔ κ (217 + 3 * u + 2) &&& 1 = 0) → ∃ o, F_Txm_read_94 (sI σ 20 0) (Int32.ofNat u) s t (rdl κ u l) (κ (217 + 3 * u + 2)) four = some o ∧ Fr pT σ o.1 ∧ ∀ k, k < 4 → o.1.2.2.1 7 k = rdt μ κ u s t l k := by
      intro four hf
      unfold F_Txm_read_94
      rw [lt_def, en]
      generalize hlv : (rdl κ u l >>> 16).toNatClampNeg = lv at *
      have hl11 : lv ≤ 10 := by omega
      obtain ⟨σ1, s1, s2, s3⟩ := e_Txm_readLevel μ κ (sI σ 20 0) u lv s t four hu (by omega) hk (hr.fr rfl rfl) h0 hf
      rw [s1, bd_def]
      have s2' : Fr pT σ σ1 := (fr_sI Fr.rfl 20 0 (by decide)).trans (s2.weak wL)
      by_cases g1 : κ (217 + 3 * u + 2) ≤ 1
      · rw [if_pos g1, e_Txm_read224]
        refine ⟨_, rfl, fr_sA s2' _ _ (by decide), fun k hk4 => ?_⟩
        rw [sA_3, if_pos rfl, rowset_get0 _ _ _ _ hk4, s3 k hk4]
        unfold rdt; rw [if_neg (by grind), hlv]
      · rw [if_neg g1, a0, e3, ck_pos (mi _ (by omega)), mn _ (by omega)]
        have q5 : σ1.2.2.1 5 (8 * u + 3) = κ (170 + 5 * u + 3) := by
          rw [s2'.2.2.1 5 (by decide)]; exact r1 3 (by omega)
        rw [q5, n_succ]
        have c9 : κ (170 + 5 * u + 3) ≤ Int32.ofNat (lv + 1) ↔ (κ (170 + 5 * u + 3)).toInt ≤ lv + 1 := by
          rw [Int32.le_iff_toInt_le, n_int _ (by omega)]; rfl
        by_cases g2 : (κ (170 + 5 * u + 3)).toInt ≤ lv + 1
        · rw [if_pos (c9.mpr g2), e_Txm_read224]
          refine ⟨_, rfl, fr_sA s2' _ _ (by decide), fun k hk4 => ?_⟩
          rw [sA_3, if_pos rfl, rowset_get0 _ _ _ _ hk4, s3 k hk4]
          unfold rdt; rw [if_neg, hlv]
          intro h
          have := Int32.lt_iff_toInt_lt.mp h.2
          rw [hm, z0] at this
          omega
        · rw [if_neg (fun h => g2 (c9.mp h))]
          have hr2 : TxRel κ (sA σ1 11 (rowset (σ1.2.2.1 11) 0 4 (σ1.2.2.1 8))) := hr.fr (s2'.2.2.1 5 (by decide)) (s2'.2.2.1 6 (by decide))
          obtain ⟨σ2, t1, t2, t3⟩ := e_Txm_readLevel μ κ (sA σ1 11 (rowset (σ1.2.2.1 11) 0 4 (σ1.2.2.1 8))) u (lv + 1) s t four hu (by omega) hk hr2 ((s2'.2.2.1 0 (by decide)).trans h0) hf
          have e1 : L_Txm_read_141 100000 σ1 (Int32.ofNat u) s t (rdl κ u l) four (Int32.ofNat lv) 0 = L_Txm_read_183 100000 σ2 (rdl κ u l) 0 := by
            refine fill_loop (fun n σ v => L_Txm_read_141 n σ (Int32.ofNat u) s t (rdl κ u l) four (Int32.ofNat lv) v) σ1 11 0 4 0 (σ1.2.2.1 8) _ (fun n k hk4 => ?_) (fun n => ?_) 100000 (by decide)
            · obtain ⟨b1, b2, b3, b4, b5⟩ := ix4 k hk4
              simp only [Nat.zero_add]
              rw [L_Txm_read_141]
              simp only [lt, b1, b4, ck_pos b2, if_neg b3, sA_sA, sA_3, if_true, Nat.reduceEqDiff, reduceIte]
            · have h4 : (4 : Int32) ≤ Int32.ofNat (0 + 4) := by decide
              simp only [L_Txm_read_141, if_pos h4, n_succ]
              rw [t1, bd_def]
          have e2 : L_Txm_read_183 100000 σ2 (rdl κ u l) 0 = F_Txm_read_224 (sA σ2 8 (rowset (σ2.2.2.1 8) 0 4 (fun k => mx (σ2.2.2.1 11 k) (σ2.2.2.1 8 k) (rdl κ u l &&& 65535)))) := by
            refine fill_loop (fun n σ v => L_Txm_read_183 n σ (rdl κ u l) v) σ2 8 0 4 0 (fun k => mx (σ2.2.2.1 11 k) (σ2.2.2.1 8 k) (rdl κ u l &&& 65535)) _ (fun n k hk4 => ?_) (fun n => ?_) 100000 (by decide)
            · obtain ⟨b1, b2, b3, b4, b5⟩ := ix4 k hk4
              simp only [Nat.zero_add]
              rw [L_Txm_read_183]
              simp only [lt, b1, b4, ck_pos b2, if_neg b3, sA_sA, sA_3, if_true, Nat.reduceEqDiff, reduceIte, e_Txm_mix, bd_def, rowset_out _ 0 k _ k (Or.inr (by omega))]
            · have h4 : (4 : Int32) ≤ Int32.ofNat (0 + 4) := by decide
              simp only [L_Txm_read_183, if_pos h4]
          rw [e1, e2, e_Txm_read224]
          refine ⟨_, rfl, fr_sA (fr_sA ((s2'.trans (fr_sA Fr.rfl 11 _ (by decide))).trans (t2.weak wL)) _ _ (by decide)) _ _ (by decide), fun k hk4 => ?_⟩
          rw [sA_3, if_pos rfl, rowset_get0 _ _ _ _ hk4, sA_3, if_pos rfl, rowset_get0 _ _ _ _ hk4, t3 k hk4, t2.2.2.1 11 (by decide), sA_3, if_pos rfl, rowset_get0 _ _ _ _ hk4, s3 k hk4]
          unfold rdt
          rw [hlv]
          by_cases g3 : 0 < rdl κ u l &&& 65535
          · rw [if_pos ⟨by grind, g3⟩]
          · rw [if_neg (fun h => g3 h.2)]
            have : rdl κ u l &&& 65535 = 0 := by
              apply i_inj
              rw [Int32.lt_iff_toInt_lt, z0] at g3
              rw [hm] at g3 ⊢
              rw [z0]; omega
            rw [this, mx_zero]
    unfold F_Txm_read_65
    rw [a0, e7, ck_pos (mi _ (by omega)), mn _ (by omega), lt_def, show (sI σ 20 0).2.2.1 5 (8 * u + 7) = κ (217 + 3 * u + 2) from r2 2 (by omega)]
    have hfm := flt fl hfl
    rw [← efl] at hfm
    by_cases g : irem (κ (217 + 3 * u + 2)) 2 = 1
    · rw [if_pos g]; exact e94 1 (by constructor; intro h; exact absurd h (by decide); intro h; exact absurd h (hfm.mp g))
    · rw [if_neg g]; exact e94 0 (by constructor; intro _; exact Classical.byContradiction (fun h => g (hfm.mpr h)); intro _; rfl)
  unfold F_Txm_read
  rw [e_Txm_in, if_pos (in03 u hu), bd_def, if_neg (by decide)]
  unfold F_Txm_read_15
  rw [e_Txm_refuse0, bd_def, if_pos rfl, a0, e3, ck_pos (mi _ (by omega)), mn _ (by omega), lt_def, show (sI σ 20 0).2.2.1 5 (8 * u + 3) = κ (170 + 5 * u + 3) from r1 3 (by omega)]
  have e9 : (if 0 ≤ l then if l ≤ 65536 * (κ (170 + 5 * u + 3) - 1) then F_Txm_read_65 (sI σ 20 0) (Int32.ofNat u) s t l else F_Txm_read_65 (sI σ 20 0) (Int32.ofNat u) s t (65536 * (κ (170 + 5 * u + 3) - 1)) else F_Txm_read_65 (sI σ 20 0) (Int32.ofNat u) s t 0) = F_Txm_read_65 (sI σ 20 0) (Int32.ofNat u) s t (rdl κ u l) := by
    unfold rdl wn
    grind
  rw [e9]
  exact e65
theorem e_Txm_also (σ : Sg) (k : Nat) (hk : k < 4) : F_Txm_also σ (Int32.ofNat k) = some (sI σ 20 0, σ.2.2.1 7 k) := by
  obtain ⟨b1, b2, b3, b4, b5⟩ := ix4 k hk
  unfold F_Txm_also F_Txm_also_15
  rw [e_Txm_in, if_pos (in03 k hk), bd_def, if_neg (by decide), e_Txm_refuse0, bd_def, if_pos rfl, ck_pos b2, b1]
  rfl
