/-! textures: the class's levels -/
def rowA (first y lw : Int32) : Int32 := if y = -1 then -1 else first + (y <<< (lw &&& 31))
theorem e_rowAt (first y lw : Int32) : F_Tex_rowAt first y lw = some (rowA first y lw) := by
  simp only [F_Tex_rowAt_14, F_Tex_rowAt, rowA]
  grind
def tx2 (μ κ : Nat → Int32) (u lw lh : Nat) (first p q : Int32) (k : Nat) : Int32 := txb μ κ u (wrp (κ (217 + 3 * u)) p lw) (rowA first (wrp (κ (217 + 3 * u + 1)) q lh) (Int32.ofNat lw)) k
def lvN (μ κ : Nat → Int32) (u lw lh : Nat) (first : Int32) (ws ht : Int64) (k : Nat) : Int32 := tx2 μ κ u lw lh first ((lshr ws 16).toInt32) ((lshr ht 16).toInt32) k
def lvF (μ κ : Nat → Int32) (u lw lh : Nat) (first : Int32) (ws ht : Int64) (k : Nat) : Int32 :=
  mx (mx (tx2 μ κ u lw lh first ((lshr ws 16).toInt32) ((lshr ht 16).toInt32) k) (tx2 μ κ u lw lh first ((lshr ws 16).toInt32 + 1) ((lshr ht 16).toInt32) k) ((ws &&& 65535).toInt32))
    (mx (tx2 μ κ u lw lh first ((lshr ws 16).toInt32) ((lshr ht 16).toInt32 + 1) k) (tx2 μ κ u lw lh first ((lshr ws 16).toInt32 + 1) ((lshr ht 16).toInt32 + 1) k) ((ws &&& 65535).toInt32)) ((ht &&& 65535).toInt32)
def lw0 (κ : Nat → Int32) (u : Nat) : Nat := (κ (170 + 5 * u + 1)).toNatClampNeg
def lh0 (κ : Nat → Int32) (u : Nat) : Nat := (κ (170 + 5 * u + 2)).toNatClampNeg
def lvl (μ κ : Nat → Int32) (u level : Nat) (s t : Int32) (k : Nat) : Int32 :=
  if κ (217 + 3 * u + 2) &&& 1 = 0 then lvN μ κ u (lw0 κ u - level) (lh0 κ u - level) (Int32.ofNat (ab (lw0 κ u) (lh0 κ u) level)) (lshl s.toInt64 (Int32.ofNat (lw0 κ u - level))) (lshl t.toInt64 (Int32.ofNat (lh0 κ u - level))) k
  else lvF μ κ u (lw0 κ u - level) (lh0 κ u - level) (Int32.ofNat (ab (lw0 κ u) (lh0 κ u) level)) (lshl s.toInt64 (Int32.ofNat (lw0 κ u - level)) - 32768) (lshl t.toInt64 (Int32.ofNat (lh0 κ u - level)) - 32768) k
theorem e_readTexel' (μ κ : Nat → Int32) (σ : Sg) (u ar : Nat) (x row : Int32) (hu : u < 4) (ha : ar < 47) (hl : lenC σ ar = 4) (hk : TxOK κ) (h0 : σ.2.2.1 0 = μ) (h1 : σ.2.2.1 1 = κ) :
    F_Tex_readTexel σ (Int32.ofNat u) x row ar = some (sA σ ar (rowset (σ.2.2.1 ar) 0 4 (txb μ κ u x row))) := by
  subst h0 h1
  exact e_readTexel σ u ar x row hu ha hl hk
theorem rowset_rowset (f : Nat → Int32) (c N : Nat) (g h : Nat → Int32) : rowset (rowset f c N g) c N h = rowset f c N h := by
  funext j; unfold rowset; split <;> rfl
theorem rowset_ext (f : Nat → Int32) (c N : Nat) (g h : Nat → Int32) (e : ∀ k, k < N → g k = h k) : rowset f c N g = rowset f c N h := by
  funext j; unfold rowset; split
  · exact e _ (by omega)
  · rfl
/-- what a level's reading changes -/
def pTx (ar : Nat) : Nat → Nat → Bool := fun c k => c == 2 && (k == ar || (18 ≤ k && k ≤ 20))
theorem sh31 : ∀ a, a < 11 → (1 : Int32) <<< (Int32.ofNat a &&& 31) = Int32.ofNat (2 ^ a) := by decide
theorem e_rl_160 (μ κ : Nat → Int32) (σ : Sg) (u ar lw lh : Nat) (first four : Int32) (ws ht0 : Int64) (s1 : Int32) (hu : u < 4) (har : ar = 14 ∨ ar = 17) (hk : TxOK κ) (h0 : σ.2.2.1 0 = μ) (h1 : σ.2.2.1 1 = κ) (hw : lw ≤ 10) (hh : lh ≤ 10) :
    ∃ σ', F_Tex_readLevel_160 σ (Int32.ofNat u) ar (Int32.ofNat lw) (Int32.ofNat lh) first (κ (217 + 3 * u)) (κ (217 + 3 * u + 1)) four ws ht0 s1 = some σ' ∧ Fr (pTx ar) σ σ' ∧
      ∀ k, k < 4 → σ'.2.2.1 ar k = if four = 0 then lvN μ κ u lw lh first ws (ht0 - s1.toInt64) k else lvF μ κ u lw lh first ws (ht0 - s1.toInt64) k := by
  unfold F_Tex_readLevel_160
  generalize ht0 - s1.toInt64 = ht
  have ha : ar < 47 := by omega
  simp only [ck_pos ha, lt, sh31 lw (by omega), sh31 lh (by omega), e_wrapped _ _ lw hw, e_wrapped _ _ lh hh, bd_def, e_rowAt]
  have hl : lenC σ ar = 4 := by rcases har with rfl | rfl <;> rfl
  rw [e_readTexel' μ κ σ u ar _ _ hu ha hl hk h0 h1, bd_def]
  by_cases hf : four = 0
  · rw [if_pos hf]
    refine ⟨_, rfl, fr_sA Fr.rfl _ _ (by simp [pTx]), fun k hk4 => ?_⟩
    rw [sA_3, if_pos rfl, rowset_get0 _ _ _ _ hk4, if_pos hf]; rfl
  · rw [if_neg hf]
    rcases har with rfl | rfl
    all_goals
      rw [e_readTexel' μ κ _ u 18 _ _ hu (by decide) rfl hk ?_ ?_, bd_def, e_readTexel' μ κ _ u 19 _ _ hu (by decide) rfl hk ?_ ?_, bd_def, e_readTexel' μ κ _ u 20 _ _ hu (by decide) rfl hk ?_ ?_, bd_def]
      · rw [e_mix _ _ 18 _ (by decide) (by decide) rfl rfl (by decide), bd_def, e_mix _ 19 20 _ (by decide) (by decide) rfl rfl (by decide), bd_def, e_mix _ _ 19 _ (by decide) (by decide) rfl rfl (by decide), bd_def]
        refine ⟨_, rfl, ?_, fun k hk4 => ?_⟩
        · repeat (first | exact Fr.rfl | refine fr_sA ?_ _ _ (by decide))
        · rw [sA_3, if_pos rfl, rowset_get0 _ _ _ _ hk4, if_neg hf]
          simp only [sA_3, if_true, if_false, rowset_get0 _ _ _ _ hk4, Nat.reduceEqDiff, reduceIte]
          rfl
      all_goals first | exact h0 | exact h1
theorem e_readLevel (μ κ : Nat → Int32) (σ : Sg) (u ar level : Nat) (s t : Int32) (hu : u < 4) (har : ar = 14 ∨ ar = 17) (hk : TxOK κ) (h0 : σ.2.2.1 0 = μ) (h1 : σ.2.2.1 1 = κ) (hl : level ≤ 11) :
    ∃ σ', F_Tex_readLevel σ (Int32.ofNat u) (Int32.ofNat level) s t ar = some σ' ∧ Fr (pTx ar) σ σ' ∧ ∀ k, k < 4 → σ'.2.2.1 ar k = lvl μ κ u level s t k := by
  obtain ⟨a0, a1, a2, a3, a4, b0, b1, b2, c0⟩ := u4 u hu
  rw [a0] at a1 a2 a3 a4
  rw [b0] at b1 b2
  obtain ⟨-, ⟨w0, w1⟩, ⟨v0, v1⟩, -, -, -⟩ := hk u hu
  have ha : ar < 47 := by omega
  have ew : κ (170 + 5 * u + 1) = Int32.ofNat (lw0 κ u) := (i_nat _ w0).symm
  have eh : κ (170 + 5 * u + 2) = Int32.ofNat (lh0 κ u) := (i_nat _ v0).symm
  have lw : lw0 κ u ≤ 10 := by have := i_natlt _ 11 w0 (by grind) (by omega); unfold lw0; omega
  have lh : lh0 κ u ≤ 10 := by have := i_natlt _ 11 v0 (by grind) (by omega); unfold lh0; omega
  unfold F_Tex_readLevel
  simp only [lt, a0, a1, a2, b0, b1, b2, ck_pos ha, ck_pos (ni (170 + 5 * u + 1) (by omega)), ck_pos (ni (170 + 5 * u + 2) (by omega)), ck_pos (ni (217 + 3 * u) (by omega)), ck_pos (ni (217 + 3 * u + 1) (by omega)), ck_pos (ni (217 + 3 * u + 2) (by omega)), nn (170 + 5 * u + 1) (by omega), nn (170 + 5 * u + 2) (by omega), nn (217 + 3 * u) (by omega), nn (217 + 3 * u + 1) (by omega), nn (217 + 3 * u + 2) (by omega), h1]
  rw [ew, eh, im10 _ (by omega) _ (by omega), im10 _ (by omega) _ (by omega), e_texelsAbove _ _ _ lw lh hl, bd_def]
  have z0 : ∀ x : Int64, x - (0 : Int32).toInt64 = x := fun x => by show x - 0 = x; grind
  have z1 : ∀ x : Int64, x - (32768 : Int32).toInt64 = x - 32768 := fun x => rfl
  by_cases hf : κ (217 + 3 * u + 2) &&& 1 = 0
  · rw [if_pos hf]
    unfold F_Tex_readLevel_121 F_Tex_readLevel_139
    simp only [ck_pos ha, lt, if_true, z0]
    obtain ⟨σ', e1, e2, e3⟩ := e_rl_160 μ κ σ u ar (lw0 κ u - level) (lh0 κ u - level) (Int32.ofNat (ab (lw0 κ u) (lh0 κ u) level)) 0 (lshl s.toInt64 (Int32.ofNat (lw0 κ u - level))) (lshl t.toInt64 (Int32.ofNat (lh0 κ u - level))) 0 hu har hk h0 h1 (by omega) (by omega)
    refine ⟨σ', e1, e2, fun k hk4 => ?_⟩
    rw [e3 k hk4, if_pos rfl, z0]
    unfold lvl; rw [if_pos hf]
  · rw [if_neg hf]
    unfold F_Tex_readLevel_121 F_Tex_readLevel_139
    simp only [ck_pos ha, lt, if_neg (show ¬ (1 : Int32) = 0 by decide), z1]
    obtain ⟨σ', e1, e2, e3⟩ := e_rl_160 μ κ σ u ar (lw0 κ u - level) (lh0 κ u - level) (Int32.ofNat (ab (lw0 κ u) (lh0 κ u) level)) 1 (lshl s.toInt64 (Int32.ofNat (lw0 κ u - level)) - 32768) (lshl t.toInt64 (Int32.ofNat (lh0 κ u - level))) 32768 hu har hk h0 h1 (by omega) (by omega)
    refine ⟨σ', e1, e2, fun k hk4 => ?_⟩
    rw [e3 k hk4, if_neg (by decide), z1]
    unfold lvl; rw [if_neg hf]
/-- a reading -/
def rdl (κ : Nat → Int32) (u : Nat) (l : Int32) : Int32 := wn l 0 (65536 * (κ (170 + 5 * u + 3) - 1))
def rdt (μ κ : Nat → Int32) (u : Nat) (s t l : Int32) (k : Nat) : Int32 :=
  if 2 ≤ κ (217 + 3 * u + 2) ∧ 0 < rdl κ u l &&& 65535 then mx (lvl μ κ u (rdl κ u l >>> 16).toNatClampNeg s t k) (lvl μ κ u ((rdl κ u l >>> 16).toNatClampNeg + 1) s t k) (rdl κ u l &&& 65535)
  else lvl μ κ u (rdl κ u l >>> 16).toNatClampNeg s t k
theorem rdl_rng (κ : Nat → Int32) (u : Nat) (l : Int32) (hu : u < 4) (hk : TxOK κ) : 0 ≤ (rdl κ u l).toInt ∧ (rdl κ u l).toInt ≤ 65536 * ((κ (170 + 5 * u + 3)).toInt - 1) ∧ 1 ≤ (κ (170 + 5 * u + 3)).toInt ∧ (κ (170 + 5 * u + 3)).toInt ≤ 11 := by
  obtain ⟨-, -, -, ⟨m0, m1⟩, -⟩ := hk u hu
  rw [Int32.le_iff_toInt_le] at m0 m1
  have z1 : (1 : Int32).toInt = 1 := rfl
  have z0 : (0 : Int32).toInt = 0 := rfl
  have z2 : (11 : Int32).toInt = 11 := rfl
  have z3 : (65536 : Int32).toInt = 65536 := rfl
  have e1 : (κ (170 + 5 * u + 3) - 1).toInt = (κ (170 + 5 * u + 3)).toInt - 1 := by rw [i_sub, z1] <;> omega
  have e2 : (65536 * (κ (170 + 5 * u + 3) - 1)).toInt = 65536 * ((κ (170 + 5 * u + 3)).toInt - 1) := by rw [i_mul, e1, z3] <;> rw [e1, z3] <;> omega
  unfold rdl wn
  split
  · rw [z0]; omega
  · rename_i h1
    rw [Int32.lt_iff_toInt_lt, z0] at h1
    split
    · rw [e2]; omega
    · rename_i h2
      rw [Int32.lt_iff_toInt_lt, e2] at h2
      omega
theorem e_read (μ κ : Nat → Int32) (σ : Sg) (u : Nat) (s t l : Int32) (hu : u < 4) (hk : TxOK κ) (h0 : σ.2.2.1 0 = μ) (h1 : σ.2.2.1 1 = κ) :
    ∃ σ', F_Tex_read σ (Int32.ofNat u) s t l 14 = some σ' ∧ Fr (fun c k => c == 2 && (k == 14 || (17 ≤ k && k ≤ 20))) σ σ' ∧ ∀ k, k < 4 → σ'.2.2.1 14 k = rdt μ κ u s t l k := by
  obtain ⟨a0, a1, a2, a3, a4, b0, b1, b2, c0⟩ := u4 u hu
  rw [a0] at a1 a2 a3 a4
  rw [b0] at b1 b2
  have hr := rdl_rng κ u l hu hk
  have z0 : (0 : Int32).toInt = 0 := rfl
  have hs : (rdl κ u l >>> 16).toInt = (rdl κ u l).toInt / 2 ^ 16 := b_sar _ 16 (by omega)
  have hm : (rdl κ u l &&& 65535).toInt = (rdl κ u l).toInt % 2 ^ 16 := b_and _ 16 (by omega)
  have hq : (0 : Int32) ≤ (rdl κ u l >>> 16) := by rw [Int32.le_iff_toInt_le, hs, z0]; omega
  have hlv : (rdl κ u l >>> 16).toNatClampNeg ≤ 10 := by
    show (rdl κ u l >>> 16).toInt.toNat ≤ 10
    rw [hs]; omega
  have en : rdl κ u l >>> 16 = Int32.ofNat (rdl κ u l >>> 16).toNatClampNeg := (i_nat _ hq).symm
  unfold F_Tex_read
  simp only [lt, a0, a3, b0, b2, ck_pos (show 14 < 47 by decide), ck_pos (ni (170 + 5 * u + 3) (by omega)), ck_pos (ni (217 + 3 * u + 2) (by omega)), nn (170 + 5 * u + 3) (by omega), nn (217 + 3 * u + 2) (by omega), h1, e_within32, bd_def]
  change ∃ σ', bd (F_Tex_readLevel σ (Int32.ofNat u) (rdl κ u l >>> 16) s t 14) (fun o19 => if κ (217 + 3 * u + 2) < 2 then F_Tex_read_110 o19 else if rdl κ u l &&& 65535 ≤ 0 then F_Tex_read_110 o19 else bd (F_Tex_readLevel o19 (Int32.ofNat u) ((rdl κ u l >>> 16) + 1) s t 17) (fun o20 => bd (F_Tex_mix o20 14 17 (rdl κ u l &&& 65535)) (fun o21 => F_Tex_read_110 o21))) = some σ' ∧ _
  generalize hN : (rdl κ u l >>> 16).toNatClampNeg = lv at en hlv
  rw [en]
  obtain ⟨σ1, e1, e2, e3⟩ := e_readLevel μ κ σ u 14 lv s t hu (Or.inl rfl) hk h0 h1 (by omega)
  rw [e1, bd_def]
  have w1 : ∀ c k, (fun c k => c == 2 && (k == 14 || (17 ≤ k && k ≤ 20))) c k = false → pTx 14 c k = false := by
    intro c k; simp only [pTx]; grind
  have w2 : ∀ c k, (fun c k => c == 2 && (k == 14 || (17 ≤ k && k ≤ 20))) c k = false → pTx 17 c k = false := by
    intro c k; simp only [pTx]; grind
  by_cases g1 : κ (217 + 3 * u + 2) < 2
  · rw [if_pos g1]
    refine ⟨σ1, rfl, e2.weak w1, fun k hk4 => ?_⟩
    rw [e3 k hk4]; unfold rdt; rw [if_neg (by grind), hN]
  · rw [if_neg g1]
    by_cases g2 : rdl κ u l &&& 65535 ≤ 0
    · rw [if_pos g2]
      refine ⟨σ1, rfl, e2.weak w1, fun k hk4 => ?_⟩
      rw [e3 k hk4]; unfold rdt; rw [if_neg (by grind), hN]
    · rw [if_neg g2, n_succ]
      obtain ⟨σ2, f1, f2, f3⟩ := e_readLevel μ κ σ1 u 17 (lv + 1) s t hu (Or.inr rfl) hk ((e2.2.2.1 0 (by decide)).trans h0) ((e2.2.2.1 1 (by decide)).trans h1) (by omega)
      rw [f1, bd_def, e_mix σ2 14 17 _ (by decide) (by decide) rfl rfl (by decide), bd_def]
      refine ⟨_, rfl, fr_sA ((e2.weak w1).trans (f2.weak w2)) _ _ (by decide), fun k hk4 => ?_⟩
      rw [sA_3, if_pos rfl, rowset_get0 _ _ _ _ hk4, f3 k hk4, f2.2.2.1 14 (by decide), e3 k hk4]
      unfold rdt; rw [if_pos (by grind), hN]
