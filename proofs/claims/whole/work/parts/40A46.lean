/-! textures: the reference's texel -/
def TxRel (κ : Nat → Int32) (σ : Sg) : Prop := ∀ u, u < 4 → (∀ k, k < 5 → σ.2.2.1 5 (8 * u + k) = κ (170 + 5 * u + k)) ∧ (∀ k, k < 3 → σ.2.2.1 5 (8 * u + 5 + k) = κ (217 + 3 * u + k)) ∧ (∀ k, k < 4 → σ.2.2.1 6 (4 * u + k) = κ (229 + 4 * u + k))
theorem TxRel.fr {κ : Nat → Int32} {σ σ' : Sg} (h : TxRel κ σ) (h5 : σ'.2.2.1 5 = σ.2.2.1 5) (h6 : σ'.2.2.1 6 = σ.2.2.1 6) : TxRel κ σ' := by
  intro u hu
  rw [h5, h6]
  exact h u hu
theorem v4 : ∀ u, u < 4 → ((((8 * Int32.ofNat u) = Int32.ofNat (8 * u)) ∧ ∀ k, k < 8 → (Int32.ofNat (8 * u) + Int32.ofNat k = Int32.ofNat (8 * u + k))) ∧ ((4 * Int32.ofNat u) = Int32.ofNat (4 * u)) ∧ ∀ k, k < 4 → (Int32.ofNat (4 * u) + Int32.ofNat k = Int32.ofNat (4 * u + k))) := by decide
theorem mn (k : Nat) (h : k < 32) : (Int32.ofNat k).toNatClampNeg = k := n_nat k (by omega)
theorem mi (k : Nat) (h : k < 32) : inb (Int32.ofNat k) 32 := n_inb k 32 h (by omega)
theorem ex11 : ∀ a, a < 11 → ∀ l, l < 12 → (if 0 ≤ Int32.ofNat a - Int32.ofNat l then some (Int32.ofNat a - Int32.ofNat l) else some 0) = some (Int32.ofNat (a - l)) := by decide
theorem e_exponent (κ : Nat → Int32) (σ : Sg) (u level w : Nat) (hu : u < 4) (hl : level ≤ 11) (hw : w < 2) (hk : TxOK κ) (hr : TxRel κ σ) :
    F_Txm_exponent σ (Int32.ofNat u) (Int32.ofNat level) (Int32.ofNat w) = some (Int32.ofNat ((if w = 0 then lw0 κ u else lh0 κ u) - level)) := by
  obtain ⟨⟨a0, a1⟩, -⟩ := v4 u hu
  obtain ⟨r1, -, -⟩ := hr u hu
  obtain ⟨-, ⟨w0, w1⟩, ⟨v0, v1⟩, -, -, -⟩ := hk u hu
  have e1 : Int32.ofNat (8 * u) + 1 + Int32.ofNat w = Int32.ofNat (8 * u + (1 + w)) := by
    rw [n_succ, n_add]; congr 1; omega
  unfold F_Txm_exponent
  simp only [lt, a0, e1, ck_pos (mi (8 * u + (1 + w)) (by omega)), mn (8 * u + (1 + w)) (by omega), r1 (1 + w) (by omega), F_Txm_exponent_28]
  have lw : lw0 κ u ≤ 10 := by have := i_natlt _ 11 w0 (by grind) (by omega); unfold lw0; omega
  have lh : lh0 κ u ≤ 10 := by have := i_natlt _ 11 v0 (by grind) (by omega); unfold lh0; omega
  have h2 : w = 0 ∨ w = 1 := by omega
  rcases h2 with rfl | rfl
  · rw [show κ (170 + 5 * u + (1 + 0)) = Int32.ofNat (lw0 κ u) from (i_nat _ w0).symm]
    exact ex11 _ (by omega) _ (by omega)
  · rw [show κ (170 + 5 * u + (1 + 1)) = Int32.ofNat (lh0 κ u) from (i_nat _ v0).symm]
    exact ex11 _ (by omega) _ (by omega)
theorem lw_le (κ : Nat → Int32) (u : Nat) (hu : u < 4) (hk : TxOK κ) : lw0 κ u ≤ 10 ∧ lh0 κ u ≤ 10 := by
  obtain ⟨-, ⟨w0, w1⟩, ⟨v0, v1⟩, -, -, -⟩ := hk u hu
  constructor
  · have := i_natlt _ 11 w0 (by grind) (by omega); unfold lw0; omega
  · have := i_natlt _ 11 v0 (by grind) (by omega); unfold lh0; omega
theorem e_wide (κ : Nat → Int32) (σ : Sg) (u level : Nat) (hu : u < 4) (hl : level ≤ 11) (hk : TxOK κ) (hr : TxRel κ σ) :
    F_Txm_wide σ (Int32.ofNat u) (Int32.ofNat level) = some (Int32.ofNat (2 ^ (lw0 κ u - level))) := by
  unfold F_Txm_wide
  have h := e_exponent κ σ u level 0 hu hl (by omega) hk hr
  have hb := lw_le κ u hu hk
  rw [if_pos rfl] at h
  rw [show (0 : Int32) = Int32.ofNat 0 from rfl, h, bd_def, sh31 _ (by omega)]
theorem e_high (κ : Nat → Int32) (σ : Sg) (u level : Nat) (hu : u < 4) (hl : level ≤ 11) (hk : TxOK κ) (hr : TxRel κ σ) :
    F_Txm_high σ (Int32.ofNat u) (Int32.ofNat level) = some (Int32.ofNat (2 ^ (lh0 κ u - level))) := by
  unfold F_Txm_high
  have h := e_exponent κ σ u level 1 hu hl (by omega) hk hr
  have hb := lw_le κ u hu hk
  rw [if_neg (by decide)] at h
  rw [show (1 : Int32) = Int32.ofNat 1 from rfl, h, bd_def]
  show some ((1 : Int32) <<< _) = _
  rw [sh31 _ (by omega)]
theorem e_ahead (κ : Nat → Int32) (σ : Sg) (u level : Nat) (hu : u < 4) (hl : level ≤ 11) (hk : TxOK κ) (hr : TxRel κ σ) :
    F_Txm_ahead σ (Int32.ofNat u) (Int32.ofNat level) = some (Int32.ofNat (ab (lw0 κ u) (lh0 κ u) level)) := by
  unfold F_Txm_ahead
  have h : ∀ d l, level = l + d → ∀ n, d < n → L_Txm_ahead_5 n σ (Int32.ofNat u) (Int32.ofNat level) (Int32.ofNat (ab (lw0 κ u) (lh0 κ u) l)) (Int32.ofNat l) = some (Int32.ofNat (ab (lw0 κ u) (lh0 κ u) level)) := by
    intro d
    induction d with
    | zero =>
      intro l e n hn
      obtain ⟨n, rfl⟩ : ∃ m, n = m + 1 := ⟨n - 1, by omega⟩
      have : l = level := by omega
      subst this
      simp only [L_Txm_ahead_5, Int32.le_refl, if_true]
    | succ d ih =>
      intro l e n hn
      obtain ⟨n, rfl⟩ : ∃ m, n = m + 1 := ⟨n - 1, by omega⟩
      simp only [L_Txm_ahead_5, lt]
      rw [if_neg (by rw [n_le _ _ (by omega) (by omega)]; omega), e_wide κ σ u l hu (by omega) hk hr, bd_def, e_high κ σ u l hu (by omega) hk hr, bd_def, n_mul, n_add, ← Nat.pow_add, n_succ]
      exact ih (l + 1) (by omega) n (by omega)
  exact h level 0 (by omega) 100000 (by omega)
/-- the bits of each channel -/
def szN (m k : Nat) : Nat := (tb_CHANNEL_BITS (4 * m + k)).toNatClampNeg
def shN (m k : Nat) : Nat := (tb_CHANNEL_SHIFT (4 * m + k)).toNatClampNeg
def btN (m : Nat) : Nat := (tb_TEXEL_BITS m).toNatClampNeg
theorem fmt : ∀ m, m < 8 → ((tb_TEXEL_BITS m = Int32.ofNat (btN m) ∧ (btN m = 4 ∨ btN m = 8 ∨ btN m = 16 ∨ btN m = 32)) ∧ ∀ k, k < 4 → (tb_CHANNEL_BITS (4 * m + k) = Int32.ofNat (szN m k) ∧ tb_CHANNEL_SHIFT (4 * m + k) = Int32.ofNat (shN m k) ∧ shN m k + szN m k ≤ btN m ∧ grt m k = Int32.ofNat (2 ^ (szN m k) - 1) ∧ szN m k ≤ 8)) := by decide
theorem e_lay (σ : Sg) (x0 x1 x2 x3 x4 x5 x6 x7 : Int32) : F_Txm_lay σ x0 x1 x2 x3 x4 x5 x6 x7 = some (sA (sA σ 12 (upd (upd (upd (upd (σ.2.2.1 12) 0 x0) 1 x1) 2 x2) 3 x3)) 13 (upd (upd (upd (upd (σ.2.2.1 13) 0 x4) 1 x5) 2 x6) 3 x7)) := by
  simp only [F_Txm_lay, lt, sA_sA, sA_3, if_true, Nat.reduceEqDiff, reduceIte]
theorem e_layOut (σ : Sg) (m : Nat) (hm : m < 8) : ∃ f g : Nat → Int32, F_Txm_layOut σ (Int32.ofNat m) = some (sA (sA σ 12 f) 13 g, Int32.ofNat (btN m)) ∧ ∀ k, k < 4 → f k = Int32.ofNat (shN m k) ∧ g k = Int32.ofNat (szN m k) := by
  have hk4 : ∀ k, k < 4 → k = 0 ∨ k = 1 ∨ k = 2 ∨ k = 3 := by omega
  have h8 : m = 0 ∨ m = 1 ∨ m = 2 ∨ m = 3 ∨ m = 4 ∨ m = 5 ∨ m = 6 ∨ m = 7 := by omega
  unfold F_Txm_layOut
  simp only [e_lay, bd_def]
  rcases h8 with rfl | rfl | rfl | rfl | rfl | rfl | rfl | rfl
  all_goals
    refine ⟨_, _, rfl, fun k hk => ?_⟩
    rcases hk4 k hk with rfl | rfl | rfl | rfl <;> exact ⟨rfl, rfl⟩
