/-! what is left is laid -/
def clL (t : Int64) (a b : Int32) : Int32 := if t < a.toInt64 then a else if b.toInt64 < t then b else t.toInt32
def lxt (v w fr sz : Int32) : Int64 := (16 * fr).toInt64 + (lshr (((fdiv (v.toInt64 * 65536) w.toInt64) + 65536) * sz.toInt64) 13)
def lxv (v w fr sz : Int32) : Int32 := clL (lxt v w fr sz) (-16384) 16383
def ldt (z w ne fa : Int32) : Int64 := ne.toInt64 + (((lshr ((fdiv (z.toInt64 * 65536) w.toInt64) + 65536) 17) * (fa - ne).toInt64) + (lshr ((((fdiv (z.toInt64 * 65536) w.toInt64) + 65536) &&& 131071) * (fa - ne).toInt64) 17))
def ldv (z w ne fa : Int32) : Int32 := clL (ldt z w ne fa) 0 16777215
def lnv (w : Int32) : Int32 := imax (1073741824 / w) 1
def VwOK (κ : Nat → Int32) : Prop := (-1023 ≤ κ 0 ∧ κ 0 ≤ 1023) ∧ (-1023 ≤ κ 1 ∧ κ 1 ≤ 1023) ∧ (1 ≤ κ 2 ∧ κ 2 ≤ 1024) ∧ (1 ≤ κ 3 ∧ κ 3 ≤ 1024) ∧ (0 ≤ κ 4 ∧ κ 4 ≤ 16777215) ∧ (0 ≤ κ 5 ∧ κ 5 ≤ 16777215)
theorem clL_rng (t : Int64) (a b : Int32) (h : a ≤ b) : a ≤ clL t a b ∧ clL t a b ≤ b := by
  unfold clL
  have ra := i_rng a
  have rb := i_rng b
  rw [Int32.le_iff_toInt_le] at h
  by_cases c : t < a.toInt64
  · rw [if_pos c, Int32.le_iff_toInt_le, Int32.le_iff_toInt_le]; omega
  · rw [if_neg c]
    by_cases d : b.toInt64 < t
    · rw [if_pos d, Int32.le_iff_toInt_le, Int32.le_iff_toInt_le]; omega
    · rw [if_neg d]
      rw [Int64.lt_iff_toInt_lt, l_ext] at c d
      rw [Int32.le_iff_toInt_le, Int32.le_iff_toInt_le, l_cut' t (by omega) (by omega)]; omega
theorem lnv_rng (w : Int32) (h : 256 ≤ w.toInt) : 1 ≤ (lnv w).toInt ∧ (lnv w).toInt ≤ 4194304 := by
  have hw := i_rng w
  have z : (1073741824 : Int32).toInt = 1073741824 := rfl
  have e : (1073741824 / w).toInt = 1073741824 / w.toInt := by
    rw [i_div _ _ (by omega), z, Int.tdiv_eq_ediv_of_nonneg (by omega)]
  have b1 : 1073741824 / w.toInt ≤ 4194304 := by
    have : 1073741824 / w.toInt ≤ 1073741824 / 256 := by
      apply Int.le_of_lt_add_one
      rw [Int.ediv_lt_iff_lt_mul (by omega)]
      have : (1073741824 / 256 + 1) * 256 ≤ (1073741824 / 256 + 1) * w.toInt := Int.mul_le_mul_of_nonneg_left h (by omega)
      omega
    omega
  unfold lnv imax
  split
  · rename_i c
    have z1 : (1 : Int32).toInt = 1 := rfl
    rw [z1]; omega
  · rename_i c
    rw [Int32.lt_iff_toInt_lt, e] at c
    have z1 : (1 : Int32).toInt = 1 := rfl
    rw [e]; omega
theorem e_within64 (t : Int64) (a b : Int32) : F_DM_within t a b = some (clL t a b) := e_within t a b
theorem sar13 (x : Int64) : fdiv x 8192 = lshr x 13 := by
  apply l_inj
  rw [fd_pos x 8192 (by decide), show (13 : Int32) = Int32.ofNat 13 from rfl, l_sar x 13 (by omega)]
  rfl
theorem sar17 (x : Int64) : fdiv x 131072 = lshr x 17 := by
  apply l_inj
  rw [fd_pos x 131072 (by decide), show (17 : Int32) = Int32.ofNat 17 from rfl, l_sar x 17 (by omega)]
  rfl
theorem low17 (x : Int64) : x - lshr x 17 * 131072 = x &&& 131071 := by
  apply l_inj
  have h1 : (x &&& 131071).toInt = x.toInt % 2 ^ 17 := l_and x 17 (by omega)
  have h2 : (lshr x 17).toInt = x.toInt / 2 ^ 17 := l_sar x 17 (by omega)
  have hx := l_rng x
  have z : (131072 : Int64).toInt = 131072 := rfl
  have m : (lshr x 17 * 131072).toInt = x.toInt / 2 ^ 17 * 131072 := by
    rw [l_mul, h2, z]
    · rw [h2, z]; omega
    · rw [h2, z]; omega
  rw [l_sub, m, h1]
  · omega
  · rw [m]; omega
  · rw [m]; omega
theorem e_Vwm_lay (v w fr sz : Int32) (hw : 256 ≤ w.toInt) (hf : -1023 ≤ fr ∧ fr ≤ 1023) : F_Vwm_lay v w fr sz = some (lxv v w fr sz) := by
  have hw2 : 0 < w.toInt64.toInt := by rw [l_ext]; omega
  have e16 : (16 : Int64) * fr.toInt64 = (16 * fr).toInt64 := by
    apply l_inj
    rw [Int32.le_iff_toInt_le, Int32.le_iff_toInt_le] at hf
    have z1 : (-1023 : Int32).toInt = -1023 := rfl
    have z2 : (1023 : Int32).toInt = 1023 := rfl
    have z3 : (16 : Int32).toInt = 16 := rfl
    have z4 : (16 : Int64).toInt = 16 := rfl
    rw [l_ext, i_mul, l_mul, l_ext, z3, z4]
    · rw [l_ext, z4]; omega
    · rw [l_ext, z4]; omega
    · rw [z3]; omega
    · rw [z3]; omega
  unfold F_Vwm_lay F_Vwm_lay_69
  rw [e_Vwm_down _ _ hw2, bd_def, lt_def, e_Vwm_down _ _ (by decide), bd_def, lt_def, sar13, e16]
  show (if -16384 ≤ lxt v w fr sz then if lxt v w fr sz ≤ 16383 then some (lxt v w fr sz).toInt32 else some (16383 : Int64).toInt32 else some (-16384 : Int64).toInt32) = _
  unfold lxv clL
  have a1 : lxt v w fr sz < (-16384 : Int32).toInt64 ↔ ¬ (-16384 ≤ lxt v w fr sz) := by
    rw [show (-16384 : Int32).toInt64 = -16384 from rfl]; constructor <;> intro h <;> grind
  have a2 : (16383 : Int32).toInt64 < lxt v w fr sz ↔ ¬ (lxt v w fr sz ≤ 16383) := by
    rw [show (16383 : Int32).toInt64 = 16383 from rfl]; constructor <;> intro h <;> grind
  by_cases c : -16384 ≤ lxt v w fr sz
  · rw [if_pos c, if_neg (fun h => a1.mp h c)]
    by_cases d : lxt v w fr sz ≤ 16383
    · rw [if_pos d, if_neg (fun h => a2.mp h d)]
    · rw [if_neg d, if_pos (a2.mpr d)]; rfl
  · rw [if_neg c, if_pos (a1.mpr c)]; rfl
theorem e_Vwm_depthOf (z w ne fa : Int32) (hw : 256 ≤ w.toInt) : F_Vwm_depthOf z w ne fa = some (ldv z w ne fa) := by
  have hw2 : 0 < w.toInt64.toInt := by rw [l_ext]; omega
  unfold F_Vwm_depthOf F_Vwm_depthOf_92
  rw [e_Vwm_down _ _ hw2, bd_def, lt_def, e_Vwm_down _ _ (by decide), bd_def, lt_def, sar17, low17, e_Vwm_down _ _ (by decide), bd_def, lt_def, sar17]
  have e9 : ne.toInt64 + lshr (fdiv (z.toInt64 * 65536) w.toInt64 + 65536) 17 * (fa - ne).toInt64 + lshr ((fdiv (z.toInt64 * 65536) w.toInt64 + 65536 &&& 131071) * (fa - ne).toInt64) 17 = ldt z w ne fa := by
    unfold ldt; grind
  rw [e9]
  unfold ldv clL
  generalize ldt z w ne fa = t
  have a1 : t < (0 : Int32).toInt64 ↔ ¬ (0 ≤ t) := by
    rw [show (0 : Int32).toInt64 = 0 from rfl]; constructor <;> intro h <;> grind
  have a2 : (16777215 : Int32).toInt64 < t ↔ ¬ (t ≤ 16777215) := by
    rw [show (16777215 : Int32).toInt64 = 16777215 from rfl]; constructor <;> intro h <;> grind
  by_cases c : 0 ≤ t
  · rw [if_pos c, if_neg (fun h => a1.mp h c)]
    by_cases d : t ≤ 16777215
    · rw [if_pos d, if_neg (fun h => a2.mp h d)]
    · rw [if_neg d, if_pos (a2.mpr d)]; rfl
  · rw [if_neg c, if_pos (a1.mpr c)]; rfl
/-- corners as they are laid -/
def LaidC (κ : Nat → Int32) (P : List (Nat → Int32)) (m : Nat) (σ : Sg) : Prop := ∀ j, j < m → σ.2.2.1 24 j = lxv (P.getD j (fun _ => 0) 0) (P.getD j (fun _ => 0) 3) (κ 0) (κ 2) ∧ σ.2.2.1 25 j = lxv (P.getD j (fun _ => 0) 1) (P.getD j (fun _ => 0) 3) (κ 1) (κ 3) ∧ σ.2.2.1 26 j = ldv (P.getD j (fun _ => 0) 2) (P.getD j (fun _ => 0) 3) (κ 4) (κ 5) ∧ σ.2.2.1 27 j = lnv (P.getD j (fun _ => 0) 3)
def pLy : Nat → Nat → Bool := fun c k => c == 2 && (24 ≤ k && k ≤ 27)
theorem e_Sha_lay (κ : Nat → Int32) (P : List (Nat → Int32)) (σ : Sg) (c i : Nat) (hκ : σ.2.2.1 1 = κ) (h5 : σ.2.2.2.2 5 = c) (hc : c < 2) (hP : RowsC σ (31 + 8 * c) P) (h8 : P.length ≤ 8) (hi : i < P.length) (hw : 256 ≤ (P.getD i (fun _ => 0) 3).toInt) (hL : LaidC κ P i σ) :
    ∃ σ', F_Sha_lay σ (Int32.ofNat i) = some σ' ∧ Fr pLy σ σ' ∧ LaidC κ P (i + 1) σ' := by
  have hA : ∀ k, k < 32 → σ.2.2.1 (31 + 8 * c + i) k = P.getD i (fun _ => 0) k := fun k hk => hP i hi k hk
  generalize hAg : P.getD i (fun _ => 0) = A at *
  have hw0 : 0 < A 3 := by rw [Int32.lt_iff_toInt_lt, show (0 : Int32).toInt = 0 from rfl]; omega
  have hwz : ¬ A 3 = 0 := by intro h; rw [h] at hw; exact absurd hw (by decide)
  have hwz64 := ext_ne (A 3) hwz
  have sh : ∀ v : Int32, F_Sha_shifted v (A 3) = some (fdiv (v.toInt64 * 65536) (A 3).toInt64 + 65536) := fun v => by unfold F_Sha_shifted; rw [ck_pos hwz64]
  have n24 : ∀ X, 31 + 8 * c + i ≠ X ∨ 31 ≤ X ∨ True := fun _ => Or.inr (Or.inr trivial)
  have ne : ∀ k, 24 ≤ k → k ≤ 27 → ¬ (31 + 8 * c + i = k) := fun k h1 h2 => by omega
  unfold F_Sha_lay F_Sha_laid F_Sha_scaled
  simp only [lt, h5, ck_pos hc, ck_pos (n_inb i 8 (by omega) (by omega)), n_nat i (by omega), ck_pos (show 31 + 8 * c + i < 47 by omega), lenC_sA, lenC32 σ (31 + 8 * c + i) (by omega) (by omega), ck_pos (show inb 3 32 by decide), ck_pos (show inb 0 32 by decide), ck_pos (show inb 1 32 by decide), ck_pos (show inb 2 32 by decide), sA_3, if_neg (ne 24 (by omega) (by omega)), if_neg (ne 25 (by omega) (by omega)), hA 0 (by omega), hA 1 (by omega), hA 2 (by omega), hA 3 (by omega), if_pos hw0, sh, bd_def, e_within64, ck_pos hwz, Nat.reduceEqDiff, reduceIte, hκ]
  refine ⟨_, rfl, fr_sA (fr_sA (fr_sA (fr_sA Fr.rfl _ _ (by decide)) _ _ (by decide)) _ _ (by decide)) _ _ (by decide), fun j hj => ?_⟩
  simp only [sA_3, Nat.reduceEqDiff, reduceIte]
  by_cases e : j = i
  · subst e
    rw [hAg, upd_eq, upd_eq, upd_eq, upd_eq]
    exact ⟨rfl, rfl, rfl, rfl⟩
  · rw [upd_ne _ _ _ _ e, upd_ne _ _ _ _ e, upd_ne _ _ _ _ e, upd_ne _ _ _ _ e]
    exact hL j (by omega)
theorem e_layAll (κ : Nat → Int32) (P : List (Nat → Int32)) (σ : Sg) (c : Nat) (hκ : σ.2.2.1 1 = κ) (h5 : σ.2.2.2.2 5 = c) (h16 : σ.1 16 = Int32.ofNat P.length) (hc : c < 2) (hP : RowsC σ (31 + 8 * c) P) (h8 : P.length ≤ 8) (hw : ∀ j, j < P.length → 256 ≤ (P.getD j (fun _ => 0) 3).toInt) :
    ∃ σ', F_Sha_layAll σ = some σ' ∧ Fr pLy σ σ' ∧ LaidC κ P P.length σ' := by
  have key : ∀ d i, P.length = i + d → ∀ n, d < n → ∀ τ, Fr pLy σ τ → LaidC κ P i τ → ∃ σ', L_Sha_layAll_2 n τ (Int32.ofNat i) = some σ' ∧ Fr pLy σ σ' ∧ LaidC κ P P.length σ' := by
    intro d
    induction d with
    | zero =>
      intro i hi n hn τ hF hL
      obtain ⟨n, rfl⟩ : ∃ x, n = x + 1 := ⟨n - 1, by omega⟩
      have : i = P.length := by omega
      subst this
      rw [L_Sha_layAll_2, hF.1 _ (by decide), h16, if_pos (Int32.le_refl _)]
      exact ⟨τ, rfl, hF, hL⟩
    | succ d ih =>
      intro i hi n hn τ hF hL
      obtain ⟨n, rfl⟩ : ∃ x, n = x + 1 := ⟨n - 1, by omega⟩
      obtain ⟨σ', s1, s2, s3⟩ := e_Sha_lay κ P τ c i (by rw [hF.2.2.1 _ (by decide)]; exact hκ) (by rw [hF.2.2.2.2 _ (by decide)]; exact h5) hc (fun j hj k hk => by rw [hF.2.2.1 _ (by simp [pLy]; omega)]; exact hP j hj k hk) h8 (by omega) (hw i (by omega)) hL
      rw [L_Sha_layAll_2, hF.1 _ (by decide), h16, if_neg (by rw [n_le _ _ (by omega) (by omega)]; omega), s1, bd_def, lt_def, n_succ]
      exact ih (i + 1) (by omega) n (by omega) σ' (hF.trans s2) s3
  unfold F_Sha_layAll
  exact key P.length 0 (by omega) 100000 (by omega) σ Fr.rfl (fun j hj => by omega)
/-! the reference's -/
def VwRel (κ : Nat → Int32) (σ : Sg) : Prop := ∀ j, j < 6 → σ.2.2.1 36 j = κ j
def LaidM (κ : Nat → Int32) (P : List (Nat → Int32)) (m : Nat) (σ : Sg) : Prop := ∀ j, j < m → σ.2.2.1 39 (4 * j) = lxv (P.getD j (fun _ => 0) 0) (P.getD j (fun _ => 0) 3) (κ 0) (κ 2) ∧ σ.2.2.1 39 (4 * j + 1) = lxv (P.getD j (fun _ => 0) 1) (P.getD j (fun _ => 0) 3) (κ 1) (κ 3) ∧ σ.2.2.1 39 (4 * j + 2) = ldv (P.getD j (fun _ => 0) 2) (P.getD j (fun _ => 0) 3) (κ 4) (κ 5) ∧ σ.2.2.1 39 (4 * j + 3) = lnv (P.getD j (fun _ => 0) 3)
theorem c4n (c k : Nat) : (4 * Int32.ofNat c) + Int32.ofNat k = Int32.ofNat (4 * c + k) := by
  rw [show (4 : Int32) = Int32.ofNat 4 from rfl, n_mul, n_add]
theorem e_make48 (κ : Nat → Int32) (P : List (Nat → Int32)) (σ : Sg) (hV : VwRel κ σ) (hVO : VwOK κ) (h24 : σ.1 24 = Int32.ofNat P.length) (hP : RowsM σ 37 P) (h8 : P.length ≤ 8) (hw : ∀ j, j < P.length → 256 ≤ (P.getD j (fun _ => 0) 3).toInt) (h2 : P.length = 0 ∨ 2 ≤ P.length) :
    ∃ σ', L_Vwm_make_48 100000 σ 0 = some (σ', Int32.ofNat (P.length - 2)) ∧ Fr (fun c k => (c == 0 && k == 26) || (c == 2 && k == 39)) σ σ' ∧ LaidM κ P P.length σ' ∧ σ'.1 26 = Int32.ofNat (P.length - 2) := by
  have key : ∀ d i, P.length = i + d → ∀ n, d < n → ∀ τ, Fr (fun c k => (c == 0 && k == 26) || (c == 2 && k == 39)) σ τ → LaidM κ P i τ → ∃ σ', L_Vwm_make_48 n τ (Int32.ofNat i) = some (σ', Int32.ofNat (P.length - 2)) ∧ Fr (fun c k => (c == 0 && k == 26) || (c == 2 && k == 39)) σ σ' ∧ LaidM κ P P.length σ' ∧ σ'.1 26 = Int32.ofNat (P.length - 2) := by
    intro d
    induction d with
    | zero =>
      intro i hi n hn τ hF hL
      obtain ⟨n, rfl⟩ : ∃ x, n = x + 1 := ⟨n - 1, by omega⟩
      have : i = P.length := by omega
      subst this
      rw [L_Vwm_make_48, hF.1 24 (by decide), h24, if_pos (Int32.le_refl _)]
      unfold F_Vwm_make_224
      rcases h2 with h2 | h2
      · rw [if_pos (show Int32.ofNat P.length = 0 by rw [h2]; rfl), lt_def]
        refine ⟨sI τ 26 0, ?_, fr_sI hF 26 0 (by decide), hL, ?_⟩
        · rw [h2]; rfl
        · rw [h2]; rfl
      · have e2 : Int32.ofNat P.length - 2 = Int32.ofNat (P.length - 2) := i_subn P.length 2 h2
        rw [if_neg (show ¬ Int32.ofNat P.length = 0 from fun h => by have := (n_inj _ 0 (by omega) (by omega)).mp h; omega), e2, lt_def]
        exact ⟨_, rfl, fr_sI hF _ _ (by decide), hL, rfl⟩
    | succ d ih =>
      intro i hi n hn τ hF hL
      obtain ⟨n, rfl⟩ : ∃ x, n = x + 1 := ⟨n - 1, by omega⟩
      have hwi := hw i (by omega)
      have hA : ∀ k, k < 32 → τ.2.2.1 37 (32 * i + k) = P.getD i (fun _ => 0) k := fun k hk => by rw [hF.2.2.1 37 (by decide)]; exact hP i (by omega) k hk
      have hVτ : ∀ j, j < 6 → τ.2.2.1 36 j = κ j := fun j hj => by rw [hF.2.2.1 36 (by decide)]; exact hV j hj
      generalize hAg : P.getD i (fun _ => 0) = A at *
      have hwz : ¬ A 3 = 0 := by intro h; rw [h] at hwi; exact absurd hwi (by decide)
      have q0 : 32 * Int32.ofNat i = Int32.ofNat (32 * i) := by rw [show (32 : Int32) = Int32.ofNat 32 from rfl, n_mul]
      have q1 : Int32.ofNat (32 * i) + 1 = Int32.ofNat (32 * i + 1) := n_succ _
      have q2 : Int32.ofNat (32 * i) + 2 = Int32.ofNat (32 * i + 2) := by rw [show (2 : Int32) = Int32.ofNat 2 from rfl, n_add]
      have q3 : Int32.ofNat (32 * i) + 3 = Int32.ofNat (32 * i + 3) := by rw [show (3 : Int32) = Int32.ofNat 3 from rfl, n_add]
      have r0 : 4 * Int32.ofNat i = Int32.ofNat (4 * i) := by rw [show (4 : Int32) = Int32.ofNat 4 from rfl, n_mul]
      have r1 : Int32.ofNat (4 * i) + 1 = Int32.ofNat (4 * i + 1) := n_succ _
      have r2 : Int32.ofNat (4 * i) + 2 = Int32.ofNat (4 * i + 2) := by rw [show (2 : Int32) = Int32.ofNat 2 from rfl, n_add]
      have r3 : Int32.ofNat (4 * i) + 3 = Int32.ofNat (4 * i + 3) := by rw [show (3 : Int32) = Int32.ofNat 3 from rfl, n_add]
      have A0 : τ.2.2.1 37 (32 * i) = A 0 := hA 0 (by omega)
      rw [L_Vwm_make_48, hF.1 24 (by decide), h24, if_neg (by rw [n_le _ _ (by omega) (by omega)]; omega)]
      unfold F_Vwm_make_199
      have hv : VwOK κ := hVO
      obtain ⟨w0, w1, w2, w3, w4, w5⟩ := hv
      simp only [q0, q1, q2, q3, r0, r1, r2, r3, lt, ck_pos (n_inb (32 * i + 3) 256 (by omega) (by omega)), ck_pos (n_inb (32 * i) 256 (by omega) (by omega)), ck_pos (n_inb (32 * i + 1) 256 (by omega) (by omega)), ck_pos (n_inb (32 * i + 2) 256 (by omega) (by omega)), n_nat (32 * i + 3) (by omega), n_nat (32 * i) (by omega), n_nat (32 * i + 1) (by omega), n_nat (32 * i + 2) (by omega), sA_3, Nat.reduceEqDiff, reduceIte, hA 1 (by omega), hA 2 (by omega), hA 3 (by omega), A0, hVτ 0 (by omega), hVτ 1 (by omega), hVτ 2 (by omega), hVτ 3 (by omega), hVτ 4 (by omega), hVτ 5 (by omega), e_Vwm_lay _ (A 3) (κ 0) _ hwi w0, e_Vwm_lay _ (A 3) (κ 1) _ hwi w1, e_Vwm_depthOf _ (A 3) _ _ hwi, bd_def, ck_pos (n_inb (4 * i) 32 (by omega) (by omega)), ck_pos (n_inb (4 * i + 1) 32 (by omega) (by omega)), ck_pos (n_inb (4 * i + 2) 32 (by omega) (by omega)), ck_pos (n_inb (4 * i + 3) 32 (by omega) (by omega)), n_nat (4 * i) (by omega), n_nat (4 * i + 1) (by omega), n_nat (4 * i + 2) (by omega), n_nat (4 * i + 3) (by omega), ck_pos hwz, n_succ, sA_sA]
      have eq : ∀ X : Int32 → Option (Sg × Int32), (if 1 ≤ 1073741824 / A 3 then X (1073741824 / A 3) else X 1) = X (lnv (A 3)) := fun X => by
        unfold lnv imax
        by_cases c : 1 ≤ 1073741824 / A 3
        · rw [if_pos c, if_neg (show ¬ 1073741824 / A 3 < 1 by grind)]
        · rw [if_neg c, if_pos (show 1073741824 / A 3 < 1 by grind)]
      rw [eq (fun v => L_Vwm_make_48 n (sA τ 39 (upd (upd (upd (upd (τ.2.2.1 39) (4 * i) (lxv (A 0) (A 3) (κ 0) (κ 2))) (4 * i + 1) (lxv (A 1) (A 3) (κ 1) (κ 3))) (4 * i + 2) (ldv (A 2) (A 3) (κ 4) (κ 5))) (4 * i + 3) v)) (Int32.ofNat (i + 1)))]
      refine ih (i + 1) (by omega) n (by omega) _ (fr_sA hF _ _ (by decide)) (fun j hj => ?_)
      rw [sA_3, if_pos rfl]
      by_cases e : j = i
      · subst e
        rw [hAg]
        refine ⟨?_, ?_, ?_, ?_⟩
        · rw [upd_ne _ _ _ _ (by omega), upd_ne _ _ _ _ (by omega), upd_ne _ _ _ _ (by omega), upd_eq]
        · rw [upd_ne _ _ _ _ (by omega), upd_ne _ _ _ _ (by omega), upd_eq]
        · rw [upd_ne _ _ _ _ (by omega), upd_eq]
        · rw [upd_eq]
      · have hh := hL j (by omega)
        refine ⟨?_, ?_, ?_, ?_⟩
        · rw [upd_ne _ _ _ _ (by omega), upd_ne _ _ _ _ (by omega), upd_ne _ _ _ _ (by omega), upd_ne _ _ _ _ (by omega)]; exact hh.1
        · rw [upd_ne _ _ _ _ (by omega), upd_ne _ _ _ _ (by omega), upd_ne _ _ _ _ (by omega), upd_ne _ _ _ _ (by omega)]; exact hh.2.1
        · rw [upd_ne _ _ _ _ (by omega), upd_ne _ _ _ _ (by omega), upd_ne _ _ _ _ (by omega), upd_ne _ _ _ _ (by omega)]; exact hh.2.2.1
        · rw [upd_ne _ _ _ _ (by omega), upd_ne _ _ _ _ (by omega), upd_ne _ _ _ _ (by omega), upd_ne _ _ _ _ (by omega)]; exact hh.2.2.2
  exact key P.length 0 (by omega) 100000 (by omega) σ Fr.rfl (fun j hj => by omega)
