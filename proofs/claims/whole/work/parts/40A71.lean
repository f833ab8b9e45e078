/-! which vertices -/
def trN (mode many : Nat) : Nat := if mode = 0 then many / 3 else many - 2
theorem e_triangles (mode many : Nat) (hm : mode ≤ 2) (h : many ≤ 4096) : F_Ver_triangles (Int32.ofNat mode) (Int32.ofNat many) = some (Int32.ofNat (trN mode many)) := by
  unfold F_Ver_triangles F_Ver_triangles_17 trN
  by_cases c : mode = 0
  · rw [if_pos (show Int32.ofNat mode = 0 by rw [c]; rfl), if_pos c, show (3 : Int32) = Int32.ofNat 3 from rfl, n_div _ _ (by omega) (by omega) (by omega)]
  · rw [if_neg (show ¬ Int32.ofNat mode = 0 from fun h => c ((n_inj _ 0 (by omega) (by omega)).mp h)), if_neg c]
    congr 1
    unfold imax
    by_cases d : many < 2
    · have : many = 0 ∨ many = 1 := by omega
      rcases this with rfl | rfl <;> rfl
    · have e : Int32.ofNat many - 2 = Int32.ofNat (many - 2) := by
        have : Int32.ofNat many = Int32.ofNat (many - 2) + Int32.ofNat 2 := by rw [n_add]; congr 1; omega
        rw [this]
        show Int32.ofNat (many - 2) + 2 - 2 = _
        grind
      rw [e, if_neg (show ¬ Int32.ofNat (many - 2) < 0 from fun h => by have := (n_lt _ 0 (by omega) (by omega)).mp h; omega)]
theorem e_Vwm_triangles (σ : Sg) (mode many : Nat) (hm : mode ≤ 2) (h : many ≤ 4096) : F_Vwm_triangles σ (Int32.ofNat mode) (Int32.ofNat many) = some (sI σ 21 0, Int32.ofNat (trN mode many)) := by
  have h2 : (0 ≤ Int32.ofNat mode ∧ Int32.ofNat mode ≤ 2) := ⟨(n_le 0 mode (by omega) (by omega)).mpr (by omega), (n_le mode 2 (by omega) (by omega)).mpr hm⟩
  unfold F_Vwm_triangles
  rw [e_Vwm_in, if_pos h2, bd_def, if_neg (by decide), if_pos (show 0 ≤ Int32.ofNat many from (n_le 0 many (by omega) (by omega)).mpr (by omega))]
  unfold F_Vwm_triangles_19 F_Vwm_triangles_50 trN
  rw [e_Vwm_refuse0, bd_def, if_pos rfl]
  by_cases c : mode = 0
  · rw [if_pos (show Int32.ofNat mode = 0 by rw [c]; rfl), if_pos c, show (3 : Int32) = Int32.ofNat 3 from rfl, n_div _ _ (by omega) (by omega) (by omega)]
  · rw [if_neg (show ¬ Int32.ofNat mode = 0 from fun h => c ((n_inj _ 0 (by omega) (by omega)).mp h)), if_neg c]
    by_cases d : 3 ≤ many
    · have e : Int32.ofNat many - 2 = Int32.ofNat (many - 2) := by
        have : Int32.ofNat many = Int32.ofNat (many - 2) + Int32.ofNat 2 := by rw [n_add]; congr 1; omega
        rw [this]
        show Int32.ofNat (many - 2) + 2 - 2 = _
        grind
      rw [if_pos (show 3 ≤ Int32.ofNat many from (n_le 3 many (by omega) (by omega)).mpr d), e]
    · rw [if_neg (show ¬ 3 ≤ Int32.ofNat many from fun h => by have := (n_le 3 many (by omega) (by omega)).mp h; omega)]
      have : many - 2 = 0 := by omega
      rw [this]; rfl
def ordN (mode t j : Nat) : Nat := if mode = 0 then 3 * t + j else if mode = 1 then (if t % 2 = 1 ∧ j < 2 then t + 1 - j else t + j) else if j = 0 then 0 else t + j
theorem i_subn (a b : Nat) (h : b ≤ a) : Int32.ofNat a - Int32.ofNat b = Int32.ofNat (a - b) := by
  have : Int32.ofNat a = Int32.ofNat (a - b) + Int32.ofNat b := by rw [n_add]; congr 1; omega
  rw [this]; grind
theorem e_orderOf (mode t j : Nat) (hm : mode ≤ 2) (ht : t ≤ 4096) (hj : j < 3) : F_Ver_orderOf (Int32.ofNat mode) (Int32.ofNat t) (Int32.ofNat j) = some (Int32.ofNat (ordN mode t j)) := by
  unfold F_Ver_orderOf F_Ver_orderOf_54 F_Ver_orderOf_57 F_Ver_orderOf_69 ordN
  have r2 : irem (Int32.ofNat t) 2 = Int32.ofNat (t % 2) := n_rem t 2 (by omega) (by omega) (by omega)
  have l1 : irem (Int32.ofNat t) 2 = 1 ↔ t % 2 = 1 := by rw [r2]; exact n_inj _ 1 (by omega) (by omega)
  have l2 : (2 : Int32) ≤ Int32.ofNat j ↔ 2 ≤ j := n_le 2 j (by omega) (by omega)
  have l0 : Int32.ofNat j = 0 ↔ j = 0 := n_inj j 0 (by omega) (by omega)
  have m0 : Int32.ofNat mode = 0 ↔ mode = 0 := n_inj mode 0 (by omega) (by omega)
  have m1 : Int32.ofNat mode = 1 ↔ mode = 1 := n_inj mode 1 (by omega) (by omega)
  have e3 : (3 * Int32.ofNat t) + Int32.ofNat j = Int32.ofNat (3 * t + j) := by rw [show (3 : Int32) = Int32.ofNat 3 from rfl, n_mul, n_add]
  simp only [m0, m1, l0, l1, l2, e3, n_add, n_succ]
  by_cases c0 : mode = 0
  · rw [if_pos c0, if_pos c0]
  · rw [if_neg c0, if_neg c0]
    by_cases c1 : mode = 1
    · rw [if_pos c1, if_pos c1]
      by_cases d : t % 2 = 1
      · rw [if_pos d]
        by_cases e : 2 ≤ j
        · rw [if_pos e, if_neg (by omega)]
        · rw [if_neg e, if_pos ⟨d, by omega⟩, i_subn _ _ (by omega)]
      · rw [if_neg d, if_neg (by omega)]
    · rw [if_neg c1, if_neg c1]
      by_cases d : j = 0
      · rw [if_pos d, if_pos d]; rfl
      · rw [if_neg d, if_neg d]
theorem e_Vwm_corner (σ : Sg) (mode t j : Nat) (hm : mode ≤ 2) (ht : t ≤ 4096) (hj : j < 3) : F_Vwm_corner σ (Int32.ofNat mode) (Int32.ofNat t) (Int32.ofNat j) = some (sI σ 21 0, Int32.ofNat (ordN mode t j)) := by
  have h2 : (0 ≤ Int32.ofNat mode ∧ Int32.ofNat mode ≤ 2) := ⟨(n_le 0 mode (by omega) (by omega)).mpr (by omega), (n_le mode 2 (by omega) (by omega)).mpr hm⟩
  have h3 : (0 ≤ Int32.ofNat t ∧ Int32.ofNat t ≤ 100000000) := ⟨(n_le 0 t (by omega) (by omega)).mpr (by omega), (n_le t 100000000 (by omega) (by omega)).mpr (by omega)⟩
  have h4 : (0 ≤ Int32.ofNat j ∧ Int32.ofNat j ≤ 2) := ⟨(n_le 0 j (by omega) (by omega)).mpr (by omega), (n_le j 2 (by omega) (by omega)).mpr (by omega)⟩
  unfold F_Vwm_corner
  rw [e_Vwm_in, if_pos h2, bd_def, if_neg (by decide), e_Vwm_in, if_pos h3, bd_def, if_neg (by decide), e_Vwm_in, if_pos h4, bd_def, if_neg (by decide)]
  unfold F_Vwm_corner_34 F_Vwm_corner_86 F_Vwm_corner_87 F_Vwm_corner_69 F_Vwm_corner_105 ordN
  rw [e_Vwm_refuse0, bd_def, if_pos rfl]
  have r2 : irem (Int32.ofNat t) 2 = Int32.ofNat (t % 2) := n_rem t 2 (by omega) (by omega) (by omega)
  have l1 : irem (Int32.ofNat t) 2 = 1 ↔ t % 2 = 1 := by rw [r2]; exact n_inj _ 1 (by omega) (by omega)
  have l2 : (2 : Int32) ≤ Int32.ofNat j ↔ 2 ≤ j := n_le 2 j (by omega) (by omega)
  have l0 : Int32.ofNat j = 0 ↔ j = 0 := n_inj j 0 (by omega) (by omega)
  have m0 : Int32.ofNat mode = 0 ↔ mode = 0 := n_inj mode 0 (by omega) (by omega)
  have m2 : Int32.ofNat mode = 2 ↔ mode = 2 := n_inj mode 2 (by omega) (by omega)
  have e3 : (3 * Int32.ofNat t) + Int32.ofNat j = Int32.ofNat (3 * t + j) := by rw [show (3 : Int32) = Int32.ofNat 3 from rfl, n_mul, n_add]
  simp only [m0, m2, l0, l1, l2, e3, n_add, n_succ, if_true, if_neg (show ¬ (1 : Int32) = 0 by decide)]
  by_cases c0 : mode = 0
  · rw [if_pos c0, if_pos c0]
  · rw [if_neg c0, if_neg c0]
    by_cases c1 : mode = 2
    · rw [if_pos c1, if_neg (show ¬ mode = 1 by omega)]
      by_cases d : j = 0
      · rw [if_pos d, if_pos d]; rfl
      · rw [if_neg d, if_neg d]
    · rw [if_neg c1, if_pos (show mode = 1 by omega)]
      by_cases d : t % 2 = 1
      · rw [if_pos d]
        by_cases e : 2 ≤ j
        · rw [if_pos e, if_neg (by omega)]
        · rw [if_neg e, if_pos ⟨d, by omega⟩, i_subn _ _ (by omega)]
      · rw [if_neg d, if_neg (by omega)]
/-- the index of a vertex -/
def idxv (μ : Nat → Int32) (fr ty k : Nat) : Int32 := if ty = 0 then wd μ (Int64.ofNat (fr + k)) else if ty = 1 then Int32.ofNat (un (wd μ (Int64.ofNat (fr + k / 2))) / 2 ^ (16 * (k % 2)) % 65536) else Int32.ofNat (un (wd μ (Int64.ofNat (fr + k / 4))) / 2 ^ (8 * (k % 4)) % 256)
theorem e_index (σ : Sg) (fr ty k : Nat) (hf : fr ≤ 1048576) (ht : ty ≤ 2) (hk : k ≤ 100000) : F_Ver_index σ (Int32.ofNat fr) (Int32.ofNat ty) (Int32.ofNat k) = some (idxv (σ.2.2.1 0) fr ty k) ∧ F_Vwm_index σ (Int32.ofNat ty) (Int32.ofNat fr) (Int32.ofNat k) = some (sI σ 21 0, idxv (σ.2.2.1 0) fr ty k) := by
  have m0 : Int32.ofNat ty = 0 ↔ ty = 0 := n_inj ty 0 (by omega) (by omega)
  have m1 : Int32.ofNat ty = 1 ↔ ty = 1 := n_inj ty 1 (by omega) (by omega)
  have d2 : Int32.ofNat k / 2 = Int32.ofNat (k / 2) := n_div k 2 (by omega) (by omega) (by omega)
  have d4 : Int32.ofNat k / 4 = Int32.ofNat (k / 4) := n_div k 4 (by omega) (by omega) (by omega)
  have r2 : irem (Int32.ofNat k) 2 = Int32.ofNat (k % 2) := n_rem k 2 (by omega) (by omega) (by omega)
  have r4 : irem (Int32.ofNat k) 4 = Int32.ofNat (k % 4) := n_rem k 4 (by omega) (by omega) (by omega)
  constructor
  · unfold F_Ver_index idxv
    simp only [m0, m1, d2, d4, r2, r4, n_add, ln_ext (fr + k) (by omega), ln_ext (fr + k / 2) (by omega), ln_ext (fr + k / 4) (by omega), e_wordOf, bd_def, hfC _ (k % 2) (by omega), byC _ (k % 4) (by omega)]
    by_cases c0 : ty = 0
    · rw [if_pos c0, if_pos c0]
    · rw [if_neg c0, if_neg c0]
      by_cases c1 : ty = 1
      · rw [if_pos c1, if_pos c1]
      · rw [if_neg c1, if_neg c1]
  · have h2 : (0 ≤ Int32.ofNat ty ∧ Int32.ofNat ty ≤ 2) := ⟨(n_le 0 ty (by omega) (by omega)).mpr (by omega), (n_le ty 2 (by omega) (by omega)).mpr ht⟩
    unfold F_Vwm_index
    rw [if_neg (show ¬ Int32.ofNat fr < 0 from fun h => by have := (n_lt fr 0 (by omega) (by omega)).mp h; omega), if_neg (show ¬ Int32.ofNat k < 0 from fun h => by have := (n_lt k 0 (by omega) (by omega)).mp h; omega), e_Vwm_in, if_pos h2, bd_def, if_neg (by decide)]
    unfold F_Vwm_index_23 F_Vwm_index_88 F_Vwm_halfAt F_Vwm_byteAt idxv
    rw [e_Vwm_refuse0, bd_def, if_pos rfl]
    simp only [m0, m1, d2, d4, r2, r4, ln_ext fr (by omega), ln_ext k (by omega), ln_ext (k / 2) (by omega), ln_ext (k / 4) (by omega), ln_add, e_wordAt, bd_def, hfM _ (k % 2) (by omega), byM _ (k % 4) (by omega), sI_2]
    by_cases c0 : ty = 0
    · rw [if_pos c0, if_pos c0]
    · rw [if_neg c0, if_neg c0]
      by_cases c1 : ty = 1
      · rw [if_pos c1, if_pos c1]
      · rw [if_neg c1, if_neg c1]
