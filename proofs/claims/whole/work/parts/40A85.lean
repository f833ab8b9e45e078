/-! blending -/
theorem by_fac (n : Nat) (h : n < 256) : (255 - Int32.ofNat n : Int32) = Int32.ofNat (255 - n) := i_subn 255 n (by omega)
theorem byt_eq (x : Int32) (k : Nat) : byt x k = Int32.ofNat (bn x k) := rfl
theorem imin_n (a b : Nat) (ha : a < 1000) (hb : b < 1000) : imin (Int32.ofNat a) (Int32.ofNat b) = Int32.ofNat (min a b) := by
  unfold imin
  by_cases c : b < a
  · rw [if_pos ((n_lt b a (by omega) (by omega)).mpr c), Nat.min_eq_right (by omega)]
  · rw [if_neg (fun h => c ((n_lt b a (by omega) (by omega)).mp h)), Nat.min_eq_left (by omega)]
theorem imax_n (a b : Nat) (ha : a < 1000) (hb : b < 1000) : imax (Int32.ofNat a) (Int32.ofNat b) = Int32.ofNat (max a b) := by
  unfold imax
  by_cases c : a < b
  · rw [if_pos ((n_lt a b (by omega) (by omega)).mpr c), Nat.max_eq_right (by omega)]
  · rw [if_neg (fun h => c ((n_lt a b (by omega) (by omega)).mp h)), Nat.max_eq_left (by omega)]
def Blo (σ τ : Sg) (s d : Int32) : Prop := (∀ j, j < 4 → τ.2.2.1 53 j = byt s j) ∧ (∀ j, j < 4 → τ.2.2.1 54 j = byt d j) ∧ (∀ j, j < 4 → τ.2.2.1 51 j = byt (σ.2.2.1 1 212) j)
theorem Blo.s {σ τ : Sg} {s d : Int32} (a_ : Blo σ τ s d) : ∀ j, j < 4 → τ.2.2.1 53 j = byt s j := a_.1
theorem Blo.d {σ τ : Sg} {s d : Int32} (a_ : Blo σ τ s d) : ∀ j, j < 4 → τ.2.2.1 54 j = byt d j := a_.2.1
theorem Blo.c {σ τ : Sg} {s d : Int32} (a_ : Blo σ τ s d) : ∀ j, j < 4 → τ.2.2.1 51 j = byt (σ.2.2.1 1 212) j := a_.2.2
theorem e_factor (σ τ : Sg) (s d : Int32) (h : Blo σ τ s d) (m k : Nat) (hm : m ≤ 14) (hk : k < 4) :
    ∃ r : Nat, r < 256 ∧ F_Pic_factor σ (Int32.ofNat m) (Int32.ofNat k) s d = some (Int32.ofNat r) ∧ F_Ptm_factor τ (Int32.ofNat m) (Int32.ofNat k) = some (Int32.ofNat r) := by
  have e1 := byt_u s k hk
  have e2 := byt_u d k hk
  have e3 := byt_u (σ.2.2.1 1 212) k hk
  have g3 := bn_lt s 3
  have gd3 := bn_lt d 3
  have gc3 := bn_lt (σ.2.2.1 1 212) 3
  have gk := bn_lt s k
  have gdk := bn_lt d k
  have gck := bn_lt (σ.2.2.1 1 212) k
  have hkk := n_inb k 4 hk (by omega)
  have hkn := n_nat k (by omega)
  have hM : m = 0 ∨ m = 1 ∨ m = 2 ∨ m = 3 ∨ m = 4 ∨ m = 5 ∨ m = 6 ∨ m = 7 ∨ m = 8 ∨ m = 9 ∨ m = 10 ∨ m = 11 ∨ m = 12 ∨ m = 13 ∨ m = 14 := by omega
  rcases hM with rfl | rfl | rfl | rfl | rfl | rfl | rfl | rfl | rfl | rfl | rfl | rfl | rfl | rfl | rfl
  · exact ⟨0, by omega, rfl, rfl⟩
  · exact ⟨255, by omega, rfl, rfl⟩
  · refine ⟨bn s k, gk, ?_, ?_⟩
    · show some ((ushr s (8 * Int32.ofNat k)) &&& 255) = _
      rw [e1]; rfl
    · show ck (inb (Int32.ofNat k) 4) (some (τ.2.2.1 53 (Int32.ofNat k).toNatClampNeg)) = _
      rw [ck_pos hkk, hkn, h.s k hk]; rfl
  · refine ⟨255 - bn s k, by omega, ?_, ?_⟩
    · show some (255 - ((ushr s (8 * Int32.ofNat k)) &&& 255)) = _
      rw [e1, byt_eq, by_fac _ gk]
    · show ck (inb (Int32.ofNat k) 4) (some (255 - τ.2.2.1 53 (Int32.ofNat k).toNatClampNeg)) = _
      rw [ck_pos hkk, hkn, h.s k hk, byt_eq, by_fac _ gk]
  · refine ⟨bn d k, gdk, ?_, ?_⟩
    · show some ((ushr d (8 * Int32.ofNat k)) &&& 255) = _
      rw [e2]; rfl
    · show ck (inb (Int32.ofNat k) 4) (some (τ.2.2.1 54 (Int32.ofNat k).toNatClampNeg)) = _
      rw [ck_pos hkk, hkn, h.d k hk]; rfl
  · refine ⟨255 - bn d k, by omega, ?_, ?_⟩
    · show some (255 - ((ushr d (8 * Int32.ofNat k)) &&& 255)) = _
      rw [e2, byt_eq, by_fac _ gdk]
    · show ck (inb (Int32.ofNat k) 4) (some (255 - τ.2.2.1 54 (Int32.ofNat k).toNatClampNeg)) = _
      rw [ck_pos hkk, hkn, h.d k hk, byt_eq, by_fac _ gdk]
  · refine ⟨bn s 3, g3, ?_, ?_⟩
    · show some (ushr s 24) = _
      rw [byt_3]; rfl
    · show some (τ.2.2.1 53 3) = _
      rw [h.s 3 (by omega)]; rfl
  · refine ⟨255 - bn s 3, by omega, ?_, ?_⟩
    · show some (255 - ushr s 24) = _
      rw [byt_3, byt_eq, by_fac _ g3]
    · show some (255 - τ.2.2.1 53 3) = _
      rw [h.s 3 (by omega), byt_eq, by_fac _ g3]
  · refine ⟨bn d 3, gd3, ?_, ?_⟩
    · show some (ushr d 24) = _
      rw [byt_3]; rfl
    · show some (τ.2.2.1 54 3) = _
      rw [h.d 3 (by omega)]; rfl
  · refine ⟨255 - bn d 3, by omega, ?_, ?_⟩
    · show some (255 - ushr d 24) = _
      rw [byt_3, byt_eq, by_fac _ gd3]
    · show some (255 - τ.2.2.1 54 3) = _
      rw [h.d 3 (by omega), byt_eq, by_fac _ gd3]
  · refine ⟨bn (σ.2.2.1 1 212) k, gck, ?_, ?_⟩
    · show some ((ushr (σ.2.2.1 1 212) (8 * Int32.ofNat k)) &&& 255) = _
      rw [e3]; rfl
    · show ck (inb (Int32.ofNat k) 4) (some (τ.2.2.1 51 (Int32.ofNat k).toNatClampNeg)) = _
      rw [ck_pos hkk, hkn, h.c k hk]; rfl
  · refine ⟨255 - bn (σ.2.2.1 1 212) k, by omega, ?_, ?_⟩
    · show some (255 - ((ushr (σ.2.2.1 1 212) (8 * Int32.ofNat k)) &&& 255)) = _
      rw [e3, byt_eq, by_fac _ gck]
    · show ck (inb (Int32.ofNat k) 4) (some (255 - τ.2.2.1 51 (Int32.ofNat k).toNatClampNeg)) = _
      rw [ck_pos hkk, hkn, h.c k hk, byt_eq, by_fac _ gck]
  · refine ⟨bn (σ.2.2.1 1 212) 3, gc3, ?_, ?_⟩
    · show some (ushr (σ.2.2.1 1 212) 24) = _
      rw [byt_3]; rfl
    · show some (τ.2.2.1 51 3) = _
      rw [h.c 3 (by omega)]; rfl
  · refine ⟨255 - bn (σ.2.2.1 1 212) 3, by omega, ?_, ?_⟩
    · show some (255 - ushr (σ.2.2.1 1 212) 24) = _
      rw [byt_3, byt_eq, by_fac _ gc3]
    · show some (255 - τ.2.2.1 51 3) = _
      rw [h.c 3 (by omega), byt_eq, by_fac _ gc3]
  · by_cases c : k = 3
    · subst c
      exact ⟨255, by omega, rfl, rfl⟩
    · have c3 : ¬ Int32.ofNat k = 3 := fun e => c ((n_inj k 3 (by omega) (by omega)).mp e)
      refine ⟨min (bn s 3) (255 - bn d 3), by omega, ?_, ?_⟩
      · show (if Int32.ofNat k = 3 then some 255 else some (imin (ushr s 24) (255 - ushr d 24))) = _
        rw [if_neg c3, byt_3, byt_3, byt_eq, byt_eq, by_fac _ gd3, imin_n _ _ (by omega) (by omega)]
      · show (if Int32.ofNat k = 3 then some 255 else if (255 - τ.2.2.1 54 3) ≤ τ.2.2.1 53 3 then some (255 - τ.2.2.1 54 3) else some (τ.2.2.1 53 3)) = _
        rw [if_neg c3, h.d 3 (by omega), h.s 3 (by omega), byt_eq, byt_eq, by_fac _ gd3]
        by_cases c : 255 - bn d 3 ≤ bn s 3
        · rw [if_pos ((n_le _ _ (by omega) (by omega)).mpr c), Nat.min_eq_right c]
        · rw [if_neg (fun e => c ((n_le _ _ (by omega) (by omega)).mp e)), Nat.min_eq_left (by omega)]
theorem nn_mul (a b : Nat) (ha : a < 256) (hb : b < 256) : (Int32.ofNat a * Int32.ofNat b).toInt = (a * b : Nat) ∧ a * b < 65026 := by
  have h : a * b ≤ 255 * 255 := Nat.mul_le_mul (by omega) (by omega)
  rw [n_mul, n_int _ (by omega)]
  exact ⟨rfl, by omega⟩
def Bls (σ τ : Sg) : Prop := (∀ j, j < 4 → τ.2.2.1 50 j = σ.2.2.1 1 (206 + j)) ∧ (∀ j, j < 4 → 0 ≤ (σ.2.2.1 1 (206 + j)).toInt ∧ (σ.2.2.1 1 (206 + j)).toInt ≤ 14) ∧ (τ.1 36 = σ.2.2.1 1 210) ∧ (τ.1 37 = σ.2.2.1 1 211)
theorem Bls.f {σ τ : Sg} (a_ : Bls σ τ) : ∀ j, j < 4 → τ.2.2.1 50 j = σ.2.2.1 1 (206 + j) := a_.1
theorem Bls.fr {σ τ : Sg} (a_ : Bls σ τ) : ∀ j, j < 4 → 0 ≤ (σ.2.2.1 1 (206 + j)).toInt ∧ (σ.2.2.1 1 (206 + j)).toInt ≤ 14 := a_.2.1
theorem Bls.e {σ τ : Sg} (a_ : Bls σ τ) : τ.1 36 = σ.2.2.1 1 210 := a_.2.2.1
theorem Bls.e2 {σ τ : Sg} (a_ : Bls σ τ) : τ.1 37 = σ.2.2.1 1 211 := a_.2.2.2
theorem e_blended (σ τ : Sg) (s d : Int32) (h : Blo σ τ s d) (g : Bls σ τ) (k : Nat) (hk : k < 4) :
    ∃ r : Nat, r < 256 ∧ F_Pic_blended σ (Int32.ofNat k) s d = some (Int32.ofNat r) ∧ F_Ptm_blended τ (Int32.ofNat k) = some (Int32.ofNat r) := by
  have hkk := n_inb k 4 hk (by omega)
  have hkn := n_nat k (by omega)
  have e1 := byt_u s k hk
  have e2 := byt_u d k hk
  have gk := bn_lt s k
  have gdk := bn_lt d k
  have c3 : (Int32.ofNat k = 3) ↔ k = 3 := n_inj k 3 (by omega) (by omega)
  have fin : ∀ (w : Int32) (a b : Nat), a < 256 → b < 256 → ∃ r : Nat, r < 256 ∧
      (if w = 0 then (bd (F_Pic_by255 (byt s k * Int32.ofNat a + byt d k * Int32.ofNat b)) (fun o => some o)) else (if w = 1 then (bd (F_Pic_by255 (byt s k * Int32.ofNat a - byt d k * Int32.ofNat b)) (fun o => some o)) else (if w = 2 then (bd (F_Pic_by255 (byt d k * Int32.ofNat b - byt s k * Int32.ofNat a)) (fun o => some o)) else (if w = 3 then (some (imin (byt s k) (byt d k))) else (some (imax (byt s k) (byt d k))))))) = some (Int32.ofNat r) ∧
      (if w = 0 then (bd (F_Ptm_nearest (byt s k * Int32.ofNat a + byt d k * Int32.ofNat b)) (fun o => some o)) else (if w = 1 then (bd (F_Ptm_nearest (byt s k * Int32.ofNat a - byt d k * Int32.ofNat b)) (fun o => some o)) else (if w = 2 then (bd (F_Ptm_nearest (byt d k * Int32.ofNat b - byt s k * Int32.ofNat a)) (fun o => some o)) else (if w = 3 then (if byt d k ≤ byt s k then some (byt d k) else some (byt s k)) else (if byt s k ≤ byt d k then some (byt d k) else some (byt s k)))))) = some (Int32.ofNat r) := by
    intro w a b ha hb
    obtain ⟨p1, p2⟩ := nn_mul _ a gk ha
    obtain ⟨q1, q2⟩ := nn_mul _ b gdk hb
    by_cases w0 : w = 0
    · simp only [if_pos w0]
      obtain ⟨r, r1, r2, r3⟩ := e_by255 (byt s k * Int32.ofNat a + byt d k * Int32.ofNat b) (by rw [i_add] <;> rw [byt_eq, byt_eq, p1, q1] <;> omega) (by rw [i_add] <;> rw [byt_eq, byt_eq, p1, q1] <;> omega)
      exact ⟨r, r1, by rw [r2]; rfl, by rw [r3]; rfl⟩
    simp only [if_neg w0]
    by_cases w1 : w = 1
    · simp only [if_pos w1]
      obtain ⟨r, r1, r2, r3⟩ := e_by255 (byt s k * Int32.ofNat a - byt d k * Int32.ofNat b) (by rw [i_sub] <;> rw [byt_eq, byt_eq, p1, q1] <;> omega) (by rw [i_sub] <;> rw [byt_eq, byt_eq, p1, q1] <;> omega)
      exact ⟨r, r1, by rw [r2]; rfl, by rw [r3]; rfl⟩
    simp only [if_neg w1]
    by_cases w2 : w = 2
    · simp only [if_pos w2]
      obtain ⟨r, r1, r2, r3⟩ := e_by255 (byt d k * Int32.ofNat b - byt s k * Int32.ofNat a) (by rw [i_sub] <;> rw [byt_eq, byt_eq, p1, q1] <;> omega) (by rw [i_sub] <;> rw [byt_eq, byt_eq, p1, q1] <;> omega)
      exact ⟨r, r1, by rw [r2]; rfl, by rw [r3]; rfl⟩
    simp only [if_neg w2]
    by_cases w3 : w = 3
    · simp only [if_pos w3]
      refine ⟨min (bn s k) (bn d k), by omega, by rw [byt_eq, byt_eq, imin_n _ _ (by omega) (by omega)], ?_⟩
      rw [byt_eq, byt_eq]
      by_cases c : bn d k ≤ bn s k
      · rw [if_pos ((n_le _ _ (by omega) (by omega)).mpr c), Nat.min_eq_right c]
      · rw [if_neg (fun e => c ((n_le _ _ (by omega) (by omega)).mp e)), Nat.min_eq_left (by omega)]
    simp only [if_neg w3]
    refine ⟨max (bn s k) (bn d k), by omega, by rw [byt_eq, byt_eq, imax_n _ _ (by omega) (by omega)], ?_⟩
    rw [byt_eq, byt_eq]
    by_cases c : bn s k ≤ bn d k
    · rw [if_pos ((n_le _ _ (by omega) (by omega)).mpr c), Nat.max_eq_right c]
    · rw [if_neg (fun e => c ((n_le _ _ (by omega) (by omega)).mp e)), Nat.max_eq_left (by omega)]
  have fa : ∀ j, j < 4 → ∃ r : Nat, r < 256 ∧ F_Pic_factor σ (σ.2.2.1 1 (206 + j)) (Int32.ofNat k) s d = some (Int32.ofNat r) ∧ F_Ptm_factor τ (τ.2.2.1 50 j) (Int32.ofNat k) = some (Int32.ofNat r) := by
    intro j hj
    obtain ⟨a, b⟩ := g.fr j hj
    rw [g.f j hj]
    obtain ⟨m, hm, e⟩ : ∃ m : Nat, m ≤ 14 ∧ σ.2.2.1 1 (206 + j) = Int32.ofNat m := ⟨(σ.2.2.1 1 (206 + j)).toInt.toNat, by omega, i_inj _ _ (by rw [n_int _ (by omega)]; omega)⟩
    rw [e]
    exact e_factor σ τ s d h m k hm hk
  by_cases c : k = 3
  · obtain ⟨a, a1, a2, a3⟩ := fa 2 (by omega)
    obtain ⟨b, b1, b2, b3⟩ := fa 3 (by omega)
    obtain ⟨r, r1, r2, r3⟩ := fin (σ.2.2.1 1 211) a b a1 b1
    refine ⟨r, r1, ?_, ?_⟩
    · simp only [F_Pic_blended_101, F_Pic_blended_10, F_Pic_blended, if_pos (c3.mpr c), e1, e2, lt_def]
      rw [ck_pos (by decide), show ((206 + 2 : Int32)).toNatClampNeg = 206 + 2 from rfl, a2, bd_def, ck_pos (by decide), show ((206 + 2 + 1 : Int32)).toNatClampNeg = 206 + 3 from rfl, b2, bd_def, ck_pos (by decide)]
      exact r2
    · simp only [F_Ptm_blended_188, F_Ptm_blended_157, F_Ptm_blended_27, F_Ptm_blended_10, F_Ptm_blended, if_pos (c3.mpr c), lt_def, ck_pos hkk, hkn, h.s k hk, h.d k hk, g.e2]
      rw [ck_pos (by decide), show ((2 : Int32)).toNatClampNeg = 2 from rfl, a3, bd_def, ck_pos (by decide), show ((2 + 1 : Int32)).toNatClampNeg = 3 from rfl, b3, bd_def]
      exact r3
  · obtain ⟨a, a1, a2, a3⟩ := fa 0 (by omega)
    obtain ⟨b, b1, b2, b3⟩ := fa 1 (by omega)
    obtain ⟨r, r1, r2, r3⟩ := fin (σ.2.2.1 1 210) a b a1 b1
    refine ⟨r, r1, ?_, ?_⟩
    · simp only [F_Pic_blended_101, F_Pic_blended_10, F_Pic_blended, if_neg (fun e => c (c3.mp e)), e1, e2, lt_def]
      rw [ck_pos (by decide), show ((206 + 0 : Int32)).toNatClampNeg = 206 + 0 from rfl, a2, bd_def, ck_pos (by decide), show ((206 + 0 + 1 : Int32)).toNatClampNeg = 206 + 1 from rfl, b2, bd_def, ck_pos (by decide)]
      exact r2
    · simp only [F_Ptm_blended_188, F_Ptm_blended_157, F_Ptm_blended_27, F_Ptm_blended_10, F_Ptm_blended, if_neg (fun e => c (c3.mp e)), lt_def, ck_pos hkk, hkn, h.s k hk, h.d k hk, g.e]
      rw [ck_pos (by decide), show ((0 : Int32)).toNatClampNeg = 0 from rfl, a3, bd_def, ck_pos (by decide), show ((0 + 1 : Int32)).toNatClampNeg = 1 from rfl, b3, bd_def]
      exact r3
