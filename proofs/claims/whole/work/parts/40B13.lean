/-! places lie right, on both sides -/
theorem nx64 (k : Nat) (h : k < 2147483648) : (Int32.ofNat k).toInt64 = Int64.ofNat k := by
  apply Int64.toInt_inj.mp
  rw [l_ext, n_int k h, Int64.toInt_ofNat_of_lt (by omega)]
theorem m_i64 (k : Nat) (h : k < 9223372036854775808) : (Int64.ofNat k).toInt = (k : Int) := Int64.toInt_ofNat_of_lt (by omega)
theorem e_inMemM (x n : Nat) (hx : x < 100000000) (hn : n < 100000000) : F_Cmd_isInMemory (Int64.ofNat x) (Int64.ofNat n) = some (bI (decide (n = 0 ∨ x + n ≤ 4096))) := by
  unfold F_Cmd_isInMemory F_Cmd_isInMemory_16 F_Cmd_isInMemory_21
  have g0 : (Int64.ofNat n = 0) ↔ n = 0 := by
    rw [← Int64.toInt_inj, m_i64 n (by omega)]
    show ((n : Int) = 0) ↔ n = 0
    omega
  have g1 : ((4096 : Int64) < Int64.ofNat x + Int64.ofNat n) ↔ 4096 < x + n := by
    rw [← Int64.ofNat_add, Int64.lt_iff_toInt_lt, m_i64 _ (by omega)]
    show ((4096 : Int) < ((x + n : Nat) : Int)) ↔ _
    omega
  by_cases c : n = 0
  · rw [if_pos (g0.mpr c), decide_eq_true (Or.inl c)]; rfl
  · rw [if_neg (fun e => c (g0.mp e))]
    by_cases c2 : 4096 < x + n
    · rw [if_pos (g1.mpr c2), decide_eq_false (by omega)]; rfl
    · rw [if_neg (fun e => c2 (g1.mp e)), decide_eq_true (by omega)]; rfl
theorem e_inMemC (x n : Nat) (hx : x < 100000000) (hn : n < 100000000) : F_DM_inMemory (Int32.ofNat x) (Int32.ofNat n) = some (bI (decide (n = 0 ∨ x + n ≤ 4096))) := by
  unfold F_DM_inMemory F_DM_inMemory_13 F_DM_inMemory_18
  have g0 : (Int32.ofNat n = 0) ↔ n = 0 := n_inj n 0 (by omega) (by omega)
  have g1 : ((4096 : Int32) < Int32.ofNat x + Int32.ofNat n) ↔ 4096 < x + n := by rw [n_add]; exact n_lt 4096 (x + n) (by omega) (by omega)
  by_cases c : n = 0
  · rw [if_pos (g0.mpr c), decide_eq_true (Or.inl c)]; rfl
  · rw [if_neg (fun e => c (g0.mp e))]
    by_cases c2 : 4096 < x + n
    · rw [if_pos (g1.mpr c2), decide_eq_false (by omega)]; rfl
    · rw [if_neg (fun e => c2 (g1.mp e)), decide_eq_true (by omega)]; rfl
theorem lies_no (σ τ : Sg) (K : Nat) (hK : K < 26) (h : K ≠ 6 ∧ K ≠ 7 ∧ K ≠ 8 ∧ K ≠ 20 ∧ K ≠ 21 ∧ K ≠ 23) (hk : σ.1 3 = Int32.ofNat K) : F_DM_placesAreThere σ = some 1 ∧ F_Cmd_liesRight τ (Int32.ofNat K) = some 1 := by
  unfold F_DM_placesAreThere F_Cmd_liesRight
  rw [hk]
  have hKc : K = 0 ∨ K = 1 ∨ K = 2 ∨ K = 3 ∨ K = 4 ∨ K = 5 ∨ K = 9 ∨ K = 10 ∨ K = 11 ∨ K = 12 ∨ K = 13 ∨ K = 14 ∨ K = 15 ∨ K = 16 ∨ K = 17 ∨ K = 18 ∨ K = 19 ∨ K = 22 ∨ K = 24 ∨ K = 25 := by omega
  rcases hKc with rfl | rfl | rfl | rfl | rfl | rfl | rfl | rfl | rfl | rfl | rfl | rfl | rfl | rfl | rfl | rfl | rfl | rfl | rfl | rfl <;> exact ⟨rfl, rfl⟩
theorem lies_6 (σ τ : Sg) (a0 a1 a2 : Nat) (h0 : a0 ≤ 31) (h1 : a1 ≤ 32) (h2 : a2 ≤ 1048576) (hk : σ.1 3 = 6) (c0 : σ.2.2.1 5 0 = Int32.ofNat a0) (c1 : σ.2.2.1 5 1 = Int32.ofNat a1) (c2 : σ.2.2.1 5 2 = Int32.ofNat a2) (m0 : τ.2.2.1 3 0 = Int32.ofNat a0) (m1 : τ.2.2.1 3 1 = Int32.ofNat a1) (m2 : τ.2.2.1 3 2 = Int32.ofNat a2) :
    F_DM_placesAreThere σ = some (bI (decide (a0 + a1 ≤ 32 ∧ (4 * a1 = 0 ∨ a2 + 4 * a1 ≤ 4096)))) ∧ F_Cmd_liesRight τ 6 = some (bI (decide (a0 + a1 ≤ 32 ∧ (4 * a1 = 0 ∨ a2 + 4 * a1 ≤ 4096)))) := by
  unfold F_DM_placesAreThere F_Cmd_liesRight
  rw [hk, lt_def, lt_def, lt_def, if_pos rfl, if_pos rfl, c0, c1, c2, m0, m1, m2, nx64 a1 (by omega), nx64 a2 (by omega), n_add, show (4 * Int32.ofNat a1 : Int32) = Int32.ofNat (4 * a1) from n_mul 4 a1, show (4 * Int64.ofNat a1 : Int64) = Int64.ofNat (4 * a1) from (Int64.ofNat_mul 4 a1).symm, e_inMemC a2 (4 * a1) (by omega) (by omega), e_inMemM a2 (4 * a1) (by omega) (by omega), bd_def, bd_def]
  unfold F_DM_placesAreThere_130 F_DM_placesAreThere_131 F_Cmd_liesRight_132 F_Cmd_liesRight_133
  have g1 : ((32 : Int32) < Int32.ofNat (a0 + a1)) ↔ 32 < a0 + a1 := n_lt 32 _ (by omega) (by omega)
  by_cases c : 32 < a0 + a1
  · rw [if_pos (g1.mpr c), decide_eq_false (by omega)]; exact ⟨rfl, rfl⟩
  · rw [if_neg (fun e => c (g1.mp e))]
    by_cases c2 : 4 * a1 = 0 ∨ a2 + 4 * a1 ≤ 4096
    · rw [decide_eq_true c2, decide_eq_true ⟨by omega, c2⟩]; exact ⟨rfl, rfl⟩
    · rw [decide_eq_false c2, decide_eq_false (fun e => c2 e.2)]; exact ⟨rfl, rfl⟩
theorem lies_78 (σ τ : Sg) (K a0 a1 : Nat) (hK : K = 7 ∨ K = 8) (h0 : a0 ≤ 1048576) (h1 : a1 ≤ 256) (hk : σ.1 3 = Int32.ofNat K) (c0 : σ.2.2.1 5 0 = Int32.ofNat a0) (c1 : σ.2.2.1 5 1 = Int32.ofNat a1) (m0 : τ.2.2.1 3 0 = Int32.ofNat a0) (m1 : τ.2.2.1 3 1 = Int32.ofNat a1) :
    F_DM_placesAreThere σ = some (bI (decide (3 * a1 = 0 ∨ a0 + 3 * a1 ≤ 4096))) ∧ F_Cmd_liesRight τ (Int32.ofNat K) = some (bI (decide (3 * a1 = 0 ∨ a0 + 3 * a1 ≤ 4096))) := by
  have x1 : F_DM_placesAreThere_132 σ = some (bI (decide (3 * a1 = 0 ∨ a0 + 3 * a1 ≤ 4096))) := by
    unfold F_DM_placesAreThere_132
    rw [c0, c1, show (3 * Int32.ofNat a1 : Int32) = Int32.ofNat (3 * a1) from n_mul 3 a1, e_inMemC a0 (3 * a1) (by omega) (by omega), bd_def, bI_ck]
  have x2 : F_Cmd_liesRight_134 τ (τ.2.2.1 3 0) (τ.2.2.1 3 1) = some (bI (decide (3 * a1 = 0 ∨ a0 + 3 * a1 ≤ 4096))) := by
    unfold F_Cmd_liesRight_134
    rw [m0, m1, nx64 a1 (by omega), nx64 a0 (by omega), show (3 * Int64.ofNat a1 : Int64) = Int64.ofNat (3 * a1) from (Int64.ofNat_mul 3 a1).symm, e_inMemM a0 (3 * a1) (by omega) (by omega), bd_def, bI_ck]
  refine ⟨Eq.trans ?_ x1, Eq.trans ?_ x2⟩
  · unfold F_DM_placesAreThere
    rw [hk]
    rcases hK with rfl | rfl <;> rfl
  · unfold F_Cmd_liesRight
    rcases hK with rfl | rfl <;> rfl
theorem lies_20 (σ τ : Sg) (w h a0 a1 a2 a3 a4 : Nat) (hw : w ≤ 128) (hh : h ≤ 128) (h0 : a0 ≤ 127) (h1 : a1 ≤ 127) (h2 : a2 ≤ 128) (h3 : a3 ≤ 128) (h4 : a4 ≤ 1048576) (hk : σ.1 3 = 20) (e0 : σ.1 0 = Int32.ofNat w) (e1 : σ.1 1 = Int32.ofNat h) (f0 : τ.1 8 = Int32.ofNat w) (f1 : τ.1 9 = Int32.ofNat h)
    (c0 : σ.2.2.1 5 0 = Int32.ofNat a0) (c1 : σ.2.2.1 5 1 = Int32.ofNat a1) (c2 : σ.2.2.1 5 2 = Int32.ofNat a2) (c3 : σ.2.2.1 5 3 = Int32.ofNat a3) (c4 : σ.2.2.1 5 4 = Int32.ofNat a4) (m0 : τ.2.2.1 3 0 = Int32.ofNat a0) (m1 : τ.2.2.1 3 1 = Int32.ofNat a1) (m2 : τ.2.2.1 3 2 = Int32.ofNat a2) (m3 : τ.2.2.1 3 3 = Int32.ofNat a3) (m4 : τ.2.2.1 3 4 = Int32.ofNat a4) :
    F_DM_placesAreThere σ = some (bI (decide (a0 + a2 ≤ w ∧ a1 + a3 ≤ h ∧ (a2 * a3 = 0 ∨ a4 + a2 * a3 ≤ 4096)))) ∧ F_Cmd_liesRight τ 20 = some (bI (decide (a0 + a2 ≤ w ∧ a1 + a3 ≤ h ∧ (a2 * a3 = 0 ∨ a4 + a2 * a3 ≤ 4096)))) := by
  have hm : a2 * a3 ≤ 128 * 128 := Nat.mul_le_mul h2 h3
  have ih := e_inMemC a4 (a2 * a3) (by omega) (by omega)
  have im := e_inMemM a4 (a2 * a3) (by omega) (by omega)
  have y1 : F_DM_placesAreThere σ = (if (σ.1 0) < ((σ.2.2.1 5 0) + (σ.2.2.1 5 2)) then (F_DM_placesAreThere_198 σ) else (if (σ.1 1) < ((σ.2.2.1 5 1) + (σ.2.2.1 5 3)) then (F_DM_placesAreThere_198 σ) else (bd (F_DM_inMemory (σ.2.2.1 5 4) ((σ.2.2.1 5 2) * (σ.2.2.1 5 3))) (fun o51 => if o51 = 0 then (F_DM_placesAreThere_198 σ) else (F_DM_placesAreThere_199 σ 1))))) := by
    unfold F_DM_placesAreThere
    rw [hk]; rfl
  have y2 : F_Cmd_liesRight τ 20 = (if (τ.1 8) < ((τ.2.2.1 3 0) + (τ.2.2.1 3 2)) then (F_Cmd_liesRight_210 τ) else (if (τ.1 9) < ((τ.2.2.1 3 1) + (τ.2.2.1 3 3)) then (F_Cmd_liesRight_210 τ) else (bd (F_Cmd_isInMemory ((τ.2.2.1 3 4).toInt64) (((τ.2.2.1 3 2).toInt64) * ((τ.2.2.1 3 3).toInt64))) (fun o53 => if o53 = (0 : Int32) then (F_Cmd_liesRight_210 τ) else (F_Cmd_liesRight_211 τ 1))))) := rfl
  rw [y1, y2, c0, c1, c2, c3, c4, m0, m1, m2, m3, m4, e0, e1, f0, f1, n_add, n_add, n_mul, nx64 a2 (by omega), nx64 a3 (by omega), nx64 a4 (by omega), ← Int64.ofNat_mul, ih, im, bd_def, bd_def]
  unfold F_DM_placesAreThere_198 F_DM_placesAreThere_199 F_Cmd_liesRight_210 F_Cmd_liesRight_211
  have g1 : (Int32.ofNat w < Int32.ofNat (a0 + a2)) ↔ w < a0 + a2 := n_lt w _ (by omega) (by omega)
  have g2 : (Int32.ofNat h < Int32.ofNat (a1 + a3)) ↔ h < a1 + a3 := n_lt h _ (by omega) (by omega)
  by_cases d1 : w < a0 + a2
  · rw [if_pos (g1.mpr d1), decide_eq_false (fun e => by have := e.1; omega)]; exact ⟨rfl, rfl⟩
  rw [if_neg (fun e => d1 (g1.mp e))]
  by_cases d2 : h < a1 + a3
  · rw [if_pos (g2.mpr d2), decide_eq_false (fun e => by have := e.2.1; omega)]; exact ⟨rfl, rfl⟩
  rw [if_neg (fun e => d2 (g2.mp e))]
  by_cases d3 : a2 * a3 = 0 ∨ a4 + a2 * a3 ≤ 4096
  · rw [decide_eq_true d3, decide_eq_true ⟨by omega, by omega, d3⟩]; exact ⟨rfl, rfl⟩
  · rw [decide_eq_false d3, decide_eq_false (fun e => d3 e.2.2)]; exact ⟨rfl, rfl⟩
theorem lies_21 (σ τ : Sg) (a0 a1 : Nat) (h0 : a0 ≤ 1048576) (h1 : a1 ≤ 256) (hk : σ.1 3 = 21) (c0 : σ.2.2.1 5 0 = Int32.ofNat a0) (c1 : σ.2.2.1 5 1 = Int32.ofNat a1) (m0 : τ.2.2.1 3 0 = Int32.ofNat a0) (m1 : τ.2.2.1 3 1 = Int32.ofNat a1) :
    F_DM_placesAreThere σ = some (bI (decide (a1 = 0 ∨ a0 + a1 ≤ 4096))) ∧ F_Cmd_liesRight τ 21 = some (bI (decide (a1 = 0 ∨ a0 + a1 ≤ 4096))) := by
  have y1 : F_DM_placesAreThere σ = (bd (F_DM_inMemory (σ.2.2.1 5 0) (σ.2.2.1 5 1)) (fun o53 => ck (o53 = 0 ∨ o53 = 1) (some o53))) := by
    unfold F_DM_placesAreThere
    rw [hk]; rfl
  have y2 : F_Cmd_liesRight τ 21 = (bd (F_Cmd_isInMemory (τ.2.2.1 3 0).toInt64 (τ.2.2.1 3 1).toInt64) (fun o55 => ck (o55 = 0 ∨ o55 = 1) (some o55))) := rfl
  rw [y1, y2, c0, c1, m0, m1, nx64 a0 (by omega), nx64 a1 (by omega), e_inMemC a0 a1 (by omega) (by omega), e_inMemM a0 a1 (by omega) (by omega), bd_def, bI_ck]
  exact ⟨rfl, rfl⟩
theorem lies_23 (σ τ : Sg) (a0 : Nat) (h0 : a0 ≤ 1048576) (hk : σ.1 3 = 23) (c0 : σ.2.2.1 5 0 = Int32.ofNat a0) (m0 : τ.2.2.1 3 0 = Int32.ofNat a0) :
    F_DM_placesAreThere σ = some (bI (decide (a0 < 4096))) ∧ F_Cmd_liesRight τ 23 = some (bI (decide (a0 < 4096))) := by
  have y1 : F_DM_placesAreThere σ = (bd (F_DM_inMemory (σ.2.2.1 5 0) 1) (fun o53 => ck (o53 = 0 ∨ o53 = 1) (some o53))) := by
    unfold F_DM_placesAreThere
    rw [hk]; rfl
  have y2 : F_Cmd_liesRight τ 23 = (if (4096 : Int32) ≤ τ.2.2.1 3 0 then (F_Cmd_liesRight_233 τ 0) else (F_Cmd_liesRight_233 τ 1)) := rfl
  rw [y1, y2, c0, m0, show F_DM_inMemory (Int32.ofNat a0) 1 = _ from e_inMemC a0 1 (by omega) (by omega), bd_def, bI_ck]
  by_cases c : a0 < 4096
  · rw [if_neg (fun e : (4096 : Int32) ≤ Int32.ofNat a0 => absurd ((n_le 4096 a0 (by omega) (by omega)).mp e) (by omega)), decide_eq_true c, decide_eq_true (by omega)]; exact ⟨rfl, rfl⟩
  · rw [if_pos (show (4096 : Int32) ≤ Int32.ofNat a0 from (n_le 4096 a0 (by omega) (by omega)).mpr (by omega)), decide_eq_false c, decide_eq_false (by omega)]; exact ⟨rfl, rfl⟩
