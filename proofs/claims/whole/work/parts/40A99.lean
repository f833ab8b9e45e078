/-! sides, and the triangles of a polygon -/
theorem e_area (P : List (Nat → Int32)) (c m : Nat) (σ τ : Sg) (a : Pol P c σ τ) (hm : m + 2 < P.length) : F_Vwm_areaOf (sI τ 21 0) (Int32.ofNat m) = some (Int64.ofInt (whl (pX (σ.2.2.1 1) P (m + 1)) (pY (σ.2.2.1 1) P (m + 1)))) := by
  have hl : 3 ≤ P.length ∧ P.length ≤ 6 := by have := a.len; omega
  obtain ⟨okX, okY, okD⟩ := pX_ok (σ.2.2.1 1) P (m + 1)
  obtain ⟨x0, y0, -, -⟩ := a.layM (ci (m + 1) 0) (ci_len _ m 0 hm (by omega))
  obtain ⟨x1, y1, -, -⟩ := a.layM (ci (m + 1) 1) (ci_len _ m 1 hm (by omega))
  obtain ⟨x2, y2, -, -⟩ := a.layM (ci (m + 1) 2) (ci_len _ m 2 hm (by omega))
  have c1 := ci_len _ m 1 hm (by omega)
  have c2 := ci_len _ m 2 hm (by omega)
  unfold F_Vwm_areaOf
  simp only [lt_def]
  rw [show F_Vwm_cornerOf (Int32.ofNat m) 1 = _ from e_cornerOf m 1 (by omega), bd_def, show F_Vwm_cornerOf (Int32.ofNat m) 2 = _ from e_cornerOf m 2 (by omega), bd_def,
    show (4 * Int32.ofNat (ci (m + 1) 1) : Int32) = Int32.ofNat (4 * ci (m + 1) 1) from n_mul 4 _, show (4 * Int32.ofNat (ci (m + 1) 2) : Int32) = Int32.ofNat (4 * ci (m + 1) 2) from n_mul 4 _, n_succ, n_succ,
    ck_pos (n_inb _ 32 (by omega) (by omega)), ck_pos (n_inb _ 32 (by omega) (by omega)), ck_pos (n_inb _ 32 (by omega) (by omega)), ck_pos (n_inb _ 32 (by omega) (by omega)), n_nat _ (by omega), n_nat _ (by omega), n_nat _ (by omega), n_nat _ (by omega)]
  show some ((((τ.2.2.1 39 (4 * ci (m + 1) 1)).toInt64 - (τ.2.2.1 39 (4 * ci (m + 1) 0)).toInt64) * ((τ.2.2.1 39 (4 * ci (m + 1) 2 + 1)).toInt64 - (τ.2.2.1 39 (4 * ci (m + 1) 0 + 1)).toInt64)) - (((τ.2.2.1 39 (4 * ci (m + 1) 2)).toInt64 - (τ.2.2.1 39 (4 * ci (m + 1) 0)).toInt64) * ((τ.2.2.1 39 (4 * ci (m + 1) 1 + 1)).toInt64 - (τ.2.2.1 39 (4 * ci (m + 1) 0 + 1)).toInt64))) = _
  rw [x0, x1, x2, y0, y1, y2]
  show some (((pX (σ.2.2.1 1) P (m + 1) 1).toInt64 - (pX (σ.2.2.1 1) P (m + 1) 0).toInt64) * ((pY (σ.2.2.1 1) P (m + 1) 2).toInt64 - (pY (σ.2.2.1 1) P (m + 1) 0).toInt64) - ((pX (σ.2.2.1 1) P (m + 1) 2).toInt64 - (pX (σ.2.2.1 1) P (m + 1) 0).toInt64) * ((pY (σ.2.2.1 1) P (m + 1) 1).toInt64 - (pY (σ.2.2.1 1) P (m + 1) 0).toInt64)) = _
  rw [lo_ext, lo_ext, lo_ext, lo_ext, lo_ext, lo_ext, lo_sub, lo_sub, lo_sub, lo_sub, lo_mul, lo_mul, lo_sub]
  unfold whl ed
  congr 2
  rw [Int.mul_comm ((pX (σ.2.2.1 1) P (m + 1) 2).toInt - _)]
theorem bits3 (u : Int32) (h : rg u 0 3) : ((((u >>> ((0 : Int32) &&& 31)) &&& 1 : Int32) = 1) ↔ ¬ (u &&& 1 : Int32) = 0) ∧ ((((u >>> ((1 : Int32) &&& 31)) &&& 1 : Int32) = 1) ↔ ¬ (u &&& 2 : Int32) = 0) := by
  obtain ⟨n, hn, rfl⟩ := rg_n (b := 3) h (by omega)
  have : n = 0 ∨ n = 1 ∨ n = 2 ∨ n = 3 := by omega
  rcases this with rfl | rfl | rfl | rfl <;> decide
theorem e_side (P : List (Nat → Int32)) (c m : Nat) (σ τ υ : Sg) (w h : Nat) (ω1 ω2 : Nat → Int32) (N1 N2 i1 i2 : Nat) (a : Pol P c σ τ) (dr : Drw σ τ w h ω1 ω2 N1 N2 i1 i2) (hm : m + 2 < P.length) (hυ : υ.2.2.1 1 = σ.2.2.1 1) :
    ∃ (σ' : Sg) (sd sh : Int32), F_Vwm_side τ (Int32.ofNat m) = some (sI τ 21 0, sd) ∧ F_Drw_shows υ (Int64.ofInt (whl (pX (σ.2.2.1 1) P (m + 1)) (pY (σ.2.2.1 1) P (m + 1)))) = some (σ', sh) ∧ Fr (fun c k => c == 0 && k == 17) υ σ' ∧
      ((sd = -1 ∧ sh = 0) ∨ (∃ n : Nat, n < 2 ∧ sd = Int32.ofNat n ∧ sh = 1 ∧ ((σ'.1 17 = 0) ↔ n = 1))) := by
  have hl : 3 ≤ P.length ∧ P.length ≤ 6 := by have := a.len; omega
  obtain ⟨okX, okY, okD⟩ := pX_ok (σ.2.2.1 1) P (m + 1)
  have hWb := whl_bd _ _ okX okY
  obtain ⟨n1, n2, n3, n4⟩ := lo_nn (whl (pX (σ.2.2.1 1) P (m + 1)) (pY (σ.2.2.1 1) P (m + 1))) (by omega) (by omega)
  obtain ⟨b0, b1⟩ := bits3 (σ.2.2.1 1 215) dr.far
  have eM : F_Vwm_side τ (Int32.ofNat m) = (if Int64.ofInt (whl (pX (σ.2.2.1 1) P (m + 1)) (pY (σ.2.2.1 1) P (m + 1))) ≤ 0 then F_Vwm_side_46 (sI τ 21 0) (Int64.ofInt (whl (pX (σ.2.2.1 1) P (m + 1)) (pY (σ.2.2.1 1) P (m + 1)))) 0 else F_Vwm_side_46 (sI τ 21 0) (Int64.ofInt (whl (pX (σ.2.2.1 1) P (m + 1)) (pY (σ.2.2.1 1) P (m + 1)))) 1) := by
    unfold F_Vwm_side
    rw [e_made P m τ hl hm a.made, bd_def, if_neg (by decide)]
    unfold F_Vwm_side_20
    rw [e_Vwm_refuse0, bd_def, if_pos rfl, e_area P c m σ τ a hm, bd_def]
  rw [eM]
  generalize Int64.ofInt (whl (pX (σ.2.2.1 1) P (m + 1)) (pY (σ.2.2.1 1) P (m + 1))) = W
  have e22 : (sI τ 21 0).1 22 = σ.2.2.1 1 215 := dr.fac
  have e23 : (sI τ 21 0).1 23 = if σ.2.2.1 1 216 = 1 then 1 else 0 := dr.fa2
  have k01 : ((0 : Int32) = 0 ∨ (0 : Int32) = 1) := Or.inl rfl
  have k11 : ((1 : Int32) = 0 ∨ (1 : Int32) = 1) := Or.inr rfl
  have z10 : ¬ (1 : Int32) = 0 := by decide
  have z01 : ¬ (0 : Int32) = 1 := by decide
  have s17 : ∀ v : Int32, (sI υ 17 v).1 17 = v := fun v => by rw [sI_1, if_pos rfl]
  have s1 : ∀ v : Int32, (sI υ 17 v).2.2.1 1 = σ.2.2.1 1 := fun v => hυ
  have f17 : ∀ v : Int32, Fr (fun c k => c == 0 && k == 17) υ (sI υ 17 v) := fun v => fr_sI Fr.rfl 17 v rfl
  unfold F_Drw_shows F_Drw_shows_15 F_Drw_shows_32 F_Drw_shows_40 F_Drw_shows_58 F_Drw_shows_82 F_Drw_shows_83 F_Vwm_side_46 F_Vwm_side_58 F_Vwm_side_79 F_Vwm_side_84 F_Vwm_side_97
  simp only [lt_def, s17, s1, hυ, e22, e23, ck_pos k01, ck_pos k11, if_true, if_neg z10, if_neg z01]
  -- four cases of the turning and the faces
  have fin : ∀ (v : Int32) (n : Nat) (bit : Int32), n < 2 → (v = 0 ↔ n = 1) → ((((σ.2.2.1 1 215 >>> (Int32.ofNat n &&& 31)) &&& 1 : Int32) = 1) ↔ ¬ (σ.2.2.1 1 215 &&& bit : Int32) = 0) → ∃ (σ' : Sg) (sd sh : Int32),
      (if W = 0 then some (sI τ 21 0, (-1 : Int32)) else if ((σ.2.2.1 1 215 >>> (Int32.ofNat n &&& 31)) &&& 1 : Int32) = 1 then some (sI τ 21 0, -1) else some (sI τ 21 0, Int32.ofNat n)) = some (sI τ 21 0, sd) ∧
      (if W = 0 then some (sI υ 17 v, (0 : Int32)) else if (σ.2.2.1 1 215 &&& bit : Int32) = 0 then some (sI υ 17 v, 1) else some (sI υ 17 v, 0)) = some (σ', sh) ∧ Fr (fun c k => c == 0 && k == 17) υ σ' ∧ ((sd = -1 ∧ sh = 0) ∨ (∃ n : Nat, n < 2 ∧ sd = Int32.ofNat n ∧ sh = 1 ∧ ((σ'.1 17 = 0) ↔ n = 1))) := by
    intro v n bit hn hv hb
    by_cases d : W = 0
    · rw [if_pos d, if_pos d]
      exact ⟨_, _, _, rfl, rfl, f17 v, Or.inl ⟨rfl, rfl⟩⟩
    · rw [if_neg d, if_neg d]
      by_cases e : (σ.2.2.1 1 215 &&& bit : Int32) = 0
      · rw [if_pos e, if_neg (fun x => (hb.mp x) e)]
        exact ⟨_, _, _, rfl, rfl, f17 v, Or.inr ⟨n, hn, rfl, rfl, by rw [s17]; exact hv⟩⟩
      · rw [if_neg e, if_pos (hb.mpr e)]
        exact ⟨_, _, _, rfl, rfl, f17 v, Or.inl ⟨rfl, rfl⟩⟩
  by_cases d : W ≤ 0
  · simp only [if_pos d]
    by_cases e : σ.2.2.1 1 216 = 1
    · simp only [if_pos e, if_neg z01, if_neg z10]
      exact fin 1 0 1 (by omega) (by decide) b0
    · simp only [if_neg e, if_true]
      exact fin 0 1 2 (by omega) (by decide) b1
  · simp only [if_neg d]
    by_cases e : σ.2.2.1 1 216 = 1
    · simp only [if_pos e, if_true]
      exact fin 0 1 2 (by omega) (by decide) b1
    · simp only [if_neg e, if_neg z10, if_neg z01]
      exact fin 1 0 1 (by omega) (by decide) b0
