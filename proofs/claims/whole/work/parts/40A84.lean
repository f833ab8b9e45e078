/-! the tests' numbers, alike on both sides -/
theorem oneof8 (t : Int32) (h0 : 0 ≤ t.toInt) (h1 : t.toInt ≤ 7) : t = 0 ∨ t = 1 ∨ t = 2 ∨ t = 3 ∨ t = 4 ∨ t = 5 ∨ t = 6 ∨ t = 7 := by
  have : t.toInt = 0 ∨ t.toInt = 1 ∨ t.toInt = 2 ∨ t.toInt = 3 ∨ t.toInt = 4 ∨ t.toInt = 5 ∨ t.toInt = 6 ∨ t.toInt = 7 := by omega
  rcases this with h | h | h | h | h | h | h | h
  · exact Or.inl (i_inj _ _ h)
  · exact Or.inr (Or.inl (i_inj _ _ h))
  · exact Or.inr (Or.inr (Or.inl (i_inj _ _ h)))
  · exact Or.inr (Or.inr (Or.inr (Or.inl (i_inj _ _ h))))
  · exact Or.inr (Or.inr (Or.inr (Or.inr (Or.inl (i_inj _ _ h)))))
  · exact Or.inr (Or.inr (Or.inr (Or.inr (Or.inr (Or.inl (i_inj _ _ h))))))
  · exact Or.inr (Or.inr (Or.inr (Or.inr (Or.inr (Or.inr (Or.inl (i_inj _ _ h)))))))
  · exact Or.inr (Or.inr (Or.inr (Or.inr (Or.inr (Or.inr (Or.inr (i_inj _ _ h)))))))
theorem e_holds (t a b : Int32) (h0 : 0 ≤ t.toInt) (h1 : t.toInt ≤ 7) : ∃ v, F_Pic_holds t a b = some v ∧ F_Ptm_holds t a b = some v := by
  have f0 : ¬ (1 : Int32) = 0 := by decide
  rcases oneof8 t h0 h1 with rfl | rfl | rfl | rfl | rfl | rfl | rfl | rfl <;>
    simp (decide := true) only [F_Pic_holds_111, F_Pic_holds_100, F_Pic_holds_89, F_Pic_holds_78, F_Pic_holds_67, F_Pic_holds_56, F_Pic_holds, F_Ptm_holds_106, F_Ptm_holds_83, F_Ptm_holds_78, F_Ptm_holds_54, F_Ptm_holds_49, F_Ptm_holds_26, F_Ptm_holds_21, F_Ptm_holds, ck, true_or, or_true, if_true, ite_self, if_false]
  all_goals
    rcases Int32.lt_or_le a b with c | c
    · have c1 : ¬ b ≤ a := by grind
      have c2 : ¬ b < a := by grind
      have c3 : ¬ a = b := by grind
      have c4 : a ≤ b := by grind
      simp [c, c1, c2, c3, c4]
    · by_cases d : a = b
      · subst d
        have c1 : a ≤ a := by grind
        have c2 : ¬ a < a := by grind
        simp [c1, c2]
      · have c2 : b < a := by grind
        have c1 : ¬ a < b := by grind
        have c3 : ¬ a ≤ b := by grind
        have c4 : b ≤ a := by grind
        simp [c1, c2, c3, c4, d]
theorem holds_off (a b : Int32) : F_Pic_holds (-1) a b = some 1 := rfl
theorem nb (x : Int32) (h0 : 0 ≤ x.toInt) (h1 : x.toInt ≤ 255) : ∃ n : Nat, n < 256 ∧ x = Int32.ofNat n := by
  refine ⟨x.toInt.toNat, by omega, i_inj _ _ ?_⟩
  rw [n_int _ (by omega)]; omega
theorem neg255 (n : Nat) (h : n < 256) : ((Int32.ofNat n ^^^ (-1)) &&& 255 : Int32) = 255 - Int32.ofNat n := by
  revert n
  decide +kernel
theorem e_deed (d s v : Int32) (h0 : 0 ≤ d.toInt) (h1 : d.toInt ≤ 7) (hs0 : 0 ≤ s.toInt) (hs1 : s.toInt ≤ 255) (hv0 : 0 ≤ v.toInt) (hv1 : v.toInt ≤ 255) :
    ∃ r, F_Pic_afterDeed d s v = some r ∧ F_Ptm_deed d s v = some r ∧ 0 ≤ r.toInt ∧ r.toInt ≤ 255 := by
  have key : ∀ n : Nat, n < 256 → ∀ d ∈ [(0 : Int32), 1, 3, 4, 5, 6, 7], F_Pic_afterDeed d (Int32.ofNat n) 0 = F_Ptm_deed d (Int32.ofNat n) 0 ∧ (F_Pic_afterDeed d (Int32.ofNat n) 0).any (fun r => decide (0 ≤ r.toInt ∧ r.toInt ≤ 255)) = true := by
    decide +kernel
  obtain ⟨n, hn, rfl⟩ := nb s hs0 hs1
  by_cases c : d = 2
  · subst c
    exact ⟨v, rfl, rfl, hv0, hv1⟩
  · have hm : d ∈ [(0 : Int32), 1, 3, 4, 5, 6, 7] := by
      rcases oneof8 d h0 h1 with rfl | rfl | rfl | rfl | rfl | rfl | rfl | rfl <;> first | exact absurd rfl c | decide
    obtain ⟨k1, k2⟩ := key n hn d hm
    have i1 : F_Pic_afterDeed d (Int32.ofNat n) v = F_Pic_afterDeed d (Int32.ofNat n) 0 := by
      unfold F_Pic_afterDeed
      simp only [if_neg c]
    have i2 : F_Ptm_deed d (Int32.ofNat n) v = F_Ptm_deed d (Int32.ofNat n) 0 := by
      unfold F_Ptm_deed
      simp only [if_neg c]
    rw [i1, i2, ← k1]
    cases h : F_Pic_afterDeed d (Int32.ofNat n) 0 with
    | none => rw [h] at k2; cases k2
    | some r => rw [h] at k2; have k3 := of_decide_eq_true k2; exact ⟨r, rfl, rfl, k3.1, k3.2⟩
theorem e_by255 (v : Int32) (h0 : -70000 ≤ v.toInt) (h1 : v.toInt ≤ 140000) : ∃ r : Nat, r < 256 ∧ F_Pic_by255 v = some (Int32.ofNat r) ∧ F_Ptm_nearest v = some (Int32.ofNat r) := by
  simp only [F_Pic_by255_25, F_Pic_by255, F_Ptm_nearest_34, F_Ptm_nearest_19, F_Ptm_nearest]
  have g : ∀ w : Int32, 0 ≤ w.toInt → w.toInt ≤ 140000 → ((2 * w + 255) / 510 : Int32) = Int32.ofNat ((2 * w.toInt.toNat + 255) / 510) := by
    intro w a b
    apply i_inj
    have e1 : (2 * w : Int32).toInt = 2 * w.toInt := i_mul 2 w (by show _ ≤ 2 * w.toInt; omega) (by show 2 * w.toInt < _; omega)
    have e2 : (2 * w + 255 : Int32).toInt = 2 * w.toInt + 255 := by rw [i_add _ _ (by rw [e1]; show _ ≤ 2 * w.toInt + 255; omega) (by rw [e1]; show 2 * w.toInt + 255 < _; omega), e1]; rfl
    rw [i_div _ _ (by rw [e2]; omega), e2, n_int _ (by omega), show (510 : Int32).toInt = 510 from rfl, Int.tdiv_eq_ediv_of_nonneg (by omega)]
    omega
  have m : ∀ n : Nat, n < 1000 → imin (Int32.ofNat n) 255 = Int32.ofNat (min n 255) := by
    intro n hn
    unfold imin
    by_cases c : n ≤ 255
    · rw [if_neg (show ¬ 255 < Int32.ofNat n from fun h => absurd ((n_lt 255 n (by omega) (by omega)).mp h) (by omega)), Nat.min_eq_left c]
    · rw [if_pos (show 255 < Int32.ofNat n from (n_lt 255 n (by omega) (by omega)).mpr (by omega)), Nat.min_eq_right (by omega)]; rfl
  by_cases c : 0 < v
  · have c' : 0 < v.toInt := Int32.lt_iff_toInt_lt.mp c
    rw [if_pos c, if_pos (show (0 : Int32) ≤ v by grind), g v (by omega) h1, m _ (by omega)]
    refine ⟨_, ?_, rfl, ?_⟩
    · omega
    · by_cases d : (2 * v.toInt.toNat + 255) / 510 ≤ 255
      · rw [if_pos (show Int32.ofNat _ ≤ 255 from (n_le _ 255 (by omega) (by omega)).mpr d), Nat.min_eq_left d]
      · rw [if_neg (show ¬ Int32.ofNat _ ≤ 255 from fun h => d ((n_le _ 255 (by omega) (by omega)).mp h)), Nat.min_eq_right (by omega)]; rfl
  · rw [if_neg c]
    refine ⟨0, by omega, rfl, ?_⟩
    by_cases d : (0 : Int32) ≤ v
    · have : v = 0 := by grind
      subst this
      decide
    · rw [if_neg d]; rfl
theorem e_byteOf (v : Int32) : ∃ r : Nat, r < 256 ∧ F_Ptm_byteOf v = some (Int32.ofNat r) ∧ bd (F_DM_within v.toInt64 0 65536) (fun o => some (((255 * o + 32768) >>> 16 : Int32))) = some (Int32.ofNat r) := by
  simp only [F_Ptm_byteOf_20, F_Ptm_byteOf, F_DM_within_24, F_DM_within]
  have g : ∀ w : Int32, 0 ≤ w.toInt → w.toInt ≤ 65536 → (255 * w + 32768 : Int32) / 65536 = Int32.ofNat ((255 * w.toInt.toNat + 32768) / 65536) ∧ (255 * w + 32768 : Int32) >>> 16 = Int32.ofNat ((255 * w.toInt.toNat + 32768) / 65536) := by
    intro w a b
    have e1 : (255 * w : Int32).toInt = 255 * w.toInt := i_mul 255 w (by show _ ≤ 255 * w.toInt; omega) (by show 255 * w.toInt < _; omega)
    have e2 : (255 * w + 32768 : Int32).toInt = 255 * w.toInt + 32768 := by rw [i_add _ _ (by rw [e1]; show _ ≤ 255 * w.toInt + 32768; omega) (by rw [e1]; show 255 * w.toInt + 32768 < _; omega), e1]; rfl
    constructor
    · apply i_inj
      rw [i_div _ _ (by rw [e2]; omega), e2, n_int _ (by omega), show (65536 : Int32).toInt = 65536 from rfl, Int.tdiv_eq_ediv_of_nonneg (by omega)]
      omega
    · apply i_inj
      rw [show (16 : Int32) = Int32.ofNat 16 from rfl, b_sar _ 16 (by omega), e2, n_int _ (by omega)]
      omega
  have l1 : ((0 : Int32).toInt64 ≤ v.toInt64) ↔ (0 : Int32) ≤ v := by
    rw [Int64.le_iff_toInt_le, Int32.le_iff_toInt_le, l_ext, l_ext]
  have l2 : (v.toInt64 ≤ (65536 : Int32).toInt64) ↔ v ≤ (65536 : Int32) := by
    rw [Int64.le_iff_toInt_le, Int32.le_iff_toInt_le, l_ext, l_ext]
  have l3 : v.toInt64.toInt32 = v := by
    apply i_inj
    have := i_rng v
    rw [l_cut', l_ext] <;> rw [l_ext] <;> omega
  by_cases c : (0 : Int32) ≤ v
  · by_cases d : v ≤ 65536
    · have c' : 0 ≤ v.toInt := Int32.le_iff_toInt_le.mp c
      have d' : v.toInt ≤ 65536 := Int32.le_iff_toInt_le.mp d
      rw [if_pos c, if_pos d, if_pos (l1.mpr c), if_pos (l2.mpr d), l3, bd_def, (g v c' d').1, (g v c' d').2]
      exact ⟨_, by omega, rfl, rfl⟩
    · rw [if_pos c, if_neg d, if_pos (l1.mpr c), if_neg (fun h => d (l2.mp h)), bd_def]
      exact ⟨255, by omega, by decide, by decide⟩
  · rw [if_neg c, if_neg (fun h => c (l1.mp h)), bd_def]
    exact ⟨0, by omega, by decide, by decide⟩
theorem e_colourOf (σ : Sg) (a : Nat) (ha : a < 47) (hl : lenC σ a = 260) : ∃ c, F_Drw_colourOf σ a = some c ∧ ∀ k, k < 4 → F_Ptm_byteOf (σ.2.2.1 a (228 + k)) = some (byt c k) := by
  have hb := fun k : Nat => e_byteOf (σ.2.2.1 a (228 + k))
  let f : Nat → Nat := fun k => (hb k).choose
  have f1 : ∀ k, f k < 256 := fun k => (hb k).choose_spec.1
  have f2 : ∀ k, F_Ptm_byteOf (σ.2.2.1 a (228 + k)) = some (Int32.ofNat (f k)) := fun k => (hb k).choose_spec.2.1
  have f3 : ∀ k, bd (F_DM_within (σ.2.2.1 a (228 + k)).toInt64 0 65536) (fun o => some (((255 * o + 32768) >>> 16 : Int32))) = some (Int32.ofNat (f k)) := fun k => (hb k).choose_spec.2.2
  refine ⟨pkw f, ?_, fun k hk => by rw [f2 k]; unfold byt; rw [bn_pkw f (fun j _ => f1 j) k hk]⟩
  have st : ∀ (n k : Nat) (v : Int32), k < 4 → L_Drw_colourOf_4 (n + 1) σ a v (Int32.ofNat k) = L_Drw_colourOf_4 n σ a (v ||| (Int32.ofNat (f k) <<< Int32.ofNat (8 * k))) (Int32.ofNat (k + 1)) := by
    intro n k v hk
    rw [L_Drw_colourOf_4, ck_pos ha, if_neg (by rw [show (4 : Int32) = Int32.ofNat 4 from rfl, n_le _ _ (by omega) (by omega)]; omega)]
    rw [show (228 + Int32.ofNat k : Int32) = Int32.ofNat (228 + k) from n_add 228 k, hl, ck_pos (n_inb _ 260 (by omega) (by omega)), n_nat _ (by omega)]
    have := f3 k
    cases h : F_DM_within (σ.2.2.1 a (228 + k)).toInt64 0 65536 with
    | none => rw [h] at this; cases this
    | some o =>
      rw [h, bd_def] at this
      rw [bd_def, lt_def, lt_def, ix8 k hk, n_succ, Option.some.inj this]
  unfold F_Drw_colourOf
  rw [ck_pos ha, show (100000 : Nat) = 99995 + 1 + 1 + 1 + 1 + 1 from rfl, show L_Drw_colourOf_4 (99995 + 1 + 1 + 1 + 1 + 1) σ a 0 0 = L_Drw_colourOf_4 (99995 + 1 + 1 + 1 + 1 + 1) σ a 0 (Int32.ofNat 0) from rfl, st _ 0 _ (by omega), st _ 1 _ (by omega), st _ 2 _ (by omega), st _ 3 _ (by omega), L_Drw_colourOf_4, ck_pos ha, if_pos (by decide)]
  rw [← pkw_loop f (fun j _ => f1 j)]
