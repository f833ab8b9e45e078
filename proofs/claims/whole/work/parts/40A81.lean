/-! the reference's shares -/
theorem e_share65 (rc : Sg → Int32 → Int32 → Int64 → Int32 → Int32 → Option (Sg × Int32)) (σ : Sg) (v1 v2 : Int32) (v3 : Int64) (j a : Nat) (hj : j < 3) (ha : a < 18014398509481985) (h0 : σ.2.2.2.1 0 j = Int64.ofNat a) :
    ∀ d s, s + d = 60 → ∀ n, d < n → ∃ s', s ≤ s' ∧ s' ≤ 60 ∧ L_Mod_share_65 rc n σ v1 v2 v3 (Int32.ofNat s) (Int32.ofNat j) = rc σ v1 v2 v3 (Int32.ofNat s') (Int32.ofNat (j + 1)) ∧ a / 2 ^ s' < 536870912 ∧ (s' = s ∨ 536870912 ≤ a / 2 ^ (s' - 1)) := by
  intro d
  induction d with
  | zero =>
    intro s hs n hn
    obtain ⟨n, rfl⟩ : ∃ m, n = m + 1 := ⟨n - 1, by omega⟩
    have : s = 60 := by omega
    subst this
    have h2 : a / 2 ^ 60 = 0 := Nat.div_eq_of_lt (by have : (2 : Nat) ^ 60 = 1152921504606846976 := by decide
                                                     omega)
    rw [L_Mod_share_65, ck_pos (n_inb j 3 hj (by omega)), n_nat j (by omega), h0, ln_sar a 60 (by omega) (by omega), h2, if_pos (by decide), lt_def, n_succ]
    exact ⟨60, by omega, by omega, rfl, by rw [h2]; omega, Or.inl rfl⟩
  | succ d ih =>
    intro s hs n hn
    obtain ⟨n, rfl⟩ : ∃ m, n = m + 1 := ⟨n - 1, by omega⟩
    have hd := Nat.div_le_self a (2 ^ s)
    have e : Int64.ofNat (a / 2 ^ s) < 536870912 ↔ a / 2 ^ s < 536870912 := by
      rw [show (536870912 : Int64) = Int64.ofNat 536870912 from rfl, Int64.lt_iff_toInt_lt, ln_int _ (by omega), ln_int _ (by omega)]; omega
    rw [L_Mod_share_65, ck_pos (n_inb j 3 hj (by omega)), n_nat j (by omega), h0, ln_sar a s (by omega) (by omega)]
    by_cases c : a / 2 ^ s < 536870912
    · rw [if_pos (e.mpr c), lt_def, n_succ]
      exact ⟨s, by omega, by omega, rfl, c, Or.inl rfl⟩
    · rw [if_neg (fun h => c (e.mp h)), lt_def, n_succ]
      obtain ⟨s', q1, q2, q3, q4, q5⟩ := ih (s + 1) (by omega) n (by omega)
      refine ⟨s', by omega, q2, q3, q4, Or.inr ?_⟩
      rcases q5 with q5 | q5
      · subst q5; rw [Nat.add_sub_cancel]; omega
      · exact q5
def pSm : Nat → Nat → Bool := fun c k => c == 3 && k == 0
theorem e_share (X Y D Q : Nat → Int32) (x y : Nat) (σ : Sg) (hx : x < 128) (hy : y < 128) (hX : XyOK X) (hY : XyOK Y) (hQ : QOK Q) (hc : cov X Y x y) (hR : RasM X Y σ) (hD : ∀ j, j < 3 → σ.2.2.1 42 j = D j) (hN : ∀ j, j < 3 → σ.2.2.1 43 j = Q j) :
    ∃ (σ' : Sg) (s : Nat), F_Mod_share σ (Int32.ofNat x) (Int32.ofNat y) = some (σ', dpt X Y D x y) ∧ Fr pSm σ σ' ∧ shP (shf X Y Q x y) s ∧ s < 64 ∧ (∀ j, j < 3 → σ'.2.2.2.1 0 j = Int64.ofNat (shf X Y Q x y j / 2 ^ s)) := by
  have fb : ∀ j, j < 3 → shf X Y Q x y j < 18014398509481985 := fun j hj => (shf_eq X Y Q x y j hj hx hy hX hY hQ hc).2.2
  have hWb := whl_bd X Y hX hY
  have hn := lo_nn (whl X Y) (by omega) (by omega)
  have haz : ¬ Int64.ofInt (aWh X Y) = 0 := by
    rw [(lo_nn (aWh X Y) (by unfold aWh; split <;> omega) (by unfold aWh; split <;> omega)).2.1]
    have := hc.1
    unfold aWh; split <;> omega
  -- the last loop
  have last : ∀ (τ : Sg) (s : Nat) (v : Int64), s < 64 → Fr pSm σ τ → (∀ j, j < 3 → τ.2.2.2.1 0 j = Int64.ofNat (shf X Y Q x y j)) → ∃ σ', L_Mod_share_97 100000 τ v (Int32.ofNat s) 0 = some (σ', (v / Int64.ofInt (aWh X Y)).toInt32) ∧ Fr pSm σ σ' ∧ (∀ j, j < 3 → σ'.2.2.2.1 0 j = Int64.ofNat (shf X Y Q x y j / 2 ^ s)) := by
    intro τ s v hs hF h0
    have step : ∀ (n i : Nat) (υ : Sg), i < 3 → υ.2.2.2.1 0 i = Int64.ofNat (shf X Y Q x y i) → L_Mod_share_97 (n + 1) υ v (Int32.ofNat s) (Int32.ofNat i) = L_Mod_share_97 n (sB υ 0 (vp_updL (υ.2.2.2.1 0) i (Int64.ofNat (shf X Y Q x y i / 2 ^ s)))) v (Int32.ofNat s) (Int32.ofNat (i + 1)) := by
      intro n i υ hi hv
      have := fb i hi
      rw [L_Mod_share_97, if_neg (by rw [show (3 : Int32) = Int32.ofNat 3 from rfl, n_le _ _ (by omega) (by omega)]; omega)]
      simp only [ck_pos (n_inb i 3 hi (by omega)), n_nat i (by omega), lt, hv, ln_sar _ s (show shf X Y Q x y i < 9223372036854775808 by omega) hs, n_succ]
    rw [show (0 : Int32) = Int32.ofNat 0 from rfl, show (100000 : Nat) = 99996 + 1 + 1 + 1 + 1 from rfl, step _ 0 τ (by omega) (h0 0 (by omega)), step _ 1 _ (by omega) (by rw [sB_4, if_pos rfl, updL_ne _ _ _ _ (by omega)]; exact h0 1 (by omega)), step _ 2 _ (by omega) (by rw [sB_4, if_pos rfl, updL_ne _ _ _ _ (by omega), sB_4, if_pos rfl, updL_ne _ _ _ _ (by omega)]; exact h0 2 (by omega)), L_Mod_share_97, if_pos (by decide)]
    generalize hυ : sB (sB (sB τ 0 (vp_updL (τ.2.2.2.1 0) 0 (Int64.ofNat (shf X Y Q x y 0 / 2 ^ s)))) 0 (vp_updL ((sB τ 0 (vp_updL (τ.2.2.2.1 0) 0 (Int64.ofNat (shf X Y Q x y 0 / 2 ^ s)))).2.2.2.1 0) 1 (Int64.ofNat (shf X Y Q x y 1 / 2 ^ s)))) 0 _ = υ
    have Fυ : Fr pSm σ υ := by rw [← hυ]; exact fr_sB (fr_sB (fr_sB hF _ _ (by decide)) _ _ (by decide)) _ _ (by decide)
    have Rυ : RasM X Y υ := fun j hj => by rw [Fυ.2.2.1 40 (by decide), Fυ.2.2.1 41 (by decide)]; exact hR j hj
    have val : ∀ j, j < 3 → υ.2.2.2.1 0 j = Int64.ofNat (shf X Y Q x y j / 2 ^ s) := by
      intro j hj
      rw [← hυ, sB_4, if_pos rfl]
      have : j = 0 ∨ j = 1 ∨ j = 2 := by omega
      rcases this with rfl | rfl | rfl
      · rw [updL_ne _ _ _ _ (by omega), sB_4, if_pos rfl, updL_ne _ _ _ _ (by omega), sB_4, if_pos rfl, updL_eq]
      · rw [updL_ne _ _ _ _ (by omega), sB_4, if_pos rfl, updL_eq]
      · rw [updL_eq]
    rw [e_whole X Y υ Rυ hX hY, bd_def]
    unfold F_Mod_share_151
    have eA : (if 0 ≤ Int64.ofInt (whl X Y) then ck (¬ Int64.ofInt (whl X Y) = 0) (some (υ, (v / Int64.ofInt (whl X Y)).toInt32)) else ck (¬ -Int64.ofInt (whl X Y) = 0) (some (υ, (v / -Int64.ofInt (whl X Y)).toInt32))) = some (υ, (v / Int64.ofInt (aWh X Y)).toInt32) := by
      unfold aWh at haz ⊢
      by_cases c : whl X Y < 0
      · rw [if_pos c] at haz ⊢
        rw [if_neg (fun h => by have := hn.1.mp h; omega), lo_neg, ck_pos haz]
      · rw [if_neg c] at haz ⊢
        rw [if_pos (hn.1.mpr (by omega)), ck_pos haz]
    rw [eA]
    exact ⟨υ, rfl, Fυ, val⟩
  -- one corner
  have step : ∀ (n j s : Nat) (v : Int) (τ : Sg), j < 3 → s ≤ 60 → Fr pSm σ τ → ∃ s', s ≤ s' ∧ s' ≤ 60 ∧ L_Mod_share_8 (n + 1) τ (Int32.ofNat x) (Int32.ofNat y) (Int64.ofInt v) (Int32.ofNat s) (Int32.ofNat j) = L_Mod_share_8 n (sB τ 0 (vp_updL (τ.2.2.2.1 0) j (Int64.ofNat (shf X Y Q x y j)))) (Int32.ofNat x) (Int32.ofNat y) (Int64.ofInt (v + wgt X Y j x y * (D j).toInt)) (Int32.ofNat s') (Int32.ofNat (j + 1)) ∧ shf X Y Q x y j / 2 ^ s' < 536870912 ∧ (s' = s ∨ 536870912 ≤ shf X Y Q x y j / 2 ^ (s' - 1)) := by
    intro n j s v τ hj hs hF
    have Rτ : RasM X Y τ := fun i hi => by rw [hF.2.2.1 40 (by decide), hF.2.2.1 41 (by decide)]; exact hR i hi
    have d42 : τ.2.2.1 42 j = D j := by rw [hF.2.2.1 42 (by decide)]; exact hD j hj
    have d43 : τ.2.2.1 43 j = Q j := by rw [hF.2.2.1 43 (by decide)]; exact hN j hj
    have e := (shf_eq X Y Q x y j hj hx hy hX hY hQ hc).2.1
    rw [L_Mod_share_8, if_neg (by rw [show (3 : Int32) = Int32.ofNat 3 from rfl, n_le _ _ (by omega) (by omega)]; omega), e_weightOf X Y τ j x y hj hx hy Rτ hX hY, bd_def]
    simp only [ck_pos (n_inb j 3 hj (by omega)), n_nat j (by omega), lt, d42, d43, lo_ext (D j), lo_ext (Q j), lo_mul, lo_add, e]
    obtain ⟨s', q1, q2, q3, q4, q5⟩ := e_share65 (L_Mod_share_8 n) (sB τ 0 (vp_updL (τ.2.2.2.1 0) j (Int64.ofNat (shf X Y Q x y j)))) (Int32.ofNat x) (Int32.ofNat y) (Int64.ofInt (v + wgt X Y j x y * (D j).toInt)) j (shf X Y Q x y j) hj (fb j hj) (by rw [sB_4, if_pos rfl, updL_eq]) (60 - s) s (by omega) 100000 (by omega)
    exact ⟨s', q1, q2, q3, q4, q5⟩
  unfold F_Mod_share
  rw [show (0 : Int64) = Int64.ofInt 0 from rfl, show (0 : Int32) = Int32.ofNat 0 from rfl, show (100000 : Nat) = 99996 + 1 + 1 + 1 + 1 from rfl]
  obtain ⟨s1, a1, a2, a3, a4, a5⟩ := step 99999 0 0 0 σ (by omega) (by omega) Fr.rfl
  rw [show (99996 + 1 + 1 + 1 + 1 : Nat) = 99999 + 1 from rfl, a3]
  generalize hσ1 : sB σ 0 (vp_updL (σ.2.2.2.1 0) 0 (Int64.ofNat (shf X Y Q x y 0))) = σ1
  have F1 : Fr pSm σ σ1 := by rw [← hσ1]; exact fr_sB Fr.rfl _ _ (by decide)
  obtain ⟨s2, b1, b2, b3, b4, b5⟩ := step 99998 1 s1 (0 + wgt X Y 0 x y * (D 0).toInt) σ1 (by omega) a2 F1
  rw [show (99999 : Nat) = 99998 + 1 from rfl, show 0 + 1 = 1 from rfl, b3]
  generalize hσ2 : sB σ1 0 (vp_updL (σ1.2.2.2.1 0) 1 (Int64.ofNat (shf X Y Q x y 1))) = σ2
  have F2 : Fr pSm σ σ2 := by rw [← hσ2]; exact fr_sB F1 _ _ (by decide)
  obtain ⟨s3, c1, c2, c3, c4, c5⟩ := step 99997 2 s2 (0 + wgt X Y 0 x y * (D 0).toInt + wgt X Y 1 x y * (D 1).toInt) σ2 (by omega) b2 F2
  rw [show (99998 : Nat) = 99997 + 1 from rfl, show 1 + 1 = 2 from rfl, c3]
  generalize hσ3 : sB σ2 0 (vp_updL (σ2.2.2.2.1 0) 2 (Int64.ofNat (shf X Y Q x y 2))) = σ3
  have F3 : Fr pSm σ σ3 := by rw [← hσ3]; exact fr_sB F2 _ _ (by decide)
  rw [show (99997 : Nat) = 99996 + 1 from rfl, show 2 + 1 = 3 from rfl, L_Mod_share_8, if_pos (by decide)]
  have h0 : ∀ j, j < 3 → σ3.2.2.2.1 0 j = Int64.ofNat (shf X Y Q x y j) := by
    intro j hj
    have : j = 0 ∨ j = 1 ∨ j = 2 := by omega
    rw [← hσ3, sB_4, if_pos rfl]
    rcases this with rfl | rfl | rfl
    · rw [updL_ne _ _ _ _ (by omega), ← hσ2, sB_4, if_pos rfl, updL_ne _ _ _ _ (by omega), ← hσ1, sB_4, if_pos rfl, updL_eq]
    · rw [updL_ne _ _ _ _ (by omega), ← hσ2, sB_4, if_pos rfl, updL_eq]
    · rw [updL_eq]
  obtain ⟨σ', z1, z2, z3⟩ := last σ3 s3 (Int64.ofInt (0 + wgt X Y 0 x y * (D 0).toInt + wgt X Y 1 x y * (D 1).toInt + wgt X Y 2 x y * (D 2).toInt)) (by omega) F3 h0
  refine ⟨σ', s3, ?_, z2, ?_, by omega, z3⟩
  · rw [z1]
    unfold dpt SD
    congr 4
    congr 1
    omega
  · have mono : ∀ j s s', s ≤ s' → shf X Y Q x y j / 2 ^ s < 536870912 → shf X Y Q x y j / 2 ^ s' < 536870912 := by
      intro j s s' h1 h2
      have : shf X Y Q x y j / 2 ^ s' ≤ shf X Y Q x y j / 2 ^ s := Nat.div_le_div_left (Nat.pow_le_pow_right (by omega) h1) (Nat.two_pow_pos s)
      omega
    constructor
    · intro j hj
      have : j = 0 ∨ j = 1 ∨ j = 2 := by omega
      rcases this with rfl | rfl | rfl
      · exact mono 0 s1 s3 (by omega) a4
      · exact mono 1 s2 s3 (by omega) b4
      · exact c4
    · rcases c5 with c5 | c5
      · subst c5
        rcases b5 with b5 | b5
        · subst b5
          rcases a5 with a5 | a5
          · exact Or.inl a5
          · exact Or.inr ⟨0, by omega, a5⟩
        · exact Or.inr ⟨1, by omega, b5⟩
      · exact Or.inr ⟨2, by omega, c5⟩
/-! the values at a place -/
def shT (f : Nat → Nat) (s : Nat) : Nat := f 0 / 2 ^ s + f 1 / 2 ^ s + f 2 / 2 ^ s
def vlv (f : Nat → Nat) (s : Nat) (V : Nat → Int32) : Int32 := (fdiv (Int64.ofInt ((f 0 / 2 ^ s : Nat) * (V 0).toInt + (f 1 / 2 ^ s : Nat) * (V 1).toInt + (f 2 / 2 ^ s : Nat) * (V 2).toInt)) (Int64.ofNat (shT f s))).toInt32
theorem shT_pos (X Y Q : Nat → Int32) (x y s : Nat) (hx : x < 128) (hy : y < 128) (hX : XyOK X) (hY : XyOK Y) (hQ : QOK Q) (hc : cov X Y x y) (hs : shP (shf X Y Q x y) s) : 0 < shT (shf X Y Q x y) s ∧ shT (shf X Y Q x y) s < 1610612736 := by
  have l0 := hs.1 0 (by omega)
  have l1 := hs.1 1 (by omega)
  have l2 := hs.1 2 (by omega)
  unfold shT
  refine ⟨?_, by omega⟩
  rcases hs.2 with h | ⟨j, hj, h⟩
  · subst h
    obtain ⟨hW, -, -, -⟩ := cov_pos X Y x y hc
    have hsum := wgt_sum X Y x y
    have hq : ∀ j, j < 3 → (0 < wgt X Y j x y → 0 < shf X Y Q x y j) := by
      intro j hj hp
      have e := (shf_eq X Y Q x y j hj hx hy hX hY hQ hc).1
      have := Int.mul_pos hp (show 0 < (Q j).toInt by have := hQ j hj; omega)
      omega
    simp only [Nat.pow_zero, Nat.div_one]
    by_cases c0 : 0 < wgt X Y 0 x y
    · have := hq 0 (by omega) c0; omega
    · by_cases c1 : 0 < wgt X Y 1 x y
      · have := hq 1 (by omega) c1; omega
      · have := hq 2 (by omega) (by omega); omega
  · by_cases hs0 : s = 0
    · subst hs0
      rw [Nat.zero_sub] at h
      have : j = 0 ∨ j = 1 ∨ j = 2 := by omega
      rcases this with rfl | rfl | rfl <;> omega
    · have e : shf X Y Q x y j / 2 ^ s = shf X Y Q x y j / 2 ^ (s - 1) / 2 := by
        rw [Nat.div_div_eq_div_mul, ← Nat.pow_succ]; congr 2; omega
      have hp : 0 < shf X Y Q x y j / 2 ^ s := by rw [e]; omega
      have : j = 0 ∨ j = 1 ∨ j = 2 := by omega
      generalize hh0 : shf X Y Q x y 0 / 2 ^ s = a0
      generalize hh1 : shf X Y Q x y 1 / 2 ^ s = a1
      generalize hh2 : shf X Y Q x y 2 / 2 ^ s = a2
      rcases this with rfl | rfl | rfl
      · rw [hh0] at hp; omega
      · rw [hh1] at hp; omega
      · rw [hh2] at hp; omega
theorem e_Erm_down (x y : Int64) (hy : 0 < y.toInt) : F_Erm_down x y = some (fdiv x y) := by
  have hz : ¬ y = 0 := by intro h; rw [h] at hy; exact absurd hy (by decide)
  unfold F_Erm_down F_Erm_down_21 F_Erm_down_22
  rw [ck_pos hz, ck_pos hz, ← dr_pos x y hy]
  by_cases c : lrem x y = 0
  · rw [if_pos c, if_neg (fun h => h.1 c)]
  · rw [if_neg c]
    by_cases d : x < 0
    · rw [if_neg (show ¬ 0 ≤ x by grind), if_pos ⟨c, d⟩]
    · rw [if_pos (show 0 ≤ x by grind), if_neg (fun h => d h.2)]
theorem e_value (f : Nat → Nat) (s k : Nat) (V : Nat → Int32) (σ : Sg) (hk : k < 28) (hT : 0 < shT f s) (hTb : shT f s < 1610612736) (hS : ∀ j, j < 3 → σ.2.2.2.1 0 j = Int64.ofNat (f j / 2 ^ s)) (hV : ∀ j, j < 3 → σ.2.2.1 44 (28 * j + k) = V j) :
    F_Mod_value σ (Int32.ofNat k) = some (vlv f s V) := by
  have nn' : ∀ a : Nat, Int64.ofNat a = Int64.ofInt (a : Int) := fun a => rfl
  have step : ∀ (n j : Nat) (v : Int), j < 3 → L_Mod_value_5 (n + 1) σ (Int32.ofNat k) (Int64.ofInt v) (Int32.ofNat j) = L_Mod_value_5 n σ (Int32.ofNat k) (Int64.ofInt (v + (f j / 2 ^ s : Nat) * (V j).toInt)) (Int32.ofNat (j + 1)) := by
    intro n j v hj
    have e : (28 * Int32.ofNat j) + Int32.ofNat k = Int32.ofNat (28 * j + k) := by rw [show (28 : Int32) = Int32.ofNat 28 from rfl, n_mul, n_add]
    rw [L_Mod_value_5, if_neg (by rw [show (3 : Int32) = Int32.ofNat 3 from rfl, n_le _ _ (by omega) (by omega)]; omega), e]
    simp only [ck_pos (n_inb j 3 hj (by omega)), ck_pos (n_inb (28 * j + k) 84 (by omega) (by omega)), n_nat j (by omega), n_nat (28 * j + k) (by omega), hS j hj, hV j hj, lo_ext (V j), nn', lo_mul, lo_add, lt, n_succ]
  unfold F_Mod_value
  rw [show (0 : Int64) = Int64.ofInt 0 from rfl, show (0 : Int32) = Int32.ofNat 0 from rfl, show (100000 : Nat) = 99996 + 1 + 1 + 1 + 1 from rfl, step _ 0 _ (by omega), step _ 1 _ (by omega), step _ 2 _ (by omega), L_Mod_value_5, if_pos (by decide), hS 0 (by omega), hS 1 (by omega), hS 2 (by omega), ln_add, ln_add]
  have ht : 0 < (Int64.ofNat (f 0 / 2 ^ s + f 1 / 2 ^ s + f 2 / 2 ^ s)).toInt := by
    rw [ln_int _ (by unfold shT at hTb; omega)]; unfold shT at hT; omega
  rw [e_Erm_down _ _ ht, bd_def]
  unfold vlv shT
  rw [Int.zero_add]
theorem e_valueThere (X Y : Nat → Int32) (f : Nat → Nat) (s k q c : Nat) (V : Nat → Int32) (σ : Sg) (hk : 1 ≤ k ∧ k ≤ 6) (hq : q < 32) (hT : 0 < shT f s) (hTb : shT f s < 1610612736) (h5 : σ.2.2.2.2 5 = c) (hc : c < 2) (hW : WhoC X Y k σ) (hS : ∀ i, i < 3 → σ.2.2.2.1 6 i = Int64.ofNat (f (pm (whl X Y) i) / 2 ^ s)) (h3 : σ.2.1 3 = Int64.ofNat (shT f s)) (hV : ∀ j, j < 3 → σ.2.2.1 (31 + 8 * c + ci k j) q = V j) :
    F_Cov_valueThere σ (Int32.ofNat q) = some (vlv f s V) := by
  have nn' : ∀ a : Nat, Int64.ofNat a = Int64.ofInt (a : Int) := fun a => rfl
  have step : ∀ (n i : Nat) (v : Int), i < 3 → L_Cov_valueThere_5 (n + 1) σ (Int32.ofNat q) (Int64.ofInt v) (Int32.ofNat i) = L_Cov_valueThere_5 n σ (Int32.ofNat q) (Int64.ofInt (v + (f (pm (whl X Y) i) / 2 ^ s : Nat) * (V (pm (whl X Y) i)).toInt)) (Int32.ofNat (i + 1)) := by
    intro n i v hi
    have pj := (pm_edge (whl X Y) i hi).2.2
    have lj := ci_lt k _ hk.2 pj
    rw [L_Cov_valueThere_5, if_neg (by rw [show (3 : Int32) = Int32.ofNat 3 from rfl, n_le _ _ (by omega) (by omega)]; omega)]
    simp only [ck_pos (n_inb i 3 hi (by omega)), n_nat i (by omega), lt, h5, ck_pos hc, hW i hi, ck_pos (n_inb _ 8 lj (by omega)), n_nat _ (show ci k (pm (whl X Y) i) < 2147483648 by omega), ck_pos (show 31 + 8 * c + ci k (pm (whl X Y) i) < 47 by omega), lenC32 σ (31 + 8 * c + ci k (pm (whl X Y) i)) (by omega) (by omega), ck_pos (n_inb q 32 hq (by omega)), n_nat q (by omega), hS i hi, hV _ pj, lo_ext (V (pm (whl X Y) i)), nn', lo_mul, lo_add, n_succ]
  have hz : ¬ Int64.ofNat (shT f s) = 0 := by
    intro h
    have := congrArg Int64.toInt h
    rw [ln_int _ (by omega), show (0 : Int64).toInt = 0 from rfl] at this
    omega
  unfold F_Cov_valueThere
  rw [show (0 : Int64) = Int64.ofInt 0 from rfl, show (0 : Int32) = Int32.ofNat 0 from rfl, show (100000 : Nat) = 99996 + 1 + 1 + 1 + 1 from rfl, step _ 0 _ (by omega), step _ 1 _ (by omega), step _ 2 _ (by omega), L_Cov_valueThere_5, if_pos (by decide), h3, if_neg hz, ck_pos hz]
  unfold F_Cov_valueThere_68 vlv
  congr 4
  have := pm_sum (whl X Y) (fun j => (f j / 2 ^ s : Nat) * (V j).toInt)
  omega
