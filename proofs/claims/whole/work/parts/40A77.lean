/-! triangles on the screen: the reference's -/
def RasM (X Y : Nat → Int32) (σ : Sg) : Prop := ∀ j, j < 3 → σ.2.2.1 40 j = X j ∧ σ.2.2.1 41 j = Y j
theorem e_room (X Y : Nat → Int32) (σ : Sg) (a b : Nat) (px py : Int32) (hR : RasM X Y σ) (hX : XyOK X) (hY : XyOK Y) (ha : a < 3) (hb : b < 3) (hx : -16384 ≤ px.toInt ∧ px.toInt ≤ 16383) (hy : -16384 ≤ py.toInt ∧ py.toInt ≤ 16383) :
    F_Erm_room σ (Int32.ofNat a) (Int32.ofNat b) px py = some (Int64.ofInt (ed X Y a b px.toInt py.toInt)) := by
  have x1 := hX a ha
  have x2 := hX b hb
  have y1 := hY a ha
  have y2 := hY b hb
  unfold F_Erm_room
  simp only [ck_pos (n_inb a 3 ha (by omega)), ck_pos (n_inb b 3 hb (by omega)), n_nat a (by omega), n_nat b (by omega), lt, (hR a ha).1, (hR a ha).2, (hR b hb).1, (hR b hb).2]
  rw [lo_sub32 _ _ (by omega) (by omega), lo_sub32 _ _ (by omega) (by omega), lo_sub32 _ _ (by omega) (by omega), lo_sub32 _ _ (by omega) (by omega), lo_mul, lo_mul, lo_sub]
  rfl
theorem e_whole (X Y : Nat → Int32) (σ : Sg) (hR : RasM X Y σ) (hX : XyOK X) (hY : XyOK Y) : F_Erm_whole σ = some (Int64.ofInt (whl X Y)) := by
  unfold F_Erm_whole
  rw [(hR 2 (by omega)).1, (hR 2 (by omega)).2, show F_Erm_room σ 0 1 (X 2) (Y 2) = _ from e_room X Y σ 0 1 (X 2) (Y 2) hR hX hY (by omega) (by omega) (hX 2 (by omega)) (hY 2 (by omega)), bd_def]
  rfl
theorem whl_bd (X Y : Nat → Int32) (hX : XyOK X) (hY : XyOK Y) : -2147483648 ≤ whl X Y ∧ whl X Y ≤ 2147483648 := ed_bd X Y 0 1 _ _ hX hY (by omega) (by omega) (hX 2 (by omega)) (hY 2 (by omega))
theorem lo_nn (z : Int) (h0 : -9223372036854775808 ≤ z) (h1 : z < 9223372036854775808) : (0 ≤ Int64.ofInt z ↔ 0 ≤ z) ∧ (Int64.ofInt z = 0 ↔ z = 0) ∧ (0 < Int64.ofInt z ↔ 0 < z) ∧ (Int64.ofInt z < 0 ↔ z < 0) := by
  have z0 : (0 : Int64).toInt = 0 := rfl
  refine ⟨?_, ?_, ?_, ?_⟩
  · rw [Int64.le_iff_toInt_le, l_int z h0 h1, z0]
  · rw [← Int64.toInt_inj, l_int z h0 h1, z0]
  · rw [Int64.lt_iff_toInt_lt, l_int z h0 h1, z0]
  · rw [Int64.lt_iff_toInt_lt, l_int z h0 h1, z0]
theorem j3 : ∀ j, j < 3 → (irem (Int32.ofNat j + 1) 3 = Int32.ofNat ((j + 1) % 3) ∧ irem (Int32.ofNat j + 2) 3 = Int32.ofNat ((j + 2) % 3)) := by decide
theorem e_fromto (X Y : Nat → Int32) (σ : Sg) (j : Nat) (hj : j < 3) (hR : RasM X Y σ) (hX : XyOK X) (hY : XyOK Y) : F_Erm_from σ (Int32.ofNat j) = some (Int32.ofNat (rfr (whl X Y) j)) ∧ F_Erm_to σ (Int32.ofNat j) = some (Int32.ofNat (rto (whl X Y) j)) := by
  have hb := whl_bd X Y hX hY
  have hn := (lo_nn (whl X Y) (by omega) (by omega)).1
  obtain ⟨r1, r2⟩ := j3 j hj
  unfold F_Erm_from F_Erm_to F_Erm_from_22 F_Erm_to_22 rfr rto
  rw [e_whole X Y σ hR hX hY, bd_def, bd_def, r1, r2]
  by_cases c : whl X Y < 0
  · have hc : ¬ (0 ≤ Int64.ofInt (whl X Y)) := fun h => by have := hn.mp h; omega
    simp only [if_neg hc, if_pos c]; exact ⟨trivial, trivial⟩
  · have hc : 0 ≤ Int64.ofInt (whl X Y) := hn.mpr (by omega)
    simp only [if_pos hc, if_neg c]; exact ⟨trivial, trivial⟩
theorem px8 (x : Nat) (h : x < 128) : (16 * Int32.ofNat x) + 8 = Int32.ofNat (16 * x + 8) := by
  rw [show (16 : Int32) = Int32.ofNat 16 from rfl, n_mul, show (8 : Int32) = Int32.ofNat 8 from rfl, n_add]
theorem e_weightOf (X Y : Nat → Int32) (σ : Sg) (j x y : Nat) (hj : j < 3) (hx : x < 128) (hy : y < 128) (hR : RasM X Y σ) (hX : XyOK X) (hY : XyOK Y) : F_Erm_weightOf σ (Int32.ofNat j) (Int32.ofNat x) (Int32.ofNat y) = some (Int64.ofInt (wgt X Y j x y)) := by
  unfold F_Erm_weightOf
  have h1 := rf_lt (whl X Y) j
  rw [(e_fromto X Y σ j hj hR hX hY).1, bd_def, (e_fromto X Y σ j hj hR hX hY).2, bd_def, px8 x hx, px8 y hy, e_room X Y σ _ _ _ _ hR hX hY h1.1 h1.2 (by rw [n_int _ (by omega)]; omega) (by rw [n_int _ (by omega)]; omega), bd_def, n_int _ (by omega), n_int _ (by omega)]
  unfold wgt
  congr 3
theorem wgt_bd (X Y : Nat → Int32) (j x y : Nat) (hx : x < 128) (hy : y < 128) (hX : XyOK X) (hY : XyOK Y) : -2147483648 ≤ wgt X Y j x y ∧ wgt X Y j x y ≤ 2147483648 := by
  have h1 := rf_lt (whl X Y) j
  exact ed_bd X Y _ _ _ _ hX hY h1.1 h1.2 (by omega) (by omega)
theorem e_isCovered (X Y : Nat → Int32) (σ : Sg) (x y : Nat) (hx : x < 128) (hy : y < 128) (hR : RasM X Y σ) (hX : XyOK X) (hY : XyOK Y) : ∃ b : Bool, F_Erm_isCovered σ (Int32.ofNat x) (Int32.ofNat y) = some (bI b) ∧ (b = true ↔ cov X Y x y) := by
  have hWb := whl_bd X Y hX hY
  have hWn := lo_nn (whl X Y) (by omega) (by omega)
  have key : ∀ d k, 3 = k + d → (∀ j, j < k → okw X Y j x y) → ∀ n, d + 1 < n → ∃ b : Bool, L_Erm_isCovered_18 n σ (Int32.ofNat x) (Int32.ofNat y) 1 (Int32.ofNat k) = some (bI b) ∧ (b = true ↔ ∀ j, j < 3 → okw X Y j x y) := by
    intro d
    induction d with
    | zero =>
      intro k hk hok n hn
      obtain ⟨n, rfl⟩ : ∃ m, n = m + 1 := ⟨n - 1, by omega⟩
      have : k = 3 := by omega
      subst this
      rw [L_Erm_isCovered_18, if_pos (by decide)]
      unfold F_Erm_isCovered_141
      rw [ck_pos (by decide)]
      exact ⟨true, rfl, fun _ => hok, fun _ => rfl⟩
    | succ d ih =>
      intro k hk hok n hn
      obtain ⟨n, rfl⟩ : ∃ m, n = m + 1 := ⟨n - 1, by omega⟩
      have h1 := rf_lt (whl X Y) k
      have hwb := wgt_bd X Y k x y hx hy hX hY
      have hwn := lo_nn (wgt X Y k x y) (by omega) (by omega)
      have x1 := hX _ h1.1
      have x2 := hX _ h1.2
      have y1 := hY _ h1.1
      have y2 := hY _ h1.2
      obtain ⟨ef, et⟩ := e_fromto X Y σ k (by omega) hR hX hY
      -- the two ways on
      have on1 : okw X Y k x y → ∃ b : Bool, F_Erm_isCovered_129 (L_Erm_isCovered_18 n) σ (Int32.ofNat x) (Int32.ofNat y) (Int32.ofNat k) = some (bI b) ∧ (b = true ↔ ∀ j, j < 3 → okw X Y j x y) := by
        intro h
        unfold F_Erm_isCovered_129 F_Erm_isCovered_134
        rw [lt_def, n_succ]
        exact ih (k + 1) (by omega) (fun j hj => by
          by_cases c : j = k
          · subst c; exact h
          · exact hok j (by omega)) n (by omega)
      have on0 : ¬ okw X Y k x y → ∃ b : Bool, F_Erm_isCovered_133 (L_Erm_isCovered_18 n) σ (Int32.ofNat x) (Int32.ofNat y) (Int32.ofNat k) = some (bI b) ∧ (b = true ↔ ∀ j, j < 3 → okw X Y j x y) := by
        intro h
        unfold F_Erm_isCovered_133 F_Erm_isCovered_134
        obtain ⟨n, rfl⟩ : ∃ m, n = m + 1 := ⟨n - 1, by omega⟩
        rw [lt_def, n_succ, L_Erm_isCovered_18, if_pos (show (0 : Int32) = 0 from rfl)]
        unfold F_Erm_isCovered_141
        rw [ck_pos (by decide), ite_self]
        refine ⟨false, rfl, ?_⟩
        constructor
        · intro h; cases h
        · intro g; exact absurd (g k (by omega)) h
      have on108 : ∀ s : Bool, (s = true ↔ own X Y k) → ∃ b : Bool, F_Erm_isCovered_108 (L_Erm_isCovered_18 n) σ (Int32.ofNat x) (Int32.ofNat y) (Int32.ofNat k) (Int64.ofInt (wgt X Y k x y)) (bI s) = some (bI b) ∧ (b = true ↔ ∀ j, j < 3 → okw X Y j x y) := by
        intro s hs
        unfold F_Erm_isCovered_108
        by_cases c : 0 < wgt X Y k x y
        · rw [if_pos (hwn.2.2.1.mpr c)]; exact on1 (Or.inl c)
        · rw [if_neg (fun h => c (hwn.2.2.1.mp h))]
          by_cases c2 : wgt X Y k x y = 0
          · rw [if_pos (hwn.2.1.mpr c2)]
            cases s
            · rw [if_pos (show bI false = 0 from rfl)]
              refine on0 (fun h => ?_)
              rcases h with h | h
              · exact c h
              · exact absurd (hs.mpr h.2) (by decide)
            · rw [if_neg (show ¬ bI true = 0 by decide)]
              exact on1 (Or.inr ⟨c2, hs.mp rfl⟩)
          · rw [if_neg (fun h => c2 (hwn.2.1.mp h))]
            refine on0 (fun h => ?_)
            rcases h with h | h
            · exact c h
            · exact c2 h.1
      rw [L_Erm_isCovered_18, if_neg (by rw [show (3 : Int32) = Int32.ofNat 3 from rfl, n_le _ _ (by omega) (by omega)]; omega), if_neg (by decide), e_weightOf X Y σ k x y (by omega) hx hy hR hX hY, bd_def, et, bd_def, ck_pos (n_inb _ 3 h1.2 (by omega)), ef, bd_def, ck_pos (n_inb _ 3 h1.1 (by omega)), n_nat _ (by omega), n_nat _ (by omega), (hR _ h1.2).1, (hR _ h1.1).1, lt_def, bd_def, ck_pos (n_inb _ 3 h1.2 (by omega)), bd_def, ck_pos (n_inb _ 3 h1.1 (by omega)), n_nat _ (by omega), n_nat _ (by omega), (hR _ h1.2).2, (hR _ h1.1).2, lt_def]
      have dxi : (X (rto (whl X Y) k) - X (rfr (whl X Y) k)).toInt = (X (rto (whl X Y) k)).toInt - (X (rfr (whl X Y) k)).toInt := i_sub _ _ (by omega) (by omega)
      have dyi : (Y (rto (whl X Y) k) - Y (rfr (whl X Y) k)).toInt = (Y (rto (whl X Y) k)).toInt - (Y (rfr (whl X Y) k)).toInt := i_sub _ _ (by omega) (by omega)
      have z0 : (0 : Int32).toInt = 0 := rfl
      generalize X (rto (whl X Y) k) - X (rfr (whl X Y) k) = DX at dxi
      generalize Y (rto (whl X Y) k) - Y (rfr (whl X Y) k) = DY at dyi
      have e0 : DY = 0 ↔ DY.toInt = 0 := by rw [← Int32.toInt_inj, z0]
      have e1 : 0 < DX ↔ 0 < DX.toInt := by rw [Int32.lt_iff_toInt_lt, z0]
      have e2 : 0 ≤ DY ↔ 0 ≤ DY.toInt := by rw [Int32.le_iff_toInt_le, z0]
      have ho : own X Y k ↔ (DY.toInt = 0 ∧ 0 < DX.toInt) ∨ DY.toInt < 0 := by unfold own; rw [dxi, dyi]
      have on98 : ¬ (DY.toInt = 0 ∧ 0 < DX.toInt) → ∃ b : Bool, F_Erm_isCovered_98 (L_Erm_isCovered_18 n) σ (Int32.ofNat x) (Int32.ofNat y) (Int32.ofNat k) (Int64.ofInt (wgt X Y k x y)) DY = some (bI b) ∧ (b = true ↔ ∀ j, j < 3 → okw X Y j x y) := by
        intro hc
        unfold F_Erm_isCovered_98 F_Erm_isCovered_103
        by_cases c : 0 ≤ DY.toInt
        · rw [if_pos (e2.mpr c)]
          refine on108 false ⟨fun h => (by cases h), fun h => ?_⟩
          rcases ho.mp h with h | h
          · exact absurd h hc
          · omega
        · rw [if_neg (fun h => c (e2.mp h))]
          exact on108 true ⟨fun _ => ho.mpr (Or.inr (by omega)), fun _ => rfl⟩
      by_cases c0 : DY.toInt = 0
      · rw [if_pos (e0.mpr c0)]
        by_cases c1 : 0 < DX.toInt
        · rw [if_pos (e1.mpr c1)]
          unfold F_Erm_isCovered_103
          exact on108 true ⟨fun _ => ho.mpr (Or.inl ⟨c0, c1⟩), fun _ => rfl⟩
        · rw [if_neg (fun h => c1 (e1.mp h))]
          exact on98 (fun h => c1 h.2)
      · rw [if_neg (fun h => c0 (e0.mp h))]
        exact on98 (fun h => c0 h.1)
  unfold F_Erm_isCovered F_Erm_isCovered_14
  rw [e_whole X Y σ hR hX hY, bd_def]
  by_cases c : whl X Y = 0
  · rw [if_pos (hWn.2.1.mpr c), show (100000 : Nat) = 99999 + 1 from rfl, L_Erm_isCovered_18, if_neg (by decide), if_pos rfl]
    unfold F_Erm_isCovered_141
    rw [ck_pos (by decide)]
    exact ⟨false, rfl, ⟨fun h => (by cases h), fun h => absurd c h.1⟩⟩
  · rw [if_neg (fun h => c (hWn.2.1.mp h))]
    obtain ⟨b, b1, b2⟩ := key 3 0 (by omega) (fun j hj => by omega) 100000 (by omega)
    exact ⟨b, b1, b2.trans ⟨fun h => ⟨c, h⟩, fun h => h.2⟩⟩
