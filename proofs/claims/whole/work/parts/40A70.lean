/-! vertices -/
theorem e_wordAt (σ : Sg) (x : Int64) : F_Vwm_wordAt σ x = some (wd (σ.2.2.1 0) x) := by
  unfold F_Vwm_wordAt F_Vwm_wordAt_14 F_Vwm_wordAt_25 wd
  by_cases h0 : x < 0
  · rw [if_pos h0, if_neg (by grind)]
  · rw [if_neg h0]
    by_cases h1 : x ≤ 4095
    · rw [if_pos h1, if_pos (by grind), ck_pos (wd_inb x (by grind) (by grind))]
    · rw [if_neg h1, if_neg (by grind)]
theorem e_Vwm_in (x a b : Int32) : F_Vwm_in x a b = some (if a ≤ x ∧ x ≤ b then 1 else 0) := by
  simp only [F_Vwm_in_15, F_Vwm_in_14, F_Vwm_in, ck]
  grind
theorem e_Vwm_refuse0 (σ : Sg) : F_Vwm_refuse σ 0 0 = some (sI σ 21 0, 0) := by
  simp only [F_Vwm_refuse_33, F_Vwm_refuse_18, F_Vwm_refuse, ck, lt, sI_1]
  simp
/-- a byte, a half of a word -/
theorem q8 : ∀ k, k < 4 → ((8 * Int32.ofNat k) = Int32.ofNat (8 * k) ∧ (8 * Int32.ofNat k) &&& 31 = Int32.ofNat (8 * k)) := by decide
theorem q16 : ∀ k, k < 2 → ((16 * Int32.ofNat k) = Int32.ofNat (16 * k) ∧ (16 * Int32.ofNat k) &&& 31 = Int32.ofNat (16 * k)) := by decide
theorem byC (w : Int32) (k : Nat) (hk : k < 4) : (ushr w (8 * Int32.ofNat k)) &&& 255 = Int32.ofNat (un w / 2 ^ (8 * k) % 256) := by
  rw [(q8 k hk).1]; exact u_field w (8 * k) 8 (by omega) (by omega)
theorem byM (w : Int32) (k : Nat) (hk : k < 4) : (w >>> ((8 * Int32.ofNat k) &&& 31)) &&& 255 = Int32.ofNat (un w / 2 ^ (8 * k) % 256) := by
  rw [(q8 k hk).2]; exact b_field w (8 * k) 8 (by omega) (by omega)
theorem hfC (w : Int32) (k : Nat) (hk : k < 2) : (ushr w (16 * Int32.ofNat k)) &&& 65535 = Int32.ofNat (un w / 2 ^ (16 * k) % 65536) := by
  rw [(q16 k hk).1]; exact u_field w (16 * k) 16 (by omega) (by omega)
theorem hfM (w : Int32) (k : Nat) (hk : k < 2) : (w >>> ((16 * Int32.ofNat k) &&& 31)) &&& 65535 = Int32.ofNat (un w / 2 ^ (16 * k) % 65536) := by
  rw [(q16 k hk).2]; exact b_field w (16 * k) 16 (by omega) (by omega)
theorem n_div (a b : Nat) (hb : 0 < b) (ha : a < 2147483648) (hb2 : b < 2147483648) : Int32.ofNat a / Int32.ofNat b = Int32.ofNat (a / b) := by
  apply i_inj
  have := Nat.div_le_self a b
  rw [i_div _ _ (by rw [n_int a ha]; omega), n_int a ha, n_int b hb2, n_int _ (by omega), Int.tdiv_eq_ediv_of_nonneg (by omega)]
  rfl
theorem n_rem (a b : Nat) (hb : 0 < b) (ha : a < 2147483648) (hb2 : b < 2147483648) : irem (Int32.ofNat a) (Int32.ofNat b) = Int32.ofNat (a % b) := by
  apply i_inj
  have := Nat.mod_le a b
  rw [irem_int _ _ (by rw [n_int b hb2]; omega), n_int a ha, n_int b hb2, n_int _ (by omega), Int.tmod_eq_emod_of_nonneg (by omega)]
  rfl
theorem s16 (x : Int32) (h : Nat) (hx : un x % 65536 = h) : x.toInt16.toInt32 * 256 = 256 * (if Int32.ofNat h ≤ 32767 then Int32.ofNat h else Int32.ofNat h - 65536) := by
  have hh : h < 65536 := by omega
  have e : x.toInt16.toInt32 = if Int32.ofNat h ≤ 32767 then Int32.ofNat h else Int32.ofNat h - 65536 := by
    apply i_inj
    have h1 : x.toInt16.toInt32.toInt = x.toInt16.toInt := Int16.toInt_toInt32 _
    have h2 : x.toInt16.toInt = x.toInt.bmod 65536 := Int32.toInt_toInt16 x
    have h3 := un_toInt x
    have h4 : x.toInt % 65536 = h := by omega
    rw [h1, h2, Int.bmod_def]
    have c : Int32.ofNat h ≤ 32767 ↔ h ≤ 32767 := n_le h 32767 (by omega) (by omega)
    by_cases d : h ≤ 32767
    · rw [if_pos (c.mpr d), n_int h (by omega)]; omega
    · rw [if_neg (fun g => d (c.mp g)), i_sub, n_int h (by omega), show (65536 : Int32).toInt = 65536 from rfl]
      · omega
      · rw [n_int h (by omega), show (65536 : Int32).toInt = 65536 from rfl]; omega
      · rw [n_int h (by omega), show (65536 : Int32).toInt = 65536 from rfl]; omega
  rw [e]; grind
theorem s8 (x : Int32) (h : Nat) (hx : un x % 256 = h) : x.toInt8.toInt32 * 65536 = 65536 * (if Int32.ofNat h ≤ 127 then Int32.ofNat h else Int32.ofNat h - 256) := by
  have hh : h < 256 := by omega
  have e : x.toInt8.toInt32 = if Int32.ofNat h ≤ 127 then Int32.ofNat h else Int32.ofNat h - 256 := by
    apply i_inj
    have h1 : x.toInt8.toInt32.toInt = x.toInt8.toInt := Int8.toInt_toInt32 _
    have h2 : x.toInt8.toInt = x.toInt.bmod 256 := Int32.toInt_toInt8 x
    have h3 := un_toInt x
    have h4 : x.toInt % 256 = h := by omega
    rw [h1, h2, Int.bmod_def]
    have c : Int32.ofNat h ≤ 127 ↔ h ≤ 127 := n_le h 127 (by omega) (by omega)
    by_cases d : h ≤ 127
    · rw [if_pos (c.mpr d), n_int h (by omega)]; omega
    · rw [if_neg (fun g => d (c.mp g)), i_sub, n_int h (by omega), show (256 : Int32).toInt = 256 from rfl]
      · omega
      · rw [n_int h (by omega), show (256 : Int32).toInt = 256 from rfl]; omega
      · rw [n_int h (by omega), show (256 : Int32).toInt = 256 from rfl]; omega
  rw [e]; grind
/-- part k of an attribute of that type at that place -/
def ptv (μ : Nat → Int32) (ty : Int32) (pl : Int64) (k : Nat) : Int32 :=
  if ty = 0 then wd μ (pl + Int64.ofNat k) else if ty = 1 then (65536 * Int32.ofNat (un (wd μ pl) / 2 ^ (8 * k) % 256) + 127) / 255
  else if ty = 2 then 256 * (if Int32.ofNat (un (wd μ (pl + Int64.ofNat (k / 2))) / 2 ^ (16 * (k % 2)) % 65536) ≤ 32767 then Int32.ofNat (un (wd μ (pl + Int64.ofNat (k / 2))) / 2 ^ (16 * (k % 2)) % 65536) else Int32.ofNat (un (wd μ (pl + Int64.ofNat (k / 2))) / 2 ^ (16 * (k % 2)) % 65536) - 65536)
  else 65536 * (if Int32.ofNat (un (wd μ pl) / 2 ^ (8 * k) % 256) ≤ 127 then Int32.ofNat (un (wd μ pl) / 2 ^ (8 * k) % 256) else Int32.ofNat (un (wd μ pl) / 2 ^ (8 * k) % 256) - 256)
theorem un_ushr (w : Int32) (s : Nat) (hs : s < 32) : un (ushr w (Int32.ofNat s)) = un w / 2 ^ s := by
  rw [b_ushr w s hs, un_small]
  have := un_lt w
  have := Nat.div_le_self (un w) (2 ^ s)
  omega
theorem ix24 : ∀ k, k < 4 → ((Int32.ofNat k / 2).toInt64 = Int64.ofNat (k / 2) ∧ irem (Int32.ofNat k) 2 = Int32.ofNat (k % 2)) := by decide
theorem e_Ver_part (σ : Sg) (ty : Int32) (pl : Int64) (k : Nat) (hk : k < 4) : F_Ver_part σ ty pl (Int32.ofNat k) = some (ptv (σ.2.2.1 0) ty pl k) := by
  unfold F_Ver_part ptv
  simp only [e_wordOf, bd_def, ln_ext k (by omega), byC _ k hk, (ix24 k hk).1, (ix24 k hk).2]
  by_cases c0 : ty = 0
  · rw [if_pos c0, if_pos c0]
  · rw [if_neg c0, if_neg c0]
    by_cases c1 : ty = 1
    · rw [if_pos c1, if_pos c1]
    · rw [if_neg c1, if_neg c1]
      by_cases c2 : ty = 2
      · rw [if_pos c2, if_pos c2, (q16 (k % 2) (by omega)).1, s16 _ _ rfl, un_ushr _ _ (by omega)]
      · rw [if_neg c2, if_neg c2, (q8 k hk).1, s8 _ _ rfl, un_ushr _ _ (by omega)]
/-- part k of attribute n of a vertex -/
def atv (μ κ : Nat → Int32) (v : Int32) (n k : Nat) : Int32 :=
  if κ (10 + 4 * n + 2) ≤ Int32.ofNat k then (if k = 3 then 65536 else 0) else ptv μ (κ (10 + 4 * n + 3)) ((κ (10 + 4 * n)).toInt64 + v.toInt64 * (κ (10 + 4 * n + 1)).toInt64) k
theorem a8 : ∀ n, n < 8 → (10 + (4 * Int32.ofNat n) = Int32.ofNat (10 + 4 * n) ∧ Int32.ofNat (10 + 4 * n) + 1 = Int32.ofNat (10 + 4 * n + 1) ∧ Int32.ofNat (10 + 4 * n) + 2 = Int32.ofNat (10 + 4 * n + 2) ∧ Int32.ofNat (10 + 4 * n) + 3 = Int32.ofNat (10 + 4 * n + 3) ∧ 64 + (4 * Int32.ofNat n) = Int32.ofNat (64 + 4 * n)) := by decide
theorem e_loadAttribute (μ κ : Nat → Int32) (σ : Sg) (v : Int32) (n : Nat) (hn : n < 8) (h0 : σ.2.2.1 0 = μ) (h1 : σ.2.2.1 1 = κ) : F_Ver_loadAttribute σ v (Int32.ofNat n) 10 = some (sA σ 10 (rowset (σ.2.2.1 10) (64 + 4 * n) 4 (atv μ κ v n))) := by
  obtain ⟨b0, b1, b2, b3, b4⟩ := a8 n hn
  unfold F_Ver_loadAttribute
  simp only [lt, b0, b1, b2, ck_pos (show 10 < 47 by decide), ck_pos (ni (10 + 4 * n) (by omega)), ck_pos (ni (10 + 4 * n + 1) (by omega)), ck_pos (ni (10 + 4 * n + 2) (by omega)), nn (10 + 4 * n) (by omega), nn (10 + 4 * n + 1) (by omega), nn (10 + 4 * n + 2) (by omega), h1]
  generalize hpl : (κ (10 + 4 * n)).toInt64 + v.toInt64 * (κ (10 + 4 * n + 1)).toInt64 = pl
  refine fill_loop' (fun m σ w => L_Ver_loadAttribute_46 m σ (Int32.ofNat n) 10 (Int32.ofNat (10 + 4 * n)) pl (κ (10 + 4 * n + 2)) w) σ 10 (64 + 4 * n) 4 (atv μ κ v n) _ (fun m k hk => ?_) (fun m => ?_) 100000 (by decide)
  · obtain ⟨c1, c2, c3, c4, c5⟩ := ix4 k hk
    have e105 : ∀ (τ : Sg) (x : Int32), τ = sA σ 10 (rowset (σ.2.2.1 10) (64 + 4 * n) k (atv μ κ v n)) → F_Ver_loadAttribute_105 (L_Ver_loadAttribute_46 m) τ (Int32.ofNat n) 10 (Int32.ofNat (10 + 4 * n)) pl (κ (10 + 4 * n + 2)) (Int32.ofNat k) 10 ((64 + (4 * Int32.ofNat n)) + Int32.ofNat k) x = L_Ver_loadAttribute_46 m (sA σ 10 (upd (rowset (σ.2.2.1 10) (64 + 4 * n) k (atv μ κ v n)) (64 + 4 * n + k) x)) (Int32.ofNat n) 10 (Int32.ofNat (10 + 4 * n)) pl (κ (10 + 4 * n + 2)) (Int32.ofNat (k + 1)) := by
      intro τ x hτ
      unfold F_Ver_loadAttribute_105
      rw [ck_pos (by decide), ck_pos (by decide), b4, n_add, show lenC τ 10 = 260 from rfl, ck_pos (n_inb _ 260 (by omega) (by omega)), n_nat _ (by omega), lt_def, lt_def, c4, hτ, sA_sA, sA_3, if_pos rfl]
    rw [L_Ver_loadAttribute_46, ck_pos (by decide), if_neg c3]
    unfold F_Ver_loadAttribute_64
    have hA1 : (sA σ 10 (rowset (σ.2.2.1 10) (64 + 4 * n) k (atv μ κ v n))).2.2.1 1 = κ := h1
    have hA0 : (sA σ 10 (rowset (σ.2.2.1 10) (64 + 4 * n) k (atv μ κ v n))).2.2.1 0 = μ := h0
    simp only [ck_pos (show 10 < 47 by decide), b3, ck_pos (ni (10 + 4 * n + 3) (by omega)), nn (10 + 4 * n + 3) (by omega), hA1, e_Ver_part _ _ _ k hk, bd_def, hA0, e105 _ _ rfl]
    unfold atv
    rw [hpl]
    by_cases d : κ (10 + 4 * n + 2) ≤ Int32.ofNat k
    · simp only [if_pos d]
      by_cases e : k = 3
      · rw [if_pos (c5.mpr e), if_pos e]
      · rw [if_neg (fun h => e (c5.mp h)), if_neg e]
    · simp only [if_neg d, ite_self]
  · have h4 : (4 : Int32) ≤ Int32.ofNat 4 := by decide
    rw [L_Ver_loadAttribute_46, ck_pos (by decide), if_pos h4]
theorem e_readsIn (σ : Sg) (pid n : Nat) (hp : pid < 3) (hn : n < 8) : F_Prg_readsIn σ pid (Int32.ofNat n) = some (bI ((un (σ.1 (24 + 3 * pid))).testBit n)) := by
  unfold F_Prg_readsIn F_Prg_readsIn_16
  rw [ck_pos hp, an31 n (by omega), b_bit _ _ (by omega), Nat.testBit_eq_decide_div_mod_eq]
  have h2 : un (σ.1 (24 + 3 * pid)) / 2 ^ n % 2 < 2 := Nat.mod_lt _ (by omega)
  by_cases c : un (σ.1 (24 + 3 * pid)) / 2 ^ n % 2 = 1
  · rw [c]; rfl
  · have c0 : un (σ.1 (24 + 3 * pid)) / 2 ^ n % 2 = 0 := by omega
    rw [c0]; rfl
theorem e_Ver_load (μ κ : Nat → Int32) (σ : Sg) (v : Int32) (pid : Nat) (hp : pid < 3) (h0 : σ.2.2.1 0 = μ) (h1 : σ.2.2.1 1 = κ) :
    ∃ g : Nat → Int32, F_Ver_load σ v pid 10 = some (sA σ 10 g) ∧ (∀ j, (j < 64 ∨ 96 ≤ j) → g j = σ.2.2.1 10 j) ∧ (∀ j, j < 32 → rdb (σ.1 (24 + 3 * pid)) (j / 4) → g (64 + j) = atv μ κ v (j / 4) (j % 4)) := by
  have key : ∀ d k, 8 = k + d → ∀ n, d < n → ∀ g : Nat → Int32, (∀ j, (j < 64 ∨ 96 ≤ j) → g j = σ.2.2.1 10 j) → (∀ j, j < 4 * k → rdb (σ.1 (24 + 3 * pid)) (j / 4) → g (64 + j) = atv μ κ v (j / 4) (j % 4)) →
      ∃ g' : Nat → Int32, L_Ver_load_3 n (sA σ 10 g) v pid 10 (Int32.ofNat k) = some (sA σ 10 g') ∧ (∀ j, (j < 64 ∨ 96 ≤ j) → g' j = σ.2.2.1 10 j) ∧ (∀ j, j < 32 → rdb (σ.1 (24 + 3 * pid)) (j / 4) → g' (64 + j) = atv μ κ v (j / 4) (j % 4)) := by
    intro d
    induction d with
    | zero =>
      intro k hk n hn g g1 g2
      obtain ⟨n, rfl⟩ : ∃ m, n = m + 1 := ⟨n - 1, by omega⟩
      have : k = 8 := by omega
      subst this
      rw [L_Ver_load_3, ck_pos hp, ck_pos (by decide), if_pos (by decide)]
      exact ⟨g, rfl, g1, g2⟩
    | succ d ih =>
      intro k hk n hn g g1 g2
      obtain ⟨n, rfl⟩ : ∃ m, n = m + 1 := ⟨n - 1, by omega⟩
      rw [L_Ver_load_3, ck_pos hp, ck_pos (by decide), if_neg (by rw [show (8 : Int32) = Int32.ofNat 8 from rfl, n_le _ _ (by omega) (by omega)]; omega), e_readsIn _ pid k hp (by omega), bd_def]
      unfold F_Ver_load_27
      simp only [ck_pos hp, ck_pos (show 10 < 47 by decide), lt, n_succ]
      cases hb : (un (σ.1 (24 + 3 * pid))).testBit k
      · rw [show (un ((sA σ 10 g).1 (24 + 3 * pid))).testBit k = false from hb, if_pos (show bI false = 0 from rfl)]
        refine ih (k + 1) (by omega) n (by omega) g g1 (fun j hj hr => ?_)
        by_cases c : j < 4 * k
        · exact g2 j c hr
        · have : j / 4 = k := by omega
          rw [this] at hr
          unfold rdb at hr
          rw [hb] at hr; cases hr
      · rw [show (un ((sA σ 10 g).1 (24 + 3 * pid))).testBit k = true from hb, if_neg (show ¬ bI true = 0 by decide), e_loadAttribute μ κ (sA σ 10 g) v k (by omega) h0 h1, bd_def, sA_sA, sA_3, if_pos rfl]
        refine ih (k + 1) (by omega) n (by omega) _ (fun j hj => ?_) (fun j hj hr => ?_)
        · rw [rowset_out _ _ _ _ _ (by omega)]; exact g1 j hj
        · by_cases c : j < 4 * k
          · rw [rowset_out _ _ _ _ _ (by omega)]; exact g2 j c hr
          · have h1' : j / 4 = k := by omega
            rw [h1', show 64 + j = 64 + 4 * k + j % 4 by omega, rowset_get _ _ _ _ _ (by omega)]
  unfold F_Ver_load
  rw [ck_pos hp, ck_pos (by decide)]
  have := key 8 0 (by omega) 100000 (by omega) (σ.2.2.1 10) (fun j _ => rfl) (fun j hj => by omega)
  rw [sA_self] at this
  exact this
/-! the reference's -/
/-- what the reference knows of attributes -/
def AtRel (κ : Nat → Int32) (σ : Sg) : Prop := ∀ j, j < 32 → σ.2.2.1 34 j = κ (10 + j)
theorem at8 : ∀ n, n < 8 → ((4 * Int32.ofNat n) = Int32.ofNat (4 * n) ∧ Int32.ofNat (4 * n) + 1 = Int32.ofNat (4 * n + 1) ∧ Int32.ofNat (4 * n) + 2 = Int32.ofNat (4 * n + 2) ∧ Int32.ofNat (4 * n) + 3 = Int32.ofNat (4 * n + 3) ∧ (0 ≤ Int32.ofNat n ∧ Int32.ofNat n ≤ 7)) := by decide
theorem e_fetch (μ κ : Nat → Int32) (σ : Sg) (v : Int32) (n k : Nat) (hn : n < 8) (hk : k < 4) (h0 : σ.2.2.1 0 = μ) (hA : AtRel κ σ) : F_Vwm_fetch σ (Int32.ofNat n) v (Int32.ofNat k) = some (sI σ 21 0, atv μ κ v n k) := by
  obtain ⟨b0, b1, b2, b3, b4⟩ := at8 n hn
  obtain ⟨c1, c2, c3, c4, c5⟩ := ix4 k hk
  unfold F_Vwm_fetch
  rw [e_Vwm_in, if_pos b4, bd_def, if_neg (by decide), e_Vwm_in, if_pos (in03 k hk), bd_def, if_neg (by decide)]
  unfold F_Vwm_fetch_25
  rw [e_Vwm_refuse0, bd_def, if_pos rfl]
  have hA' : ∀ j, j < 32 → (sI σ 21 0).2.2.1 34 j = κ (10 + j) := hA
  have h0' : (sI σ 21 0).2.2.1 0 = μ := h0
  generalize sI σ 21 0 = τ at *
  unfold F_Vwm_byteAt F_Vwm_halfAt F_Vwm_fetch_189 F_Vwm_fetch_220 F_Vwm_fetch_59
  simp only [b0, b1, b2, b3, ck_pos (mi (4 * n) (by omega)), ck_pos (mi (4 * n + 1) (by omega)), ck_pos (mi (4 * n + 2) (by omega)), ck_pos (mi (4 * n + 3) (by omega)), mn (4 * n) (by omega), mn (4 * n + 1) (by omega), mn (4 * n + 2) (by omega), mn (4 * n + 3) (by omega), hA' (4 * n) (by omega), hA' (4 * n + 1) (by omega), hA' (4 * n + 2) (by omega), hA' (4 * n + 3) (by omega), lt, e_wordAt, bd_def, h0', ln_ext k (by omega), byM _ k hk, (ix24 k hk).1, (ix24 k hk).2, hfM _ (k % 2) (by omega)]
  unfold atv ptv
  rw [show 10 + (4 * n + 2) = 10 + 4 * n + 2 by omega, show 10 + (4 * n + 1) = 10 + 4 * n + 1 by omega, show 10 + (4 * n + 3) = 10 + 4 * n + 3 by omega]
  by_cases d : κ (10 + 4 * n + 2) ≤ Int32.ofNat k
  · rw [if_neg (show ¬ Int32.ofNat k < κ (10 + 4 * n + 2) by grind), if_pos d]
    by_cases e : k = 3
    · rw [if_pos (c5.mpr e), if_pos e]
    · rw [if_neg (fun h => e (c5.mp h)), if_neg e]
  · rw [if_pos (show Int32.ofNat k < κ (10 + 4 * n + 2) by grind), if_neg d]
    split
    · rfl
    · split
      · rfl
      · split
        · split <;> rfl
        · split <;> rfl
