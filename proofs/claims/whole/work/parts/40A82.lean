/-! the ins of a place -/
def pLd2 : Nat → Nat → Bool := fun c k => (c == 1 && k == 3) || (c == 2 && k == 10) || (c == 3 && k == 6)
theorem e_Cov_load (X Y Q : Nat → Int32) (k x y c pid : Nat) (V : Nat → Nat → Int32) (σ : Sg) (hp : pid < 3) (hk : 1 ≤ k ∧ k ≤ 6) (hx : x < 128) (hy : y < 128) (hX : XyOK X) (hY : XyOK Y) (hQ : QOK Q) (hc : cov X Y x y) (hW : WhoC X Y k σ) (hw : WtC X Y x y 3 σ) (hN : ∀ j, j < 3 → σ.2.2.1 27 (ci k j) = Q j) (h5 : σ.2.2.2.2 5 = c) (hc2 : c < 2) (hV : ∀ q, q < 32 → ∀ j, j < 3 → σ.2.2.1 (31 + 8 * c + ci k j) q = V q j) :
    ∃ (σ' : Sg) (s : Nat), F_Cov_load σ pid 10 = some σ' ∧ Fr pLd2 σ σ' ∧ shP (shf X Y Q x y) s ∧ (∀ j, (j < 68 ∨ 96 ≤ j) → σ'.2.2.1 10 j = σ.2.2.1 10 j) ∧ (∀ j, 4 ≤ j → j < 32 → rdb (σ.1 (24 + 3 * pid)) (j / 4) → σ'.2.2.1 10 (64 + j) = vlv (shf X Y Q x y) s (V j)) := by
  obtain ⟨σ1, s, a1, a2, a3, a4, a5, a6⟩ := e_setShares X Y Q k x y σ hk hx hy hX hY hQ hc hW hw hN
  obtain ⟨t1, t2⟩ := shT_pos X Y Q x y s hx hy hX hY hQ hc a3
  have a6' : σ1.2.1 3 = Int64.ofNat (shT (shf X Y Q x y) s) := by
    rw [a6]; congr 1; unfold shT
    unfold pm
    by_cases d : whl X Y < 0
    · simp only [if_pos d]
      show shf X Y Q x y 0 / 2 ^ s + shf X Y Q x y 2 / 2 ^ s + shf X Y Q x y 1 / 2 ^ s = _
      generalize shf X Y Q x y 0 / 2 ^ s = b0
      generalize shf X Y Q x y 1 / 2 ^ s = b1
      generalize shf X Y Q x y 2 / 2 ^ s = b2
      omega
    · simp only [if_neg d]
  have W1 : ∀ g, WhoC X Y k (sA σ1 10 g) := fun g i hi => by
    show σ1.2.2.1 28 i = _
    rw [a2.2.2.1 28 (by decide)]; exact hW i hi
  have V1 : ∀ g q, q < 32 → ∀ j, j < 3 → (sA σ1 10 g).2.2.1 (31 + 8 * c + ci k j) q = V q j := fun g q hq j hj => by
    rw [sA_3, if_neg (by omega), a2.2.2.1 _ (by simp [pSs])]; exact hV q hq j hj
  have val : ∀ g q, q < 32 → F_Cov_valueThere (sA σ1 10 g) (Int32.ofNat q) = some (vlv (shf X Y Q x y) s (V q)) := fun g q hq =>
    e_valueThere X Y (shf X Y Q x y) s k q c (V q) (sA σ1 10 g) hk hq t1 t2 (by show σ1.2.2.2.2 5 = c; rw [a2.2.2.2.2 5 (by decide)]; exact h5) hc2 (W1 g) (fun i hi => a5 i hi) a6' (V1 g q hq)
  have r24 : σ1.1 (24 + 3 * pid) = σ.1 (24 + 3 * pid) := a2.1 _ (by simp [pSs])
  have key : ∀ d n, 8 = n + d → 1 ≤ n → ∀ m, d < m → ∀ g : Nat → Int32, (∀ j, (j < 68 ∨ 96 ≤ j) → g j = σ.2.2.1 10 j) → (∀ j, 4 ≤ j → j < 4 * n → rdb (σ.1 (24 + 3 * pid)) (j / 4) → g (64 + j) = vlv (shf X Y Q x y) s (V j)) →
      ∃ g' : Nat → Int32, L_Cov_load_6 m (sA σ1 10 g) pid 10 (Int32.ofNat n) = some (sA σ1 10 g') ∧ (∀ j, (j < 68 ∨ 96 ≤ j) → g' j = σ.2.2.1 10 j) ∧ (∀ j, 4 ≤ j → j < 32 → rdb (σ.1 (24 + 3 * pid)) (j / 4) → g' (64 + j) = vlv (shf X Y Q x y) s (V j)) := by
    intro d
    induction d with
    | zero =>
      intro n hn hn1 m hm g g1 g2
      obtain ⟨m, rfl⟩ : ∃ z, m = z + 1 := ⟨m - 1, by omega⟩
      have : n = 8 := by omega
      subst this
      rw [L_Cov_load_6, ck_pos hp, ck_pos (by decide), if_pos (by decide)]
      exact ⟨g, rfl, g1, g2⟩
    | succ d ih =>
      intro n hn hn1 m hm g g1 g2
      obtain ⟨m, rfl⟩ : ∃ z, m = z + 1 := ⟨m - 1, by omega⟩
      have f54 : ∀ h, F_Cov_load_54 (L_Cov_load_6 m) (sA σ1 10 h) pid 10 (Int32.ofNat n) = L_Cov_load_6 m (sA σ1 10 h) pid 10 (Int32.ofNat (n + 1)) := fun h => by
        unfold F_Cov_load_54; rw [ck_pos hp, ck_pos (by decide), lt_def, n_succ]
      rw [L_Cov_load_6, ck_pos hp, ck_pos (by decide), if_neg (by rw [show (8 : Int32) = Int32.ofNat 8 from rfl, n_le _ _ (by omega) (by omega)]; omega), e_readsIn _ pid n hp (by omega), bd_def, show (sA σ1 10 g).1 (24 + 3 * pid) = σ.1 (24 + 3 * pid) from r24]
      cases hb : (un (σ.1 (24 + 3 * pid))).testBit n
      · rw [if_pos (show bI false = 0 from rfl), f54]
        refine ih (n + 1) (by omega) (by omega) m (by omega) g g1 (fun j h1 hj hr => ?_)
        by_cases e : j < 4 * n
        · exact g2 j h1 e hr
        · have e2 : j / 4 = n := by omega
          rw [e2] at hr
          unfold rdb at hr
          rw [hb] at hr; cases hr
      · rw [if_neg (show ¬ bI true = 0 by decide), lt_def, show (4 : Int32) = Int32.ofNat 4 from rfl, n_mul]
        have inner : L_Cov_load_25 (L_Cov_load_6 m) 100000 (sA σ1 10 g) pid 10 (Int32.ofNat n) (Int32.ofNat (4 * n)) = L_Cov_load_6 m (sA σ1 10 (rowset g (64 + 4 * n) 4 (fun i => vlv (shf X Y Q x y) s (V (4 * n + i))))) pid 10 (Int32.ofNat (n + 1)) := by
          have := fill_loop (fun z τ v => L_Cov_load_25 (L_Cov_load_6 m) z τ pid 10 (Int32.ofNat n) v) (sA σ1 10 g) 10 (64 + 4 * n) 4 (4 * n) (fun i => vlv (shf X Y Q x y) s (V (4 * n + i))) (L_Cov_load_6 m (sA σ1 10 (rowset g (64 + 4 * n) 4 (fun i => vlv (shf X Y Q x y) s (V (4 * n + i))))) pid 10 (Int32.ofNat (n + 1))) (fun z i hi => ?_) (fun z => ?_) 100000 (by decide)
          · exact this
          · have e4 : (Int32.ofNat 4 * Int32.ofNat n) + Int32.ofNat 4 = Int32.ofNat (4 * n + 4) := by rw [n_mul, n_add]
            rw [L_Cov_load_25, ck_pos hp, ck_pos (by decide), show ((4 : Int32) * Int32.ofNat n) + 4 = Int32.ofNat (4 * n + 4) from e4, if_neg (by rw [n_le _ _ (by omega) (by omega)]; omega), sA_sA, val _ _ (by omega), bd_def, show (64 : Int32) = Int32.ofNat 64 from rfl, n_add, show ∀ τ, lenC τ 10 = 260 from fun _ => rfl, ck_pos (n_inb _ 260 (by omega) (by omega)), n_nat _ (by omega), lt_def, lt_def, n_succ, sA_sA, sA_sA, sA_3, if_pos rfl, sA_3, if_pos rfl]
            rw [show 64 + (4 * n + i) = 64 + 4 * n + i by omega, show 4 * n + i + 1 = 4 * n + (i + 1) by omega]
          · have e4 : (Int32.ofNat 4 * Int32.ofNat n) + Int32.ofNat 4 = Int32.ofNat (4 * n + 4) := by rw [n_mul, n_add]
            rw [L_Cov_load_25, ck_pos hp, ck_pos (by decide), show ((4 : Int32) * Int32.ofNat n) + 4 = Int32.ofNat (4 * n + 4) from e4, if_pos (Int32.le_refl _), sA_sA, sA_3, if_pos rfl, f54]
        rw [inner]
        refine ih (n + 1) (by omega) (by omega) m (by omega) _ (fun j hj => ?_) (fun j h1 hj hr => ?_)
        · rw [rowset_out _ _ _ _ _ (by omega)]; exact g1 j hj
        · by_cases e : j < 4 * n
          · rw [rowset_out _ _ _ _ _ (by omega)]; exact g2 j h1 e hr
          · rw [show 64 + j = 64 + 4 * n + (j - 4 * n) by omega, rowset_get _ _ _ _ _ (by omega)]
            congr 2; omega
  unfold F_Cov_load
  rw [ck_pos hp, ck_pos (by decide), a1, bd_def]
  obtain ⟨g', b1, b2, b3⟩ := key 7 1 (by omega) (by omega) 100000 (by omega) (σ1.2.2.1 10) (fun j _ => by rw [a2.2.2.1 10 (by decide)]) (fun j h1 hj => by omega)
  rw [sA_self] at b1
  refine ⟨sA σ1 10 g', s, b1, fr_sA (a2.weak (by intro a b; simp only [pLd2, pSs]; grind)) _ _ (by decide), a3, fun j hj => ?_, fun j h1 h2 h3 => ?_⟩
  · rw [sA_3, if_pos rfl]; exact b2 j hj
  · rw [sA_3, if_pos rfl]; exact b3 j h1 h2 h3
