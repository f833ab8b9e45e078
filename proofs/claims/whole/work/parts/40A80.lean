/-! shares -/
def shf (X Y Q : Nat → Int32) (x y j : Nat) : Nat := (wgt X Y j x y * (Q j).toInt).toNat
def QOK (Q : Nat → Int32) : Prop := ∀ j, j < 3 → 1 ≤ (Q j).toInt ∧ (Q j).toInt ≤ 8388608
theorem shf_eq (X Y Q : Nat → Int32) (x y j : Nat) (hj : j < 3) (hx : x < 128) (hy : y < 128) (hX : XyOK X) (hY : XyOK Y) (hQ : QOK Q) (hc : cov X Y x y) :
    wgt X Y j x y * (Q j).toInt = (shf X Y Q x y j : Int) ∧ Int64.ofInt (wgt X Y j x y * (Q j).toInt) = Int64.ofNat (shf X Y Q x y j) ∧ shf X Y Q x y j < 18014398509481985 := by
  have h0 : 0 ≤ wgt X Y j x y := by
    rcases hc.2 j hj with h | h <;> omega
  have hb := wgt_bd X Y j x y hx hy hX hY
  have hq := hQ j hj
  have h1 : 0 ≤ wgt X Y j x y * (Q j).toInt := Int.mul_nonneg h0 (by omega)
  have h2 : wgt X Y j x y * (Q j).toInt ≤ 2147483648 * 8388608 := Int.mul_le_mul hb.2 hq.2 (by omega) (by omega)
  have e : wgt X Y j x y * (Q j).toInt = (shf X Y Q x y j : Int) := by unfold shf; omega
  refine ⟨e, ?_, ?_⟩
  · rw [e]; rfl
  · omega
theorem lmaxn (a b : Nat) (ha : a < 9223372036854775808) (hb : b < 9223372036854775808) : lmax (Int64.ofNat a) (Int64.ofNat b) = Int64.ofNat (if b < a then a else b) := by
  unfold lmax
  have e : Int64.ofNat b < Int64.ofNat a ↔ b < a := by rw [Int64.lt_iff_toInt_lt, ln_int a ha, ln_int b hb]; omega
  by_cases c : b < a
  · rw [if_pos (e.mpr c), if_pos c]
  · rw [if_neg (fun h => c (e.mp h)), if_neg c]
def pSs : Nat → Nat → Bool := fun c k => (c == 1 && k == 3) || (c == 3 && k == 6)
theorem e_setShares (X Y Q : Nat → Int32) (k x y : Nat) (σ : Sg) (hk : 1 ≤ k ∧ k ≤ 6) (hx : x < 128) (hy : y < 128) (hX : XyOK X) (hY : XyOK Y) (hQ : QOK Q) (hc : cov X Y x y) (hW : WhoC X Y k σ) (hw : WtC X Y x y 3 σ) (hN : ∀ j, j < 3 → σ.2.2.1 27 (ci k j) = Q j) :
    ∃ (σ' : Sg) (s : Nat), F_Cov_setShares σ = some σ' ∧ Fr pSs σ σ' ∧ shP (shf X Y Q x y) s ∧ s < 64 ∧ (∀ i, i < 3 → σ'.2.2.2.1 6 i = Int64.ofNat (shf X Y Q x y (pm (whl X Y) i) / 2 ^ s)) ∧ σ'.2.1 3 = Int64.ofNat (shf X Y Q x y (pm (whl X Y) 0) / 2 ^ s + shf X Y Q x y (pm (whl X Y) 1) / 2 ^ s + shf X Y Q x y (pm (whl X Y) 2) / 2 ^ s) := by
  generalize hf : shf X Y Q x y = f at *
  have fb : ∀ j, j < 3 → f j < 18014398509481985 := fun j hj => by rw [← hf]; exact (shf_eq X Y Q x y j hj hx hy hX hY hQ hc).2.2
  have pj : ∀ i, i < 3 → pm (whl X Y) i < 3 := fun i hi => (pm_edge (whl X Y) i hi).2.2
  -- the last loop
  have last : ∀ (τ : Sg) (s : Nat), s < 64 → (∀ i, i < 3 → τ.2.2.2.1 6 i = Int64.ofNat (f (pm (whl X Y) i))) → τ.2.1 3 = 0 → ∃ σ', L_Cov_setShares_77 100000 τ (Int32.ofNat s) 0 = some σ' ∧ Fr pSs τ σ' ∧ (∀ i, i < 3 → σ'.2.2.2.1 6 i = Int64.ofNat (f (pm (whl X Y) i) / 2 ^ s)) ∧ σ'.2.1 3 = Int64.ofNat (f (pm (whl X Y) 0) / 2 ^ s + f (pm (whl X Y) 1) / 2 ^ s + f (pm (whl X Y) 2) / 2 ^ s) := by
    intro τ s hs h6 h3
    have step : ∀ (n i : Nat) (υ : Sg), i < 3 → υ.2.2.2.1 6 i = Int64.ofNat (f (pm (whl X Y) i)) → L_Cov_setShares_77 (n + 1) υ (Int32.ofNat s) (Int32.ofNat i) = L_Cov_setShares_77 n (sJ (sB υ 6 (vp_updL (υ.2.2.2.1 6) i (Int64.ofNat (f (pm (whl X Y) i) / 2 ^ s)))) 3 (υ.2.1 3 + Int64.ofNat (f (pm (whl X Y) i) / 2 ^ s))) (Int32.ofNat s) (Int32.ofNat (i + 1)) := by
      intro n i υ hi hv
      have := fb _ (pj i hi)
      rw [L_Cov_setShares_77, if_neg (by rw [show (3 : Int32) = Int32.ofNat 3 from rfl, n_le _ _ (by omega) (by omega)]; omega)]
      simp only [ck_pos (n_inb i 3 hi (by omega)), n_nat i (by omega), lt, hv, ln_sar _ s (show f (pm (whl X Y) i) < 9223372036854775808 by omega) hs, sB_2, sB_4, if_true, updL_eq, n_succ]
    rw [show (0 : Int32) = Int32.ofNat 0 from rfl, show (100000 : Nat) = 99996 + 1 + 1 + 1 + 1 from rfl, step _ 0 τ (by omega) (h6 0 (by omega)), step _ 1 _ (by omega) (by
      show (sB _ _ _).2.2.2.1 6 1 = _
      rw [sB_4, if_pos rfl, updL_ne _ _ _ _ (by omega)]; exact h6 1 (by omega)), step _ 2 _ (by omega) (by
      show (sB _ _ _).2.2.2.1 6 2 = _
      rw [sB_4, if_pos rfl, updL_ne _ _ _ _ (by omega)]
      show (sB _ _ _).2.2.2.1 6 2 = _
      rw [sB_4, if_pos rfl, updL_ne _ _ _ _ (by omega)]; exact h6 2 (by omega)), L_Cov_setShares_77, if_pos (by decide)]
    refine ⟨_, rfl, fr_sJ (fr_sB (fr_sJ (fr_sB (fr_sJ (fr_sB Fr.rfl _ _ (by decide)) _ _ (by decide)) _ _ (by decide)) _ _ (by decide)) _ _ (by decide)) _ _ (by decide), fun i hi => ?_, ?_⟩
    · show (sB _ _ _).2.2.2.1 6 i = _
      rw [sB_4, if_pos rfl]
      have : i = 0 ∨ i = 1 ∨ i = 2 := by omega
      rcases this with rfl | rfl | rfl
      · rw [updL_ne _ _ _ _ (by omega)]
        show (sB _ _ _).2.2.2.1 6 0 = _
        rw [sB_4, if_pos rfl, updL_ne _ _ _ _ (by omega)]
        show (sB _ _ _).2.2.2.1 6 0 = _
        rw [sB_4, if_pos rfl, updL_eq]
      · rw [updL_ne _ _ _ _ (by omega)]
        show (sB _ _ _).2.2.2.1 6 1 = _
        rw [sB_4, if_pos rfl, updL_eq]
      · rw [updL_eq]
    · rw [sJ_2, if_pos rfl]
      show τ.2.1 3 + Int64.ofNat (f (pm (whl X Y) 0) / 2 ^ s) + Int64.ofNat (f (pm (whl X Y) 1) / 2 ^ s) + Int64.ofNat (f (pm (whl X Y) 2) / 2 ^ s) = _
      rw [h3, show (0 : Int64) = Int64.ofNat 0 from rfl, ln_add, ln_add, ln_add, Nat.zero_add]
  -- the first loop
  have step : ∀ (n i a : Nat) (υ : Sg), i < 3 → a < 18014398509481985 → Fr pSs σ υ → L_Cov_setShares_4 (n + 1) υ (Int64.ofNat a) (Int32.ofNat i) = L_Cov_setShares_4 n (sB υ 6 (vp_updL (υ.2.2.2.1 6) i (Int64.ofNat (f (pm (whl X Y) i))))) (Int64.ofNat (if f (pm (whl X Y) i) < a then a else f (pm (whl X Y) i))) (Int32.ofNat (i + 1)) := by
    intro n i a υ hi ha hF
    have lj := ci_lt k _ hk.2 (pj i hi)
    have hfb := fb _ (pj i hi)
    have w5 : υ.2.2.2.1 5 i = Int64.ofInt (wgt X Y (pm (whl X Y) i) x y) := by rw [hF.2.2.2.1 5 (by decide)]; exact hw i hi
    have w28 : υ.2.2.1 28 i = Int32.ofNat (ci k (pm (whl X Y) i)) := by rw [hF.2.2.1 28 (by decide)]; exact hW i hi
    have w27 : υ.2.2.1 27 (ci k (pm (whl X Y) i)) = Q (pm (whl X Y) i) := by rw [hF.2.2.1 27 (by decide)]; exact hN _ (pj i hi)
    have e := (shf_eq X Y Q x y _ (pj i hi) hx hy hX hY hQ hc).2.1
    rw [hf] at e
    rw [L_Cov_setShares_4, if_neg (by rw [show (3 : Int32) = Int32.ofNat 3 from rfl, n_le _ _ (by omega) (by omega)]; omega)]
    simp only [ck_pos (n_inb i 3 hi (by omega)), n_nat i (by omega), w28, ck_pos (n_inb _ 8 lj (by omega)), n_nat _ (show ci k (pm (whl X Y) i) < 2147483648 by omega), w5, w27, lo_ext (Q (pm (whl X Y) i)), lo_mul, e, lt, sB_4, if_true, updL_eq, lmaxn a _ (by omega) (show f (pm (whl X Y) i) < 9223372036854775808 by omega), n_succ]
  have b0 := fb _ (pj 0 (by omega))
  have b1 := fb _ (pj 1 (by omega))
  have b2 := fb _ (pj 2 (by omega))
  generalize hg : (fun i => f (pm (whl X Y) i)) = g at *
  have g0 : f (pm (whl X Y) 0) = g 0 := by rw [← hg]
  have g1 : f (pm (whl X Y) 1) = g 1 := by rw [← hg]
  have g2 : f (pm (whl X Y) 2) = g 2 := by rw [← hg]
  unfold F_Cov_setShares
  have F1 : Fr pSs σ (sB σ 6 (vp_updL (σ.2.2.2.1 6) 0 (Int64.ofNat (f (pm (whl X Y) 0))))) := fr_sB Fr.rfl _ _ (by decide)
  rw [show (0 : Int64) = Int64.ofNat 0 from rfl, show (0 : Int32) = Int32.ofNat 0 from rfl, show (100000 : Nat) = 99996 + 1 + 1 + 1 + 1 from rfl, step _ 0 _ σ (by omega) (by omega) Fr.rfl, step _ 1 _ _ (by omega) (by split <;> omega) F1]
  have F2 : Fr pSs σ (sB (sB σ 6 (vp_updL (σ.2.2.2.1 6) 0 (Int64.ofNat (f (pm (whl X Y) 0))))) 6 (vp_updL ((sB σ 6 (vp_updL (σ.2.2.2.1 6) 0 (Int64.ofNat (f (pm (whl X Y) 0))))).2.2.2.1 6) 1 (Int64.ofNat (f (pm (whl X Y) 1))))) := fr_sB F1 _ _ (by decide)
  rw [step _ 2 _ _ (by omega) (by split <;> split <;> omega) F2, L_Cov_setShares_4, if_pos (by decide)]
  generalize hM : (if f (pm (whl X Y) 2) < (if f (pm (whl X Y) 1) < (if f (pm (whl X Y) 0) < 0 then 0 else f (pm (whl X Y) 0)) then (if f (pm (whl X Y) 0) < 0 then 0 else f (pm (whl X Y) 0)) else f (pm (whl X Y) 1)) then (if f (pm (whl X Y) 1) < (if f (pm (whl X Y) 0) < 0 then 0 else f (pm (whl X Y) 0)) then (if f (pm (whl X Y) 0) < 0 then 0 else f (pm (whl X Y) 0)) else f (pm (whl X Y) 1)) else f (pm (whl X Y) 2)) = M
  have hMb : M < 18014398509481985 := by rw [← hM]; (repeat' split) <;> omega
  have hMge : ∀ i, i < 3 → f (pm (whl X Y) i) ≤ M := by
    intro i hi
    have : i = 0 ∨ i = 1 ∨ i = 2 := by omega
    rw [← hM]
    rcases this with rfl | rfl | rfl <;> (repeat' split) <;> omega
  have hMex : ∃ i, i < 3 ∧ f (pm (whl X Y) i) = M := by
    rw [← hM]
    (repeat' split) <;> first | exact ⟨0, by omega, by omega⟩ | exact ⟨1, by omega, rfl⟩ | exact ⟨2, by omega, rfl⟩ | exact ⟨0, by omega, rfl⟩
  obtain ⟨b, hb62, hb1, hb2, hb3, hb4⟩ := e_lnz M (by omega)
  rw [hb1, bd_def, lt_def, lt_def]
  have esh : imax ((64 - Int32.ofNat (64 - b)) - 29) 0 = Int32.ofNat (b - 29) := by
    have e1 : (64 : Int32) - Int32.ofNat (64 - b) = Int32.ofNat b := by
      rw [show (64 : Int32) = Int32.ofNat 64 from rfl, i_subn _ _ (by omega)]; congr 1; omega
    rw [e1]
    apply i_inj
    have z : (29 : Int32).toInt = 29 := rfl
    have z0 : (0 : Int32).toInt = 0 := rfl
    have e2 : (Int32.ofNat b - 29).toInt = (b : Int) - 29 := by rw [i_sub, n_int b (by omega), z] <;> rw [n_int b (by omega), z] <;> omega
    rw [imax_int, e2, z0, n_int _ (by omega)]
    split <;> omega
  rw [esh]
  obtain ⟨q1, q2⟩ := sh_of_bl M b hb2 hb3 hb4
  obtain ⟨σ', s1, s2, s3, s4⟩ := last (sJ (sB (sB (sB σ 6 (vp_updL (σ.2.2.2.1 6) 0 (Int64.ofNat (f (pm (whl X Y) 0))))) 6 (vp_updL ((sB σ 6 (vp_updL (σ.2.2.2.1 6) 0 (Int64.ofNat (f (pm (whl X Y) 0))))).2.2.2.1 6) 1 (Int64.ofNat (f (pm (whl X Y) 1))))) 6 (vp_updL ((sB (sB σ 6 (vp_updL (σ.2.2.2.1 6) 0 (Int64.ofNat (f (pm (whl X Y) 0))))) 6 (vp_updL ((sB σ 6 (vp_updL (σ.2.2.2.1 6) 0 (Int64.ofNat (f (pm (whl X Y) 0))))).2.2.2.1 6) 1 (Int64.ofNat (f (pm (whl X Y) 1))))).2.2.2.1 6) 2 (Int64.ofNat (f (pm (whl X Y) 2))))) 3 0) (b - 29) (by omega) (fun i hi => by
      have : i = 0 ∨ i = 1 ∨ i = 2 := by omega
      show (sB _ _ _).2.2.2.1 6 i = _
      rw [sB_4, if_pos rfl]
      rcases this with rfl | rfl | rfl
      · rw [updL_ne _ _ _ _ (by omega), sB_4, if_pos rfl, updL_ne _ _ _ _ (by omega), sB_4, if_pos rfl, updL_eq]
      · rw [updL_ne _ _ _ _ (by omega), sB_4, if_pos rfl, updL_eq]
      · rw [updL_eq]) (by rw [sJ_2, if_pos rfl])
  refine ⟨σ', b - 29, s1, ((fr_sJ (fr_sB F2 _ _ (by decide)) _ _ (by decide)).trans s2), ?_, by omega, s3, s4⟩
  have inv : ∀ j, j < 3 → ∃ i, i < 3 ∧ pm (whl X Y) i = j := by
    intro j hj
    unfold pm
    have : j = 0 ∨ j = 1 ∨ j = 2 := by omega
    by_cases c : whl X Y < 0
    · simp only [if_pos c]
      rcases this with rfl | rfl | rfl
      · exact ⟨0, by omega, rfl⟩
      · exact ⟨2, by omega, rfl⟩
      · exact ⟨1, by omega, rfl⟩
    · simp only [if_neg c]; exact ⟨j, hj, rfl⟩
  constructor
  · intro j hj
    obtain ⟨i, hi, e⟩ := inv j hj
    have h1 := hMge i hi
    rw [e] at h1
    have := Nat.div_le_div_right (c := 2 ^ (b - 29)) h1
    omega
  · rcases q2 with h | h
    · exact Or.inl h
    · obtain ⟨i, hi, e⟩ := hMex
      exact Or.inr ⟨_, pj i hi, by rw [e]; exact h⟩
