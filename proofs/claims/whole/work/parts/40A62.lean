/-! the first thing wrong with an instruction -/
def fau (ω : Nat → Int32) (N : Nat) (pl : Int32) (i : Nat) : Nat :=
  if 40 < kdN ω i then 1 else if okTT (un (ω (3 * i))) = false then 2 else if okSS (tb_SOURCES (kdN ω i)).toNatClampNeg (ω (3 * i + 1)) (ω (3 * i + 2)) = false then 3 else if okN (kdN ω i) (nmN ω i) i N = false then 4
  else if (kdN ω i = 35 ∧ (stk ω i).length = 0) ∨ (kdN ω i = 34 ∧ 4 ≤ (stk ω i).length) then 5 else if ¬ (kdN ω i = 0 ↔ i + 1 = N) then 6 else if kdN ω i = 38 ∧ pl = 0 then 7 else 0
theorem kd_lt (ω : Nat → Int32) (i : Nat) : kdN ω i < 64 := Nat.mod_lt _ (by omega)
theorem i_pred' (x : Nat) (h : x < 2147483648) (h1 : 1 ≤ x) : Int32.ofNat x - 1 = Int32.ofNat (x - 1) := by
  have : Int32.ofNat x = Int32.ofNat (x - 1) + 1 := by rw [n_succ]; congr 1; omega
  rw [this]; grind
theorem e_169 (σ : Sg) (pl : Int32) (m : Nat) (hm : m < 64) (a b : Bool) : F_Chk_faultAt_169 σ pl (Int32.ofNat m) (bI a) (bI b) = some (Int32.ofNat (if ¬ (a = true ↔ b = true) then 6 else if m = 38 ∧ pl = 0 then 7 else 0)) ∧ F_Shm_faultOf_102 σ pl (Int32.ofNat m) (bI a) (bI b) = some (Int32.ofNat (if ¬ (a = true ↔ b = true) then 6 else if m = 38 ∧ pl = 0 then 7 else 0)) := by
  have l38 : Int32.ofNat m = 38 ↔ m = 38 := n_inj m 38 (by omega) (by omega)
  unfold F_Chk_faultAt_169 F_Shm_faultOf_102 F_Chk_faultAt_192 F_Chk_faultAt_191 F_Shm_faultOf_125 F_Shm_faultOf_124
  simp only [l38, F_Chk_faultAt_192, F_Shm_faultOf_125]
  have key : (if m = 38 then (if pl = 0 then some (7 : Int32) else some 0) else some 0) = some (Int32.ofNat (if m = 38 ∧ pl = 0 then 7 else 0)) := by
    by_cases c : m = 38
    · by_cases d : pl = 0
      · simp [c, d]
      · simp [c, d]
    · simp [c]
  cases a <;> cases b
  · exact ⟨key, key⟩
  · exact ⟨rfl, rfl⟩
  · exact ⟨rfl, rfl⟩
  · exact ⟨key, key⟩
theorem e_faultAt (ω : Nat → Int32) (N : Nat) (σ : Sg) (pid i : Nat) (pl : Int32) (hp : pid < 3) (hN : N ≤ 256) (hi : i < N) (hm : σ.1 (22 + 3 * pid) = Int32.ofNat N) (hw : ∀ j, j < 3 * N → σ.2.2.1 (21 + pid) j = ω j) (hd : σ.1 14 = Int32.ofNat (stk ω i).length) (hl4 : (stk ω i).length ≤ 4) :
    F_Chk_faultAt σ pid (Int32.ofNat i) pl = some (Int32.ofNat (fau ω N pl i)) := by
  obtain ⟨a1, a2, a3, a4⟩ := i256 i (by omega)
  have hk := kd_lt ω i
  have hn := nm_lt ω i
  have hl : lenC σ (21 + 1 * pid) = 768 := by
    have : pid = 0 ∨ pid = 1 ∨ pid = 2 := by omega
    rcases this with rfl | rfl | rfl <;> rfl
  have e21 : 21 + 1 * pid = 21 + pid := by omega
  have q0 : ω (3 * i) &&& 63 = Int32.ofNat (kdN ω i) := w_kd _
  have q1 : ushr (ω (3 * i)) 17 = Int32.ofNat (nmN ω i) := w_nm _
  have q4 : ((ushr (ω (3 * i)) 6) &&& 2047) = Int32.ofNat (un (ω (3 * i)) / 64 % 2048) := u_field _ 6 11 (by omega) (by omega)
  have h2 : un (ω (3 * i)) / 64 % 2048 < 2048 := Nat.mod_lt _ (by omega)
  have nj : ∀ j, j < 64 → (Int32.ofNat (kdN ω i) = Int32.ofNat j ↔ kdN ω i = j) := fun j hj => n_inj _ _ (by omega) (by omega)
  unfold F_Chk_faultAt
  rw [ck_pos hp, hl, a1, ck_pos (n_inb _ 768 (by omega) (by omega)), n_nat _ (by omega), e21, hw _ (by omega), lt_def, lt_def, q0]
  unfold fau
  by_cases c40 : 40 < kdN ω i
  · rw [if_pos c40, if_neg (by rw [show (40 : Int32) = Int32.ofNat 40 from rfl, n_le _ _ (by omega) (by omega)]; omega)]; rfl
  · rw [if_neg c40, if_pos (by rw [show (40 : Int32) = Int32.ofNat 40 from rfl, n_le _ _ (by omega) (by omega)]; omega)]
    obtain ⟨b1, b2, b3, -⟩ := srcs (kdN ω i) (by omega)
    have e59 : F_Chk_faultAt_59 σ pid (Int32.ofNat i) pl (ω (3 * i)) (Int32.ofNat (kdN ω i)) = some (Int32.ofNat (if okSS (tb_SOURCES (kdN ω i)).toNatClampNeg (ω (3 * i + 1)) (ω (3 * i + 2)) = false then 3 else if okN (kdN ω i) (nmN ω i) i N = false then 4 else if (kdN ω i = 35 ∧ (stk ω i).length = 0) ∨ (kdN ω i = 34 ∧ 4 ≤ (stk ω i).length) then 5 else if ¬ (kdN ω i = 0 ↔ i + 1 = N) then 6 else if kdN ω i = 38 ∧ pl = 0 then 7 else 0)) := by
      unfold F_Chk_faultAt_59
      rw [ck_pos hp, ck_pos b1, a1, a2, a3, hl, ck_pos (n_inb _ 768 (by omega) (by omega)), ck_pos (n_inb _ 768 (by omega) (by omega)), b2, n_nat (3 * i + 1) (by omega), n_nat (3 * i + 2) (by omega), e21, hw _ (by omega), hw _ (by omega), e_sourcesMayBe _ _ _ b3, bd_def]
      cases hS : okSS (tb_SOURCES (kdN ω i)).toNatClampNeg (ω (3 * i + 1)) (ω (3 * i + 2))
      · rfl
      · rw [if_neg (show ¬ bI true = 0 by decide), if_neg (show ¬ (true = false) by decide), q1, hm, e_numberMayBe _ _ _ _ (by omega) hn (by omega) hN, bd_def]
        cases hO : okN (kdN ω i) (nmN ω i) i N
        · rfl
        · rw [if_neg (show ¬ bI true = 0 by decide), if_neg (show ¬ (true = false) by decide)]
          have e144 : F_Chk_faultAt_144 σ pid (Int32.ofNat i) pl (Int32.ofNat (kdN ω i)) = some (Int32.ofNat (if ¬ (kdN ω i = 0 ↔ i + 1 = N) then 6 else if kdN ω i = 38 ∧ pl = 0 then 7 else 0)) := by
            have e154 : ∀ b : Bool, F_Chk_faultAt_154 σ pid (Int32.ofNat i) pl (Int32.ofNat (kdN ω i)) (bI b) = some (Int32.ofNat (if ¬ (b = true ↔ i + 1 = N) then 6 else if kdN ω i = 38 ∧ pl = 0 then 7 else 0)) := by
              intro b
              unfold F_Chk_faultAt_154
              have e1 : Int32.ofNat i = Int32.ofNat N - 1 ↔ i + 1 = N := by
                rw [i_pred' N (by omega) (by omega), n_inj _ _ (by omega) (by omega)]; omega
              rw [ck_pos hp, hm]
              by_cases x : i + 1 = N
              · rw [if_pos (e1.mpr x)]
                have := (e_169 σ pl (kdN ω i) hk b true).1
                simp only [x, iff_true] at this ⊢
                exact this
              · rw [if_neg (fun h => x (e1.mp h))]
                have := (e_169 σ pl (kdN ω i) hk b false).1
                simp only [x, iff_false] at this ⊢
                simp only [Bool.false_eq_true, iff_false] at this
                exact this
            unfold F_Chk_faultAt_144
            rw [ck_pos hp]
            by_cases x : kdN ω i = 0
            · rw [if_pos (show Int32.ofNat (kdN ω i) = 0 from (nj 0 (by omega)).mpr x)]
              have := e154 true
              simp only [x, true_iff] at this ⊢
              exact this
            · rw [if_neg (show ¬ Int32.ofNat (kdN ω i) = 0 from fun h => x ((nj 0 (by omega)).mp h))]
              have := e154 false
              simp only [x, false_iff] at this ⊢
              simp only [Bool.false_eq_true, false_iff] at this
              exact this
          have e127 : F_Chk_faultAt_127 σ pid (Int32.ofNat i) pl (Int32.ofNat (kdN ω i)) = some (Int32.ofNat (if kdN ω i = 34 ∧ 4 ≤ (stk ω i).length then 5 else if ¬ (kdN ω i = 0 ↔ i + 1 = N) then 6 else if kdN ω i = 38 ∧ pl = 0 then 7 else 0)) := by
            unfold F_Chk_faultAt_127
            rw [ck_pos hp, hd, e144]
            by_cases x : kdN ω i = 34
            · rw [if_pos (show Int32.ofNat (kdN ω i) = 34 from (nj 34 (by omega)).mpr x)]
              by_cases y : (stk ω i).length = 4
              · rw [if_pos (show Int32.ofNat (stk ω i).length = 4 by rw [y]; rfl), if_pos ⟨x, by omega⟩]; rfl
              · rw [if_neg (show ¬ Int32.ofNat (stk ω i).length = 4 from fun h => y ((n_inj _ 4 (by omega) (by omega)).mp h)), if_neg (show ¬ (kdN ω i = 34 ∧ 4 ≤ (stk ω i).length) by omega)]
            · rw [if_neg (show ¬ Int32.ofNat (kdN ω i) = 34 from fun h => x ((nj 34 (by omega)).mp h)), if_neg (show ¬ (kdN ω i = 34 ∧ 4 ≤ (stk ω i).length) by omega)]
          by_cases x : kdN ω i = 35
          · rw [if_pos (show Int32.ofNat (kdN ω i) = 35 from (nj 35 (by omega)).mpr x), hd]
            by_cases y : (stk ω i).length = 0
            · rw [if_pos (show Int32.ofNat (stk ω i).length = 0 by rw [y]; rfl), if_pos (Or.inl ⟨x, y⟩)]; rfl
            · rw [if_neg (show ¬ Int32.ofNat (stk ω i).length = 0 from fun h => y ((n_inj _ 0 (by omega) (by omega)).mp h)), e127, if_neg (show ¬ (kdN ω i = 34 ∧ 4 ≤ (stk ω i).length) by omega), if_neg (show ¬ ((kdN ω i = 35 ∧ (stk ω i).length = 0) ∨ (kdN ω i = 34 ∧ 4 ≤ (stk ω i).length)) by omega)]
          · rw [if_neg (show ¬ Int32.ofNat (kdN ω i) = 35 from fun h => x ((nj 35 (by omega)).mp h)), e127]
            by_cases z : kdN ω i = 34 ∧ 4 ≤ (stk ω i).length
            · rw [if_pos z, if_pos (Or.inr z)]
            · rw [if_neg z, if_neg (show ¬ ((kdN ω i = 35 ∧ (stk ω i).length = 0) ∨ (kdN ω i = 34 ∧ 4 ≤ (stk ω i).length)) by omega)]
    rw [e59, e_Chk_hasTarget _ (by omega), bd_def]
    unfold okTT
    show _ = some (Int32.ofNat (if (if hasT (kdN ω i) = true then _ else _) = false then _ else _))
    cases hT : hasT (kdN ω i)
    · rw [if_pos (show bI false = 0 from rfl), q4, if_neg (show ¬ (false = true) by decide)]
      by_cases d : un (ω (3 * i)) / 64 % 2048 = 0
      · rw [d]; rfl
      · rw [if_neg (show ¬ Int32.ofNat (un (ω (3 * i)) / 64 % 2048) = 0 from fun h => d ((n_inj _ 0 (by omega) (by omega)).mp h)), if_pos (by simp [d])]; rfl
    · rw [if_neg (show ¬ bI true = 0 by decide), e_targetMayBe, bd_def, if_pos rfl]
      cases okT (un (ω (3 * i)))
      · rfl
      · rfl
