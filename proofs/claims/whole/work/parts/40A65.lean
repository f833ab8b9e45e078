theorem e_pass134 (ω : Nat → Int32) (N : Nat) (σ : Sg) (pid i : Nat) (hp : pid < 3) (hN : N ≤ 256) (hi : i < N) (hw : ∀ j, j < 3 * N → σ.2.2.1 (21 + pid) j = ω j) (h3 : s3N ω i < 65536) :
    ∃ r : Int32, F_Chk_pass_134 σ pid (Int32.ofNat i) = some (sI σ (24 + 3 * pid) (σ.1 (24 + 3 * pid) ||| r)) ∧ ∀ s, (s = s1N ω i ∨ s = s2N ω i ∨ s = s3N ω i) → s % 4 = 1 → rdb r (s / 4 % 8) := by
  obtain ⟨a1, a2, a3, a4⟩ := i256 i (by omega)
  have hl : lenC σ (21 + 1 * pid) = 768 := by
    have : pid = 0 ∨ pid = 1 ∨ pid = 2 := by omega
    rcases this with rfl | rfl | rfl <;> rfl
  have e21 : 21 + 1 * pid = 21 + pid := by omega
  have u1 := un_lt (ω (3 * i + 1))
  have q1 : ω (3 * i + 1) &&& 65535 = Int32.ofNat (s1N ω i) := w_s1 _
  have q2 : ushr (ω (3 * i + 1)) 16 = Int32.ofNat (s2N ω i) := w_s2 _
  have q3 : ω (3 * i + 2) = Int32.ofNat (s3N ω i) := by unfold s3N; exact (ofNat_un _).symm
  have b1 : s1N ω i < 65536 := Nat.mod_lt _ (by omega)
  have b2 : s2N ω i < 65536 := by unfold s2N; omega
  unfold F_Chk_pass_134
  rw [ck_pos hp, a1, a2, a3, hl, ck_pos (n_inb _ 768 (by omega) (by omega)), n_nat (3 * i + 1) (by omega), e21, hw _ (by omega), lt_def, q1, q2, e_readBy _ b1, bd_def, e_readBy _ b2, bd_def, ck_pos (n_inb _ 768 (by omega) (by omega)), n_nat (3 * i + 2) (by omega), hw _ (by omega), q3, e_readBy _ h3, bd_def, lt_def]
  refine ⟨_, rfl, fun s hs h1 => ?_⟩
  have hb : ∀ s : Nat, s % 4 = 1 → rdb (if s % 4 = 1 then Int32.ofNat (2 ^ (s / 4 % 8)) else 0) (s / 4 % 8) := fun s h => by
    rw [if_pos h]; exact tb_pow _ (Nat.mod_lt _ (by omega))
  rcases hs with rfl | rfl | rfl
  · exact tb_or _ _ _ (Or.inl (tb_or _ _ _ (Or.inl (hb _ h1))))
  · exact tb_or _ _ _ (Or.inl (tb_or _ _ _ (Or.inr (hb _ h1))))
  · exact tb_or _ _ _ (Or.inr (hb _ h1))
theorem okSS_s3 (m : Nat) (w1 w2 : Int32) (h : okSS m w1 w2 = true) : un w2 < 65536 ∧ okS (decide (1 ≤ m)) (un w1 % 65536) = true ∧ okS (decide (2 ≤ m)) (un w1 / 65536) = true ∧ okS (decide (3 ≤ m)) (un w2) = true := by
  unfold okSS at h
  simp only [Bool.and_eq_true, beq_iff_eq] at h
  obtain ⟨h1, h2, h3, h4⟩ := h
  have h5 : un w2 < 65536 := by omega
  rw [Nat.mod_eq_of_lt h5] at h3
  exact ⟨h5, h1, h2, h3⟩
theorem e_pass (ω : Nat → Int32) (N : Nat) (pl : Int32) (σ0 σ : Sg) (pid i : Nat) (hp : pid < 3) (hN : N ≤ 256) (hi : i < N) (hw : ∀ j, j < 3 * N → σ0.2.2.1 (21 + pid) j = ω j) (hf : ∀ j, j ≤ i → fau ω N pl j = 0) (hC : ChkI ω pid i σ0 σ) :
    ∃ σ', F_Chk_pass σ pid (Int32.ofNat i) = some σ' ∧ ChkI ω pid (i + 1) σ0 σ' := by
  obtain ⟨f1, f2, f3, f4, f5, f6, f7, f8, f9⟩ := hC
  obtain ⟨a1, a2, a3, a4⟩ := i256 i (by omega)
  obtain ⟨z1, -, z3, z4, z5, z6, -⟩ := fau_zero ω N pl i (hf i (Nat.le_refl i))
  have hl4 := stk_len ω N pl i (fun j hj => hf j (by omega))
  have h3 := (okSS_s3 _ _ _ z3).1
  have hpr := pr_le4 ω N pl i (fun j hj => hf j (by omega))
  have hl : ∀ τ : Sg, lenC τ (21 + 1 * pid) = 768 := by
    intro τ
    have : pid = 0 ∨ pid = 1 ∨ pid = 2 := by omega
    rcases this with rfl | rfl | rfl <;> rfl
  have e21 : 21 + 1 * pid = 21 + pid := by omega
  have hwσ : ∀ j, j < 3 * N → σ.2.2.1 (21 + pid) j = ω j := fun j hj => by rw [f1.2.2.1 _ (by simp [pChk]; omega)]; exact hw j hj
  have q0 : ω (3 * i) &&& 63 = Int32.ofNat (kdN ω i) := w_kd _
  have q1 : ushr (ω (3 * i)) 17 = Int32.ofNat (nmN ω i) := w_nm _
  have hnm := nm_lt ω i
  have nj : ∀ j, j < 64 → (Int32.ofNat (kdN ω i) = Int32.ofNat j ↔ kdN ω i = j) := fun j hj => n_inj _ _ (by omega) (by omega)
  -- from the last part on
  have fin : ∀ (τ : Sg), Fr (pChk pid) σ0 τ → τ.1 12 = 0 → τ.1 13 = -1 → τ.1 14 = Int32.ofNat (stk ω (i + 1)).length → StkO (τ.2.2.1 9) (stk ω (i + 1)) → TmO ω (τ.2.2.2.1 0) (stk ω (i + 1)) → τ.2.1 1 = Int64.ofNat (ssum (fun j => pr ω (stk ω j)) (i + 1)) → (∀ j, j < i + 1 → τ.2.2.1 8 j = gI (stk ω j).head?) → τ.1 (24 + 3 * pid) = σ.1 (24 + 3 * pid) →
      ∃ σ', F_Chk_pass_134 τ pid (Int32.ofNat i) = some σ' ∧ ChkI ω pid (i + 1) σ0 σ' := by
    intro τ g1 g2 g3 g4 g5 g6 g7 g8 g9
    obtain ⟨r, r1, r2⟩ := e_pass134 ω N τ pid i hp hN hi (fun j hj => by rw [g1.2.2.1 _ (by simp [pChk]; omega)]; exact hw j hj) h3
    rw [r1]
    refine ⟨_, rfl, fr_sI g1 _ _ (by simp [pChk]), ?_, ?_, ?_, g5, g6, g7, g8, fun j hj s hs hs1 => ?_⟩
    · rw [sI_1, if_neg (by omega)]; exact g2
    · rw [sI_1, if_neg (by omega)]; exact g3
    · rw [sI_1, if_neg (by omega)]; exact g4
    · rw [sI_1, if_pos rfl]
      by_cases c : j = i
      · subst c; exact tb_or _ _ _ (Or.inr (r2 s hs hs1))
      · apply tb_or; left; rw [g9]; exact f9 j (by omega) s hs hs1
  have e42 : ∀ v : Int32, v = gI (stk ω i).head? → ∃ σ', F_Chk_pass_42 σ pid (Int32.ofNat i) (ω (3 * i)) (Int32.ofNat (kdN ω i)) (Int32.ofNat i) v = some σ' ∧ ChkI ω pid (i + 1) σ0 σ' := by
    intro v hv
    unfold F_Chk_pass_42
    rw [ck_pos hp, ck_pos (n_inb i 256 (by omega) (by omega)), n_nat i (by omega), lt_def]
    generalize hσa : sA σ 8 (upd (σ.2.2.1 8) i v) = σa
    have fa : Fr (pChk pid) σ0 σa := by rw [← hσa]; exact fr_sA f1 _ _ (by simp [pChk])
    have a14 : σa.1 14 = Int32.ofNat (stk ω i).length := by rw [← hσa]; exact f4
    have aB : σa.2.2.2.1 0 = σ.2.2.2.1 0 := by rw [← hσa]; rfl
    have a8 : ∀ j, j < i + 1 → σa.2.2.1 8 j = gI (stk ω j).head? := fun j hj => by
      rw [← hσa, sA_3, if_pos rfl]
      by_cases c : j = i
      · subst c; rw [upd_eq]; exact hv
      · rw [upd_ne _ _ _ _ c]; exact f8 j (by omega)
    have a9 : σa.2.2.1 9 = σ.2.2.1 9 := by rw [← hσa]; rfl
    have aJ : σa.2.1 1 = σ.2.1 1 := by rw [← hσa]; rfl
    have aI : σa.1 = σ.1 := by rw [← hσa]; rfl
    rw [a14, ck_pos (n_inb _ 5 (by omega) (by omega)), n_nat _ (by omega), aB, TmO_top ω _ _ f6, aJ, f7, ln_add, lt_def]
    generalize hσb : sJ σa 1 (Int64.ofNat (ssum (fun j => pr ω (stk ω j)) i + pr ω (stk ω i))) = σb
    have fb : Fr (pChk pid) σ0 σb := by rw [← hσb]; exact fr_sJ fa _ _ (by simp [pChk])
    have b14 : σb.1 14 = Int32.ofNat (stk ω i).length := by rw [← hσb]; exact a14
    have bB : σb.2.2.2.1 0 = σ.2.2.2.1 0 := by rw [← hσb]; exact aB
    have b8 : ∀ j, j < i + 1 → σb.2.2.1 8 j = gI (stk ω j).head? := by rw [← hσb]; exact a8
    have b9 : σb.2.2.1 9 = σ.2.2.1 9 := by rw [← hσb]; exact a9
    have bJ : σb.2.1 1 = Int64.ofNat (ssum (fun j => pr ω (stk ω j)) (i + 1)) := by rw [← hσb, sJ_2, if_pos rfl]; rfl
    have bI' : σb.1 = σ.1 := by rw [← hσb]; exact aI
    by_cases c34 : kdN ω i = 34
    · have hs : stk ω (i + 1) = i :: stk ω i := by simp only [stk, if_pos c34]
      have hlt := z6 c34
      rw [if_pos (show Int32.ofNat (kdN ω i) = 34 from (nj 34 (by omega)).mpr c34), b14, ck_pos (n_inb _ 4 (by omega) (by omega)), n_nat _ (by omega), lt_def]
      have e14 : (sA σb 9 (upd (σb.2.2.1 9) (stk ω i).length (Int32.ofNat i))).1 14 = Int32.ofNat (stk ω i).length := b14
      rw [e14, ck_pos (n_inb _ 5 (by omega) (by omega)), n_succ, ck_pos (n_inb _ 5 (by omega) (by omega)), n_nat _ (by omega), n_nat _ (by omega), q1, ln_ext _ (by omega), lt_def]
      have eB : (sA σb 9 (upd (σb.2.2.1 9) (stk ω i).length (Int32.ofNat i))).2.2.2.1 0 = σ.2.2.2.1 0 := bB
      rw [eB, TmO_top ω _ _ f6, ln_mul, lt_def]
      refine fin _ (fr_sI (fr_sB (fr_sA fb _ _ (by simp [pChk])) _ _ (by simp [pChk])) _ _ (by simp [pChk])) ?_ ?_ ?_ ?_ ?_ bJ b8 ?_
      · rw [sI_1, if_neg (by omega)]; show σb.1 12 = 0; rw [bI']; exact f2
      · rw [sI_1, if_neg (by omega)]; show σb.1 13 = -1; rw [bI']; exact f3
      · rw [sI_1, if_pos rfl, hs, List.length_cons]
        show σb.1 14 + 1 = _
        rw [b14, n_succ]
      · rw [hs]
        refine ⟨?_, StkO_ext (σ.2.2.1 9) _ _ (fun k hk => ?_) f5⟩
        · show (upd (σb.2.2.1 9) (stk ω i).length (Int32.ofNat i)) (stk ω i).length = _
          rw [upd_eq]
        · show (upd (σb.2.2.1 9) (stk ω i).length (Int32.ofNat i)) k = _
          rw [upd_ne _ _ _ _ (by omega), b9]
      · rw [hs]
        refine ⟨?_, TmO_ext ω (σ.2.2.2.1 0) _ _ (fun k hk => ?_) f6⟩
        · show (vp_updL (σ.2.2.2.1 0) ((stk ω i).length + 1) _) ((stk ω i).length + 1) = _
          unfold vp_updL; rw [if_pos rfl]; rfl
        · show (vp_updL (σ.2.2.2.1 0) ((stk ω i).length + 1) _) k = _
          unfold vp_updL; rw [if_neg (by omega)]
      · rw [sI_1, if_neg (by omega)]; show σb.1 _ = _; rw [bI']
    · rw [if_neg (show ¬ Int32.ofNat (kdN ω i) = 34 from fun h => c34 ((nj 34 (by omega)).mp h))]
      by_cases c35 : kdN ω i = 35
      · have hne := z5 c35
        have hs : stk ω (i + 1) = (stk ω i).tail := by simp only [stk, if_neg c34, if_pos c35]
        rw [if_pos (show Int32.ofNat (kdN ω i) = 35 from (nj 35 (by omega)).mpr c35), lt_def]
        cases hsi : stk ω i with
        | nil => exact absurd hsi hne
        | cons b r =>
          rw [hsi] at hs f5 f6 b14 hl4
          refine fin _ (fr_sI fb _ _ (by simp [pChk])) ?_ ?_ ?_ ?_ ?_ bJ b8 ?_
          · rw [sI_1, if_neg (by omega)]; rw [bI']; exact f2
          · rw [sI_1, if_neg (by omega)]; rw [bI']; exact f3
          · rw [sI_1, if_pos rfl, b14, hs, i_pred' _ (by simp; simp at hl4; omega) (by simp)]; simp
          · rw [hs]; show StkO (σb.2.2.1 9) r; rw [b9]; exact f5.2
          · rw [hs]; show TmO ω (σb.2.2.2.1 0) r; rw [bB]; exact f6.2
          · rw [sI_1, if_neg (by omega), bI']
      · have hs : stk ω (i + 1) = stk ω i := by simp only [stk, if_neg c34, if_neg c35]
        rw [if_neg (show ¬ Int32.ofNat (kdN ω i) = 35 from fun h => c35 ((nj 35 (by omega)).mp h))]
        refine fin _ fb ?_ ?_ ?_ ?_ ?_ bJ b8 ?_
        · rw [bI']; exact f2
        · rw [bI']; exact f3
        · rw [b14, hs]
        · rw [hs, b9]; exact f5
        · rw [hs, bB]; exact f6
        · rw [bI']
  unfold F_Chk_pass
  rw [ck_pos hp, hl, a1, ck_pos (n_inb _ 768 (by omega) (by omega)), n_nat _ (by omega), e21, hwσ _ (by omega), lt_def, lt_def, q0, f4]
  cases hsi : stk ω i with
  | nil =>
    rw [if_pos (show Int32.ofNat ([] : List Nat).length = 0 from rfl)]
    exact e42 (-1) (by rw [hsi]; rfl)
  | cons b r =>
    rw [hsi] at hl4 f5
    have hlr : (b :: r).length - 1 = r.length := by simp
    rw [if_neg (show ¬ Int32.ofNat (b :: r).length = 0 from fun h => by have := (n_inj _ 0 (by omega) (by omega)).mp h; simp at this), i_pred' _ (by omega) (by simp), hlr, ck_pos (n_inb _ 4 (by simp at hl4; omega) (by simp at hl4; omega)), n_nat _ (by simp at hl4; omega)]
    exact e42 _ (by rw [hsi]; exact f5.1)
