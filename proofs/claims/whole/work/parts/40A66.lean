/-! the check's answer -/
def jm (ω : Nat → Int32) (j : Nat) : Prop := (kdN ω j = 36 ∨ kdN ω j = 37) ∧ (stk ω j).head? ≠ (stk ω (nmN ω j)).head?
def ChkRes (ω : Nat → Int32) (N : Nat) (pl : Int32) (f : Nat) (p : Int32) : Prop :=
  (∃ k, k < N ∧ (∀ j, j < k → fau ω N pl j = 0) ∧ fau ω N pl k ≠ 0 ∧ f = fau ω N pl k ∧ p = Int32.ofNat k) ∨
  ((∀ j, j < N → fau ω N pl j = 0) ∧ ((∃ b r, stk ω N = b :: r ∧ f = 5 ∧ p = Int32.ofNat b) ∨ (stk ω N = [] ∧ ((∃ k, k < N ∧ (∀ j, j < k → ¬ jm ω j) ∧ jm ω k ∧ f = 5 ∧ p = Int32.ofNat k) ∨ ((∀ j, j < N → ¬ jm ω j) ∧ ((65536 < stp ω N ∧ f = 8 ∧ p = -1) ∨ (stp ω N ≤ 65536 ∧ f = 0 ∧ p = -1)))))))
theorem first_uniq (P : Nat → Prop) (a b : Nat) (ha : ∀ j, j < a → ¬ P j) (hb : ∀ j, j < b → ¬ P j) (pa : P a) (pb : P b) : a = b := by
  rcases Nat.lt_trichotomy a b with h | h | h
  · exact absurd pa (hb a h)
  · exact h
  · exact absurd pb (ha b h)
theorem ChkRes_uniq (ω : Nat → Int32) (N : Nat) (pl : Int32) (f f' : Nat) (p p' : Int32) (h : ChkRes ω N pl f p) (h' : ChkRes ω N pl f' p') : f = f' ∧ p = p' := by
  rcases h with ⟨k, k1, k2, k3, k4, k5⟩ | ⟨a, h⟩
  · rcases h' with ⟨k', k1', k2', k3', k4', k5'⟩ | ⟨a', -⟩
    · have : k = k' := first_uniq (fun j => fau ω N pl j ≠ 0) k k' (fun j hj h => h (k2 j hj)) (fun j hj h => h (k2' j hj)) k3 k3'
      subst this
      exact ⟨k4.trans k4'.symm, k5.trans k5'.symm⟩
    · exact absurd (a' k k1) k3
  · rcases h' with ⟨k', k1', -, k3', -⟩ | ⟨-, h'⟩
    · exact absurd (a k' k1') k3'
    · rcases h with ⟨b, r, h1, h2, h3⟩ | ⟨h1, h⟩
      · rcases h' with ⟨b', r', h1', h2', h3'⟩ | ⟨h1', -⟩
        · rw [h1] at h1'
          have := (List.cons.inj h1').1
          subst this
          exact ⟨h2.trans h2'.symm, h3.trans h3'.symm⟩
        · rw [h1] at h1'; cases h1'
      · rcases h' with ⟨b', r', h1', -⟩ | ⟨-, h'⟩
        · rw [h1] at h1'; cases h1'
        · rcases h with ⟨k, k1, k2, k3, k4, k5⟩ | ⟨c, h⟩
          · rcases h' with ⟨k', k1', k2', k3', k4', k5'⟩ | ⟨c', -⟩
            · have : k = k' := first_uniq (jm ω) k k' k2 k2' k3 k3'
              subst this
              exact ⟨k4.trans k4'.symm, k5.trans k5'.symm⟩
            · exact absurd k3 (c' k k1)
          · rcases h' with ⟨k', k1', -, k3', -⟩ | ⟨-, h'⟩
            · exact absurd k3' (c k' k1')
            · rcases h with ⟨x, y, z⟩ | ⟨x, y, z⟩
              · rcases h' with ⟨x', y', z'⟩ | ⟨x', y', z'⟩
                · exact ⟨y.trans y'.symm, z.trans z'.symm⟩
                · omega
              · rcases h' with ⟨x', y', z'⟩ | ⟨x', y', z'⟩
                · omega
                · exact ⟨y.trans y'.symm, z.trans z'.symm⟩
theorem gI_inj (ω : Nat → Int32) (i j : Nat) (hi : i ≤ 256) (hj : j ≤ 256) : gI (stk ω i).head? = gI (stk ω j).head? ↔ (stk ω i).head? = (stk ω j).head? := by
  constructor
  · intro h
    have nneg : ∀ n : Nat, n < 2147483648 → ¬ Int32.ofNat n = -1 := by
      intro n hn h
      have := congrArg Int32.toInt h
      rw [n_int n hn] at this
      have z : (-1 : Int32).toInt = -1 := rfl
      omega
    cases h1 : stk ω i with
    | nil =>
      cases h2 : stk ω j with
      | nil => rfl
      | cons b r =>
        rw [h1, h2] at h
        have := (stk_head ω j b r h2).2.2
        exact absurd h.symm (nneg b (by omega))
    | cons b r =>
      have hb := (stk_head ω i b r h1).2.2
      cases h2 : stk ω j with
      | nil =>
        rw [h1, h2] at h
        exact absurd h (nneg b (by omega))
      | cons b' r' =>
        have hb' := (stk_head ω j b' r' h2).2.2
        rw [h1, h2] at h
        have := (n_inj b b' (by omega) (by omega)).mp h
        subst this; rfl
  · intro h; rw [h]
/-! the class's check -/
theorem e_tell (σ : Sg) (f : Nat) (p : Int32) (hf : f < 64) : F_Chk_tell σ (Int32.ofNat f) p = some (if f = 0 then σ else sI (sI σ 12 (Int32.ofNat f)) 13 p) := by
  unfold F_Chk_tell F_Chk_tell_14
  by_cases c : f = 0
  · subst c; rfl
  · rw [if_neg (show ¬ Int32.ofNat f = 0 from fun h => c ((n_inj _ 0 (by omega) (by omega)).mp h)), if_neg c, lt_def, lt_def]
theorem fau_lt (ω : Nat → Int32) (N : Nat) (pl : Int32) (i : Nat) : fau ω N pl i < 8 := by
  unfold fau; repeat' split
  all_goals omega
/-- after a fault was told the check is over -/
theorem e_80f (σ : Sg) (pid : Nat) (hp : pid < 3) (h : ¬ σ.1 12 = 0) : F_Chk_check_80 σ pid = some (sI σ (23 + 3 * pid) 0) := by
  have e152 : F_Chk_check_152 σ pid = some (sI σ (23 + 3 * pid) 0) := by
    unfold F_Chk_check_152 F_Chk_check_177 F_Chk_check_194
    rw [ck_pos hp, if_neg h, ck_pos hp, if_neg h, ck_pos hp, lt_def]
  unfold F_Chk_check_80 F_Chk_check_110
  rw [ck_pos hp, if_neg h, ck_pos hp, show (100000 : Nat) = 99999 + 1 from rfl, L_Chk_check_112, ck_pos hp, if_neg h, e152]
  split <;> rfl
theorem e_152f (σ : Sg) (pid : Nat) (hp : pid < 3) (h : ¬ σ.1 12 = 0) : F_Chk_check_152 σ pid = some (sI σ (23 + 3 * pid) 0) := by
  unfold F_Chk_check_152 F_Chk_check_177 F_Chk_check_194
  rw [ck_pos hp, if_neg h, ck_pos hp, if_neg h, ck_pos hp, lt_def]
/-- what the check leaves behind -/
def ChkOut (ω : Nat → Int32) (N : Nat) (pl : Int32) (pid : Nat) (σ σ' : Sg) : Prop :=
  Fr (pChk pid) σ σ' ∧ ∃ f : Nat, f < 64 ∧ σ'.1 12 = Int32.ofNat f ∧ ChkRes ω N pl f (σ'.1 13) ∧ (f = 0 → σ'.1 (23 + 3 * pid) = Int32.ofNat (stp ω N) ∧ (∀ j, j < N → ∀ s, (s = s1N ω j ∨ s = s2N ω j ∨ s = s3N ω j) → s % 4 = 1 → rdb (σ'.1 (24 + 3 * pid)) (s / 4 % 8)))
theorem e_check112 (ω : Nat → Int32) (N : Nat) (pl : Int32) (σ0 σ : Sg) (pid : Nat) (hp : pid < 3) (hN : N ≤ 256) (hm : σ0.1 (22 + 3 * pid) = Int32.ofNat N) (hw : ∀ j, j < 3 * N → σ0.2.2.1 (21 + pid) j = ω j) (hf : ∀ j, j < N → fau ω N pl j = 0) (hs : stk ω N = []) (hC : ChkI ω pid N σ0 σ) :
    ∃ σ', F_Chk_check_110 σ pid = some σ' ∧ ChkOut ω N pl pid σ0 σ' := by
  obtain ⟨f1, f2, f3, f4, f5, f6, f7, f8, f9⟩ := hC
  have hmσ : σ.1 (22 + 3 * pid) = Int32.ofNat N := by rw [f1.1 _ (by simp [pChk]; omega)]; exact hm
  have hwσ : ∀ j, j < 3 * N → σ.2.2.1 (21 + pid) j = ω j := fun j hj => by rw [f1.2.2.1 _ (by simp [pChk]; omega)]; exact hw j hj
  have hl : lenC σ (21 + 1 * pid) = 768 := by
    have : pid = 0 ∨ pid = 1 ∨ pid = 2 := by omega
    rcases this with rfl | rfl | rfl <;> rfl
  have e21 : 21 + 1 * pid = 21 + pid := by omega
  have hstp := stp_bd ω N pl N (Nat.le_refl N) hN hf
  have key : ∀ d k, N = k + d → (∀ j, j < k → ¬ jm ω j) → ∀ n, d + 1 < n → ∃ σ', L_Chk_check_112 n σ pid (Int32.ofNat k) = some σ' ∧ ChkOut ω N pl pid σ0 σ' := by
    intro d
    induction d with
    | zero =>
      intro k hk hj n hn
      obtain ⟨n, rfl⟩ : ∃ m, n = m + 1 := ⟨n - 1, by omega⟩
      have : k = N := by omega
      subst this
      rw [L_Chk_check_112, ck_pos hp, hmσ, if_pos (Int32.le_refl _)]
      unfold F_Chk_check_152
      rw [ck_pos hp, if_pos f2, f7]
      have c9 : Int64.ofNat (ssum (fun j => pr ω (stk ω j)) k) ≤ 65536 ↔ stp ω k ≤ 65536 := by
        rw [show (65536 : Int64) = Int64.ofNat 65536 from rfl, Int64.le_iff_toInt_le, ln_int _ (by omega), ln_int _ (by omega)]
        unfold stp; omega
      by_cases c : stp ω k ≤ 65536
      · rw [if_pos (c9.mpr c)]
        unfold F_Chk_check_177 F_Chk_check_194
        rw [ck_pos hp, if_pos f2, ck_pos hp, lt_def, f7, ln_cut]
        refine ⟨_, rfl, fr_sI f1 _ _ (by simp [pChk]), 0, by omega, ?_, ?_, fun _ => ⟨?_, ?_⟩⟩
        · rw [sI_1, if_neg (by omega)]; exact f2
        · rw [sI_1, if_neg (by omega), f3]
          exact Or.inr ⟨hf, Or.inr ⟨hs, Or.inr ⟨hj, Or.inr ⟨c, rfl, rfl⟩⟩⟩⟩
        · rw [sI_1, if_pos rfl]; rfl
        · rw [sI_1, if_neg (by omega)]; exact f9
      · rw [if_neg (fun h => c (c9.mp h)), show F_Chk_tell σ 8 (-1) = _ from e_tell σ 8 (-1) (by omega), bd_def, if_neg (by decide)]
        unfold F_Chk_check_177 F_Chk_check_194
        rw [ck_pos hp, if_neg (show ¬ (sI (sI σ 12 (Int32.ofNat 8)) 13 (-1)).1 12 = 0 from (show ¬ Int32.ofNat 8 = 0 by decide)), ck_pos hp, lt_def]
        refine ⟨_, rfl, fr_sI (fr_sI (fr_sI f1 _ _ (by simp [pChk])) _ _ (by simp [pChk])) _ _ (by simp [pChk]), 8, by omega, ?_, ?_, fun h => by omega⟩
        · rw [sI_1, if_neg (by omega)]; rfl
        · rw [sI_1, if_neg (by omega)]
          exact Or.inr ⟨hf, Or.inr ⟨hs, Or.inr ⟨hj, Or.inl ⟨by omega, rfl, rfl⟩⟩⟩⟩
    | succ d ih =>
      intro k hk hj n hn
      obtain ⟨n, rfl⟩ : ∃ m, n = m + 1 := ⟨n - 1, by omega⟩
      obtain ⟨a1, a2, a3, a4⟩ := i256 k (by omega)
      obtain ⟨-, -, -, zn, -⟩ := fau_zero ω N pl k (hf k (by omega))
      have hk64 := kd_lt ω k
      have nj : ∀ j, j < 64 → (Int32.ofNat (kdN ω k) = Int32.ofNat j ↔ kdN ω k = j) := fun j hj => n_inj _ _ (by omega) (by omega)
      have q0 : ω (3 * k) &&& 63 = Int32.ofNat (kdN ω k) := w_kd _
      have q1 : ushr (ω (3 * k)) 17 = Int32.ofNat (nmN ω k) := w_nm _
      have e142 : ∀ b : Bool, (b = true ↔ jm ω k) → ∃ σ', F_Chk_check_142 (L_Chk_check_112 n) σ pid (Int32.ofNat k) (Int32.ofNat (if b then 5 else 0)) = some σ' ∧ ChkOut ω N pl pid σ0 σ' := by
        intro b hb
        unfold F_Chk_check_142
        rw [ck_pos hp, e_tell _ _ _ (by split <;> omega), bd_def, lt_def, n_succ]
        cases b
        · exact ih (k + 1) (by omega) (fun j hj' => by
            by_cases c : j = k
            · subst c; intro h; exact absurd (hb.mpr h) (by decide)
            · exact hj j (by omega)) n (by omega)
        · rw [if_neg (by decide)]
          obtain ⟨n, rfl⟩ : ∃ m, n = m + 1 := ⟨n - 1, by omega⟩
          have h12 : ¬ (sI (sI σ 12 (Int32.ofNat 5)) 13 (Int32.ofNat k)).1 12 = 0 := (show ¬ Int32.ofNat 5 = 0 by decide)
          have hend : L_Chk_check_112 (n + 1) (sI (sI σ 12 (Int32.ofNat 5)) 13 (Int32.ofNat k)) pid (Int32.ofNat (k + 1)) = some (sI (sI (sI σ 12 (Int32.ofNat 5)) 13 (Int32.ofNat k)) (23 + 3 * pid) 0) := by
            rw [L_Chk_check_112, ck_pos hp, if_neg h12, e_152f _ pid hp h12]
            split <;> rfl
          refine ⟨_, hend, fr_sI (fr_sI (fr_sI f1 _ _ (by simp [pChk])) _ _ (by simp [pChk])) _ _ (by simp [pChk]), 5, by omega, ?_, ?_, fun h => by omega⟩
          · rw [sI_1, if_neg (by omega)]; rfl
          · rw [sI_1, if_neg (by omega)]
            exact Or.inr ⟨hf, Or.inr ⟨hs, Or.inl ⟨k, by omega, hj, hb.mp rfl, rfl, rfl⟩⟩⟩
      have e29 : (kdN ω k = 36 ∨ kdN ω k = 37) → F_Chk_leavesLoop_29 σ (Int32.ofNat k) (ω (3 * k)) = some (bI (decide ((stk ω k).head? ≠ (stk ω (nmN ω k)).head?))) := by
        intro hkk
        have hnm : k < nmN ω k ∧ nmN ω k < N := by
          unfold okN at zn
          rw [if_neg (by omega), if_neg (by omega), if_pos hkk] at zn
          simpa using zn
        unfold F_Chk_leavesLoop_29 F_Chk_leavesLoop_51 F_Chk_leavesLoop_52
        rw [ck_pos (n_inb k 256 (by omega) (by omega)), q1, ck_pos (n_inb _ 256 (by omega) (by omega)), n_nat _ (by omega), n_nat _ (by omega), f8 k (by omega), f8 _ (by omega)]
        have hg := gI_inj ω k (nmN ω k) (by omega) (by omega)
        by_cases c : (stk ω k).head? = (stk ω (nmN ω k)).head?
        · rw [if_pos (hg.mpr c)]; simp [c]; rfl
        · rw [if_neg (fun h => c (hg.mp h))]; simp [c]; rfl
      have eL : ∃ b : Bool, F_Chk_leavesLoop σ pid (Int32.ofNat k) = some (bI b) ∧ (b = true ↔ jm ω k) := by
        unfold F_Chk_leavesLoop
        rw [ck_pos hp, hl, a1, ck_pos (n_inb _ 768 (by omega) (by omega)), n_nat _ (by omega), e21, hwσ _ (by omega), lt_def, lt_def, q0]
        by_cases c7 : kdN ω k = 37
        · rw [if_pos (show Int32.ofNat (kdN ω k) = 37 from (nj 37 (by omega)).mpr c7), e29 (Or.inr c7)]
          refine ⟨_, rfl, ?_⟩
          unfold jm; simp [c7]
        · rw [if_neg (show ¬ Int32.ofNat (kdN ω k) = 37 from fun h => c7 ((nj 37 (by omega)).mp h))]
          by_cases c6 : kdN ω k = 36
          · rw [if_pos (show Int32.ofNat (kdN ω k) = 36 from (nj 36 (by omega)).mpr c6), e29 (Or.inl c6)]
            refine ⟨_, rfl, ?_⟩
            unfold jm; simp [c6]
          · rw [if_neg (show ¬ Int32.ofNat (kdN ω k) = 36 from fun h => c6 ((nj 36 (by omega)).mp h))]
            refine ⟨false, rfl, ?_⟩
            unfold jm; simp [c6, c7]
      obtain ⟨b, b1, b2⟩ := eL
      rw [L_Chk_check_112, ck_pos hp, hmσ, if_neg (by rw [n_le _ _ (by omega) (by omega)]; omega), if_pos f2, b1, bd_def]
      cases b
      · rw [if_pos (show bI false = 0 from rfl)]; exact e142 false b2
      · rw [if_neg (show ¬ bI true = 0 by decide)]; exact e142 true b2
  unfold F_Chk_check_110
  rw [ck_pos hp]
  exact key N 0 (by omega) (fun j hj => by omega) 100000 (by omega)
theorem e_check (ω : Nat → Int32) (N : Nat) (pl : Int32) (σ : Sg) (pid : Nat) (hp : pid < 3) (hN : N ≤ 256) (hm : σ.1 (22 + 3 * pid) = Int32.ofNat N) (hw : ∀ j, j < 3 * N → σ.2.2.1 (21 + pid) j = ω j) :
    ∃ σ', F_Chk_check σ pid pl = some σ' ∧ ChkOut ω N pl pid σ σ' := by
  have key : ∀ d k, N = k + d → (∀ j, j < k → fau ω N pl j = 0) → ∀ τ, ChkI ω pid k σ τ → ∀ n, d + 1 < n → ∃ σ', L_Chk_check_34 n τ pid pl (Int32.ofNat k) = some σ' ∧ ChkOut ω N pl pid σ σ' := by
    intro d
    induction d with
    | zero =>
      intro k hk hf τ hC n hn
      obtain ⟨n, rfl⟩ : ∃ m, n = m + 1 := ⟨n - 1, by omega⟩
      have : k = N := by omega
      subst this
      have hC' := hC
      obtain ⟨f1, f2, f3, f4, f5, f6, f7, f8, f9⟩ := hC
      have hmτ : τ.1 (22 + 3 * pid) = Int32.ofNat k := by rw [f1.1 _ (by simp [pChk]; omega)]; exact hm
      have hl4 := stk_len ω k pl k hf
      rw [L_Chk_check_34, ck_pos hp, hmτ, if_pos (Int32.le_refl _)]
      unfold F_Chk_check_80
      rw [ck_pos hp, if_pos f2, f4]
      cases hs : stk ω k with
      | nil =>
        rw [if_pos (by decide)]
        exact e_check112 ω k pl σ τ pid hp hN hm hw hf hs hC'
      | cons b r =>
        rw [hs] at hl4 f5
        have hlr : (b :: r).length - 1 = r.length := by simp
        rw [if_neg (by rw [show (0 : Int32) = Int32.ofNat 0 from rfl, n_le _ _ (by omega) (by omega)]; simp), i_pred' _ (by omega) (by simp), hlr, ck_pos (n_inb _ 4 (by simp at hl4; omega) (by simp at hl4; omega)), n_nat _ (by simp at hl4; omega), f5.1]
        rw [show F_Chk_tell τ 5 (Int32.ofNat b) = _ from e_tell τ 5 _ (by omega), bd_def, if_neg (by decide)]
        have h12 : ¬ (sI (sI τ 12 (Int32.ofNat 5)) 13 (Int32.ofNat b)).1 12 = 0 := (show ¬ Int32.ofNat 5 = 0 by decide)
        have e110 : F_Chk_check_110 (sI (sI τ 12 (Int32.ofNat 5)) 13 (Int32.ofNat b)) pid = some (sI (sI (sI τ 12 (Int32.ofNat 5)) 13 (Int32.ofNat b)) (23 + 3 * pid) 0) := by
          unfold F_Chk_check_110
          rw [ck_pos hp, show (100000 : Nat) = 99999 + 1 from rfl, L_Chk_check_112, ck_pos hp, if_neg h12, e_152f _ pid hp h12]
          split <;> rfl
        refine ⟨_, e110, fr_sI (fr_sI (fr_sI f1 _ _ (by simp [pChk])) _ _ (by simp [pChk])) _ _ (by simp [pChk]), 5, by omega, ?_, ?_, fun h => by omega⟩
        · rw [sI_1, if_neg (by omega)]; rfl
        · rw [sI_1, if_neg (by omega)]
          exact Or.inr ⟨hf, Or.inl ⟨b, r, hs, rfl, rfl⟩⟩
    | succ d ih =>
      intro k hk hf τ hC n hn
      obtain ⟨n, rfl⟩ : ∃ m, n = m + 1 := ⟨n - 1, by omega⟩
      have hC' := hC
      obtain ⟨f1, f2, f3, f4, f5, f6, f7, f8, f9⟩ := hC
      have hmτ : τ.1 (22 + 3 * pid) = Int32.ofNat N := by rw [f1.1 _ (by simp [pChk]; omega)]; exact hm
      have hwτ : ∀ j, j < 3 * N → τ.2.2.1 (21 + pid) j = ω j := fun j hj => by rw [f1.2.2.1 _ (by simp [pChk]; omega)]; exact hw j hj
      have hl4 := stk_len ω N pl k hf
      have hfl := fau_lt ω N pl k
      rw [L_Chk_check_34, ck_pos hp, hmτ, if_neg (by rw [n_le _ _ (by omega) (by omega)]; omega), if_pos f2, e_faultAt ω N τ pid k pl hp hN (by omega) hmτ hwτ f4 hl4, bd_def, e_tell _ _ _ (by omega), bd_def]
      unfold F_Chk_check_74
      simp only [ck_pos hp, lt, n_succ]
      by_cases c : fau ω N pl k = 0
      · rw [if_pos c, if_pos f2]
        obtain ⟨τ', t1, t2⟩ := e_pass ω N pl σ τ pid k hp hN (by omega) hw (fun j hj => by
          by_cases e : j = k
          · subst e; exact c
          · exact hf j (by omega)) hC'
        rw [t1, bd_def]
        exact ih (k + 1) (by omega) (fun j hj => by
          by_cases e : j = k
          · subst e; exact c
          · exact hf j (by omega)) τ' t2 n (by omega)
      · rw [if_neg c]
        have h12 : ¬ (sI (sI τ 12 (Int32.ofNat (fau ω N pl k))) 13 (Int32.ofNat k)).1 12 = 0 := by
          show ¬ Int32.ofNat (fau ω N pl k) = 0
          exact fun h => c ((n_inj _ 0 (by omega) (by omega)).mp h)
        rw [if_neg h12]
        obtain ⟨n, rfl⟩ : ∃ m, n = m + 1 := ⟨n - 1, by omega⟩
        rw [L_Chk_check_34, ck_pos hp, if_neg h12, e_80f _ pid hp h12]
        refine ⟨_, by split <;> rfl, fr_sI (fr_sI (fr_sI f1 _ _ (by simp [pChk])) _ _ (by simp [pChk])) _ _ (by simp [pChk]), fau ω N pl k, by omega, ?_, ?_, fun h => absurd h c⟩
        · rw [sI_1, if_neg (by omega)]; rfl
        · rw [sI_1, if_neg (by omega)]
          exact Or.inl ⟨k, by omega, hf, c, rfl, rfl⟩
  unfold F_Chk_check
  simp only [ck_pos hp, lt]
  refine key N 0 (by omega) (fun j hj => by omega) _ ⟨?_, ?_, ?_, ?_, trivial, ?_, ?_, fun j hj => by omega, fun j hj => by omega⟩ 100000 (by omega)
  · exact fr_sI (fr_sB (fr_sJ (fr_sI (fr_sI (fr_sI Fr.rfl _ _ (by simp [pChk])) _ _ (by simp [pChk])) _ _ (by simp [pChk])) _ _ (by simp [pChk])) _ _ (by simp [pChk])) _ _ (by simp [pChk])
  · rw [sI_1, if_neg (by omega)]; rfl
  · rw [sI_1, if_neg (by omega)]; rfl
  · rw [sI_1, if_neg (by omega)]; rfl
  · rfl
  · rfl
