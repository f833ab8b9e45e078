/-! a program is run -/
theorem e_fill1 (σ : Sg) (ar lo N L : Nat) (v : Int32) (ha : ar < 47) (hl : lenC σ ar = L) (h : lo + N ≤ L) (hL : L < 90000) :
    F_Arr_fill1 σ ar (Int32.ofNat lo) (Int32.ofNat (lo + N)) v = some (sA σ ar (rowset (σ.2.2.1 ar) lo N (fun _ => v))) := by
  unfold F_Arr_fill1 F_Arr_rangeCheck
  rw [ck_pos ha, hl, if_pos (by rw [n_le _ _ (by omega) (by omega)]; omega), if_pos (by rw [show (0 : Int32) = Int32.ofNat 0 from rfl, n_le _ _ (by omega) (by omega)]; omega), if_pos (by rw [n_le _ _ (by omega) (by omega)]; omega), bd_def]
  refine fill_loop (fun n σ w => L_Arr_fill1_10 n σ ar (Int32.ofNat (lo + N)) v w) σ ar lo N lo (fun _ => v) _ (fun n k hk => ?_) (fun n => ?_) 100000 (by omega)
  · rw [L_Arr_fill1_10, ck_pos ha, if_neg (by rw [n_le _ _ (by omega) (by omega)]; omega), lenC_sA, hl, ck_pos (n_inb _ _ (by omega) (by omega)), n_nat _ (by omega)]
    simp only [lt, sA_sA, sA_3, if_true, n_succ]
    rfl
  · rw [L_Arr_fill1_10, ck_pos ha, if_pos (by rw [n_le _ _ (by omega) (by omega)]; omega)]
theorem m32 : ∀ k, k < 64 → (inb (irem (Int32.ofNat k) 32) 32 ∧ (irem (Int32.ofNat k) 32).toNatClampNeg = k % 32) := by decide
def pRn (p : Nat) : Nat → Nat → Bool := fun c k => (c == 0 && (k == 20 || k == 40 + 6 * p || k == 44 + 6 * p || k == 45 + 6 * p)) || (c == 2 && ((7 ≤ k && k ≤ 13) || k == 16 + 10 * p || k == 18 + 10 * p || k == 20 + 10 * p || k == 21 + 10 * p || k == 22 + 10 * p))
theorem e_run23 (p : Nat) (hp : p < 2) (σ : Sg) : ∀ d k, 64 = k + d → ∀ n, d < n → ∀ σ', Fr (pRn p) σ σ' → (∀ j, j < k → σ'.2.2.1 (16 + 10 * p) j = 0) → (∀ j, j < k → j < 32 → σ'.2.2.1 (18 + 10 * p) j = 0) → (∀ j, σ'.2.2.1 (17 + 10 * p) j = σ.2.2.1 (17 + 10 * p) j) →
    ∃ σ2, L_Shm_run_23 n σ' p (Int32.ofNat k) = L_Shm_run_61 100000 σ2 p 0 0 ∧ Fr (pRn p) σ σ2 ∧ (∀ j, j < 64 → σ2.2.2.1 (16 + 10 * p) j = 0) ∧ (∀ j, j < 32 → σ2.2.2.1 (18 + 10 * p) j = 0) ∧ σ2.1 (45 + 6 * p) = 0 := by
  have hl : ∀ τ : Sg, lenM τ (16 + 10 * p) = 64 ∧ lenM τ (18 + 10 * p) = 32 := by
    intro τ
    have : p = 0 ∨ p = 1 := by omega
    rcases this with rfl | rfl <;> exact ⟨rfl, rfl⟩
  intro d
  induction d with
  | zero =>
    intro k hk n hn σ' hF h1 h2 _
    obtain ⟨n, rfl⟩ : ∃ m, n = m + 1 := ⟨n - 1, by omega⟩
    have : k = 64 := by omega
    subst this
    rw [L_Shm_run_23, ck_pos hp, if_pos (by decide), lt_def]
    refine ⟨sI σ' (45 + 6 * p) 0, rfl, fr_sI hF _ _ (by simp [pRn]), h1, fun j hj => h2 j (by omega) hj, ?_⟩
    rw [sI_1, if_pos rfl]
  | succ d ih =>
    intro k hk n hn σ' hF h1 h2 h3
    obtain ⟨n, rfl⟩ : ∃ m, n = m + 1 := ⟨n - 1, by omega⟩
    obtain ⟨q1, q2⟩ := m32 k (by omega)
    rw [L_Shm_run_23, ck_pos hp, if_neg (by rw [show (64 : Int32) = Int32.ofNat 64 from rfl, n_le _ _ (by omega) (by omega)]; omega), (hl _).1, ck_pos (n_inb k 64 (by omega) (by omega)), n_nat k (by omega), lt_def, (hl _).2, ck_pos q1, q2, lt_def, lt_def, n_succ]
    have e18 : (sA σ' (16 + 10 * p) (upd (σ'.2.2.1 (16 + 10 * p)) k 0)).2.2.1 (18 + 10 * p) = σ'.2.2.1 (18 + 10 * p) := by rw [sA_3, if_neg (by omega)]
    refine ih (k + 1) (by omega) n (by omega) _ (fr_sA (fr_sA hF _ _ (by simp [pRn])) _ _ (by simp [pRn])) (fun j hj => ?_) (fun j hj hj2 => ?_) (fun j => ?_)
    · rw [sA_3, if_neg (by omega), sA_3, if_pos rfl]
      by_cases c : j = k
      · subst c; rw [upd_eq]
      · rw [upd_ne _ _ _ _ c]; exact h1 j (by omega)
    · rw [sA_3, if_pos rfl, e18]
      by_cases c : j = k % 32
      · subst c; rw [upd_eq]
      · rw [upd_ne _ _ _ _ c]
        refine h2 j ?_ hj2
        omega
    · rw [sA_3, if_neg (by omega), sA_3, if_neg (by omega)]; exact h3 j
/-- a loaded program, in both -/
def Loaded (ω : Nat → Int32) (N : Nat) (rd : Nat → Prop) (pid p : Nat) (σ τ : Sg) : Prop :=
  (1 ≤ N ∧ N ≤ 256 ∧ (∀ i, i < N → insOK ω N rd i) ∧ stp ω N ≤ 65536) ∧ (pid < 3 ∧ σ.1 (22 + 3 * pid) = Int32.ofNat N ∧ (∀ j, j < 3 * N → σ.2.2.1 (21 + pid) j = ω j))
  ∧ ((∀ j, j < 3 * N → τ.2.2.1 (14 + 10 * p) j = ω j) ∧ (∀ j, j < N → ∀ b r, stk ω j = b :: r → τ.2.2.1 (23 + 10 * p) j = Int32.ofNat b) ∧ τ.1 (41 + 6 * p) = 1)
theorem e_program (ω : Nat → Int32) (N : Nat) (rd : Nat → Prop) (μ κ : Nat → Int32) (pid p : Nat) (σ τ : Sg) (hp : p < 2) (hk : TxOK κ) (hL : Loaded ω N rd pid p σ τ) (hμ : σ.2.2.1 0 = μ) (hκ : σ.2.2.1 1 = κ) (gμ : τ.2.2.1 0 = μ) (gκ : TxRel κ τ)
    (hin : ∀ j, j < 32 → rd (j / 4) → τ.2.2.1 (17 + 10 * p) j = σ.2.2.1 10 (64 + j)) (hun : ∀ j, j < 128 → τ.2.2.1 (19 + 10 * p) j = σ.2.2.1 10 (96 + j)) (hz : ∀ j, j < 4 → σ.2.2.1 10 (224 + j) = 0) :
    ∃ oC oM, F_Pro_follow σ pid = some oC ∧ F_Shm_run τ p = some oM ∧ Fr pFol σ oC.1 ∧ Fr (pRn p) τ oM.1 ∧ BR p rd (oC.1.2.2.1 10) oM.1 ∧ ((oC.2 = 1 ∧ oM.1.1 (45 + 6 * p) = 0) ∨ (oC.2 = 0 ∧ oM.1.1 (45 + 6 * p) = 1)) := by
  obtain ⟨⟨hN0, hN, ok, hst⟩, ⟨hpid, hm, hw⟩, ⟨gw, go, gh⟩⟩ := hL
  have e1 := e_fill1 σ 10 0 64 260 0 (by decide) rfl (by decide) (by decide)
  have e2 := e_fill1 (sA σ 10 (rowset (σ.2.2.1 10) 0 64 (fun _ => 0))) 10 228 32 260 0 (by decide) rfl (by decide) (by decide)
  rw [sA_sA, sA_3, if_pos rfl] at e2
  obtain ⟨τ2, s1, s2, s3, s4, s5⟩ := e_run23 p hp (sI τ (40 + 6 * p) 0) 64 0 rfl 100000 (by omega) (sI τ (40 + 6 * p) 0) Fr.rfl (fun j hj => by omega) (fun j hj => by omega) (fun _ => rfl)
  have wR : ∀ c k, pRn p c k = false → pRun p c k = false := by intro c k; simp only [pRn, pRun]; grind
  have f2 : Fr (pRn p) τ τ2 := (fr_sI Fr.rfl (40 + 6 * p) 0 (by simp [pRn])).trans s2
  have hr : F_Shm_run τ p = L_Shm_run_61 100000 τ2 p 0 0 := by
    unfold F_Shm_run F_Shm_run_13 F_Shm_refuse F_Shm_refuse_10
    rw [ck_pos hp, gh, if_neg (by decide), ck_pos hp, ck_pos hp, ck_pos hp, if_pos rfl, ck_pos hp, lt_def, ck_pos (by decide), bd_def, if_pos rfl]
    exact s1
  generalize hσ2 : sA σ 10 (rowset (rowset (σ.2.2.1 10) 0 64 (fun _ => 0)) 228 32 (fun _ => 0)) = σ2 at e2
  have b10 : σ2.2.2.1 10 = rowset (rowset (σ.2.2.1 10) 0 64 (fun _ => 0)) 228 32 (fun _ => 0) := by rw [← hσ2, sA_3, if_pos rfl]
  have fC : Fr pFol σ σ2 := by rw [← hσ2]; exact fr_sA Fr.rfl _ _ (by decide)
  have hB : BR p rd (σ2.2.2.1 10) τ2 := by
    rw [b10]
    refine ⟨fun j hj => ?_, fun j hj hrd => ?_, fun j hj => ?_, fun j hj => ?_, fun j hj => ?_⟩
    · rw [s3 j hj, rowset_out _ _ _ _ _ (by omega), rowset_get0 _ _ _ _ hj]
    · rw [f2.2.2.1 _ (by simp [pRn]; omega), hin j hj hrd, rowset_out _ _ _ _ _ (by omega), rowset_out _ _ _ _ _ (by omega)]
    · rw [f2.2.2.1 _ (by simp [pRn]; omega), hun j hj, rowset_out _ _ _ _ _ (by omega), rowset_out _ _ _ _ _ (by omega)]
    · rw [rowset_out _ _ _ _ _ (by omega), rowset_out _ _ _ _ _ (by omega)]; exact hz j hj
    · rw [s4 j hj, rowset_get _ _ _ _ _ hj]
  have hS : Sim ω N rd μ κ pid p 0 (fun _ => 0) σ2 τ2 := by
    refine ⟨⟨?_, ?_, ?_, ?_, trivial, by simp [stk]⟩, ⟨?_, ?_, ?_, ?_, ?_, hB, s5⟩⟩
    · rw [fC.1 _ (by simp [pFol])]; exact hm
    · intro j hj; rw [fC.2.2.1 _ (by simp [pFol]; omega)]; exact hw j hj
    · rw [fC.2.2.1 _ (by decide)]; exact hμ
    · rw [fC.2.2.1 _ (by decide)]; exact hκ
    · intro j hj; rw [f2.2.2.1 _ (by simp [pRn]; omega)]; exact gw j hj
    · rw [f2.2.2.1 _ (by simp [pRn]; omega)]; exact gμ
    · exact gκ.fr (f2.2.2.1 _ (by simp [pRn]; omega)) (f2.2.2.1 _ (by simp [pRn]; omega))
    · intro j hj b r e; rw [f2.2.2.1 _ (by simp [pRn]; omega)]; exact go j hj b r e
    · intro b hb; cases hb
  obtain ⟨oC, oM, z1, z2, z3, z4, z5, z6⟩ := sim ω N rd μ κ pid p hpid hp hN hk ok 65536 0 (fun _ => 0) σ2 τ2 0 0 (by rw [phi_start]; exact hst) (by rw [phi_start]; omega) (by omega) hS 100000 100000 (by omega) (by omega)
  refine ⟨oC, oM, ?_, ?_, fC.trans z3, f2.trans (z4.weak wR), z5, z6⟩
  · unfold F_Pro_follow
    rw [ck_pos hpid, show F_Arr_fill1 σ 10 0 64 0 = _ from e1, bd_def, show F_Arr_fill1 (sA σ 10 (rowset (σ.2.2.1 10) 0 64 (fun _ => 0))) 10 228 260 0 = some σ2 from e2, bd_def]
    exact z1
  · rw [hr]; exact z2
