/-! the reference's check -/
theorem e_Shm_no (σ : Sg) (p : Nat) (x y : Int32) (hp : p < 2) : F_Shm_no σ p x y = some (sI (sI σ (42 + 6 * p) x) (43 + 6 * p) y, x) := by
  unfold F_Shm_no; rw [ck_pos hp, lt_def, lt_def]
theorem bd_pair {e : Option (Sg × Int32)} {o : Sg × Int32} (h : e = some o) : bd e (fun o => some (o.1, o.2)) = some o := by rw [h]; rfl
def ChkM (ω : Nat → Int32) (N : Nat) (pl : Int32) (p : Nat) (σ : Sg) (e : Option (Sg × Int32)) : Prop := ∃ (f : Nat) (q : Int32), f < 64 ∧ e = some (sI (sI σ (42 + 6 * p) (Int32.ofNat f)) (43 + 6 * p) q, Int32.ofNat f) ∧ ChkRes ω N pl f q
theorem e_Shm_check87 (ω : Nat → Int32) (N a p : Nat) (pl : Int32) (σ : Sg) (hp : p < 2) (ha : a < 58) (hl : lenM σ a = 768) (hN : N ≤ 256) (hw : ∀ j, j < 3 * N → σ.2.2.1 a j = ω j) (hf : ∀ j, j < N → fau ω N pl j = 0) (hs : stk ω N = []) :
    ∀ d k, N = k + d → (∀ j, j < k → ¬ jm ω j) → ∀ n, d < n → ChkM ω N pl p σ (L_Shm_check_87 n σ p a (Int32.ofNat N) (Int32.ofNat k)) := by
  have hstp := stp_bd ω N pl N (Nat.le_refl N) hN hf
  intro d
  induction d with
  | zero =>
    intro k hk hj n hn
    obtain ⟨n, rfl⟩ : ∃ m, n = m + 1 := ⟨n - 1, by omega⟩
    have : k = N := by omega
    subst this
    rw [L_Shm_check_87, ck_pos hp, ck_pos ha, if_pos (Int32.le_refl _), e_steps ω k a σ ha hl hN hw (fun i hi => stk_len ω k pl i (fun j hj' => hf j (by omega))), bd_def]
    have c9 : Int64.ofNat (stp ω k) ≤ 65536 ↔ stp ω k ≤ 65536 := by
      rw [show (65536 : Int64) = Int64.ofNat 65536 from rfl, Int64.le_iff_toInt_le, ln_int _ (by unfold stp; omega), ln_int _ (by omega)]
      omega
    by_cases c : stp ω k ≤ 65536
    · rw [if_pos (c9.mpr c), e_Shm_no _ _ _ _ hp, bd_def]
      exact ⟨0, -1, by omega, rfl, Or.inr ⟨hf, Or.inr ⟨hs, Or.inr ⟨hj, Or.inr ⟨c, rfl, rfl⟩⟩⟩⟩⟩
    · rw [if_neg (fun h => c (c9.mp h)), e_Shm_no _ _ _ _ hp, bd_def]
      exact ⟨8, -1, by omega, rfl, Or.inr ⟨hf, Or.inr ⟨hs, Or.inr ⟨hj, Or.inl ⟨by omega, rfl, rfl⟩⟩⟩⟩⟩
  | succ d ih =>
    intro k hk hj n hn
    obtain ⟨n, rfl⟩ : ∃ m, n = m + 1 := ⟨n - 1, by omega⟩
    have hk64 := kd_lt ω k
    have nj : ∀ j, j < 64 → (Int32.ofNat (kdN ω k) = Int32.ofNat j ↔ kdN ω k = j) := fun j hj => n_inj _ _ (by omega) (by omega)
    obtain ⟨-, -, -, zn, -⟩ := fau_zero ω N pl k (hf k (by omega))
    have e154 : ¬ jm ω k → ChkM ω N pl p σ (F_Shm_check_154 (L_Shm_check_87 n) σ p a (Int32.ofNat N) (Int32.ofNat k)) := by
      intro hjk
      unfold F_Shm_check_154
      rw [ck_pos hp, ck_pos ha, lt_def, n_succ]
      exact ih (k + 1) (by omega) (fun j hj' => by
        by_cases e : j = k
        · subst e; exact hjk
        · exact hj j (by omega)) n (by omega)
    have e115 : (kdN ω k = 36 ∨ kdN ω k = 37) → ChkM ω N pl p σ (F_Shm_check_115 (L_Shm_check_87 n) σ p a (Int32.ofNat N) (Int32.ofNat k)) := by
      intro hkk
      have hnm : k < nmN ω k ∧ nmN ω k < N := by
        unfold okN at zn
        rw [if_neg (by omega), if_neg (by omega), if_pos hkk] at zn
        simpa using zn
      unfold F_Shm_check_115 F_Shm_check_120
      rw [ck_pos hp, ck_pos ha, ck_pos hp, ck_pos ha, if_neg (by decide), e_around ω N a σ k ha hl hN (by omega) hw, bd_def, e_numberOf ω N a σ k ha hl hN (by omega) hw, bd_def, e_around ω N a σ (nmN ω k) ha hl hN (by omega) hw, bd_def]
      have hg := gI_inj ω k (nmN ω k) (by omega) (by omega)
      by_cases c : (stk ω k).head? = (stk ω (nmN ω k)).head?
      · rw [if_pos (hg.mpr c)]
        exact e154 (fun h => h.2 c)
      · rw [if_neg (fun h => c (hg.mp h)), bd_pair (e_Shm_no σ p 5 (Int32.ofNat k) hp)]
        exact ⟨5, Int32.ofNat k, by omega, rfl, Or.inr ⟨hf, Or.inr ⟨hs, Or.inl ⟨k, by omega, hj, ⟨hkk, c⟩, rfl, rfl⟩⟩⟩⟩
    rw [L_Shm_check_87, ck_pos hp, ck_pos ha, if_neg (by rw [n_le _ _ (by omega) (by omega)]; omega), e_kindOf ω N a σ k ha hl hN (by omega) hw, bd_def, bd_def]
    by_cases c6 : kdN ω k = 36
    · rw [if_pos (show Int32.ofNat (kdN ω k) = (36 : Int32) from (nj 36 (by omega)).mpr c6)]; exact e115 (Or.inl c6)
    · rw [if_neg (show ¬ Int32.ofNat (kdN ω k) = (36 : Int32) from fun h => c6 ((nj 36 (by omega)).mp h))]
      by_cases c7 : kdN ω k = 37
      · rw [if_pos (show Int32.ofNat (kdN ω k) = (37 : Int32) from (nj 37 (by omega)).mpr c7)]; exact e115 (Or.inr c7)
      · rw [if_neg (show ¬ Int32.ofNat (kdN ω k) = (37 : Int32) from fun h => c7 ((nj 37 (by omega)).mp h))]
        unfold F_Shm_check_120
        rw [ck_pos hp, ck_pos ha, if_pos rfl]
        exact e154 (fun h => by rcases h.1 with h | h <;> contradiction)
theorem e_Shm_check44 (ω : Nat → Int32) (N a p : Nat) (pl : Int32) (σ : Sg) (hp : p < 2) (ha : a < 58) (hl : lenM σ a = 768) (hN : N ≤ 256) (hw : ∀ j, j < 3 * N → σ.2.2.1 a j = ω j) (hf : ∀ j, j < N → fau ω N pl j = 0) :
    ∀ k, k ≤ N → (∀ j, k ≤ j → j < N → j ∉ stk ω N) → ∀ n, k < n → ChkM ω N pl p σ (L_Shm_check_44 n σ p a (Int32.ofNat N) (Int32.ofNat k - 1)) := by
  intro k
  induction k with
  | zero =>
    intro hk hj n hn
    obtain ⟨n, rfl⟩ : ∃ m, n = m + 1 := ⟨n - 1, by omega⟩
    rw [L_Shm_check_44, ck_pos hp, ck_pos ha, if_pos (by decide)]
    have hs : stk ω N = [] := by
      cases h : stk ω N with
      | nil => rfl
      | cons b r =>
        have hb := (stk_head ω N b r h).2.2
        exact absurd (show b ∈ stk ω N by rw [h]; exact List.mem_cons_self) (hj b (by omega) hb)
    exact e_Shm_check87 ω N a p pl σ hp ha hl hN hw hf hs N 0 (by omega) (fun j hj => by omega) 100000 (by omega)
  | succ k ih =>
    intro hk hj n hn
    obtain ⟨n, rfl⟩ : ∃ m, n = m + 1 := ⟨n - 1, by omega⟩
    have hk64 := kd_lt ω k
    have e78 : k ∉ stk ω N → ChkM ω N pl p σ (F_Shm_check_78 (L_Shm_check_44 n) σ p a (Int32.ofNat N) (Int32.ofNat k)) := by
      intro hkn
      unfold F_Shm_check_78
      rw [ck_pos hp, ck_pos ha, lt_def, show Int32.ofNat k + -1 = Int32.ofNat k - 1 by grind]
      exact ih (by omega) (fun j h1 h2 => by
        by_cases e : j = k
        · subst e; exact hkn
        · exact hj j (by omega) h2) n (by omega)
    rw [L_Shm_check_44, ck_pos hp, ck_pos ha, i_pred' (k + 1) (by omega) (by omega), Nat.add_sub_cancel, if_neg (by rw [show (0 : Int32) = Int32.ofNat 0 from rfl, n_lt _ _ (by omega) (by omega)]; omega), e_kindOf ω N a σ k ha hl hN (by omega) hw, bd_def]
    by_cases c : kdN ω k = 34
    · rw [if_pos (show Int32.ofNat (kdN ω k) = (34 : Int32) by rw [c]; rfl)]
      obtain ⟨r, r1, r2⟩ := e_closing ω N a σ k ha hl hN (by omega) hw c
      rw [r1, bd_def]
      by_cases d : (0 : Int32) ≤ r
      · rw [if_pos d]; exact e78 (r2.mp d)
      · rw [if_neg d, bd_pair (e_Shm_no σ p 5 (Int32.ofNat k) hp)]
        have hm : k ∈ stk ω N := Classical.byContradiction fun h => d (r2.mpr h)
        obtain ⟨inner, e, hin, -⟩ := stk_split ω N k hm
        cases inner with
        | nil => exact ⟨5, Int32.ofNat k, by omega, rfl, Or.inr ⟨hf, Or.inl ⟨k, _, e, rfl, rfl⟩⟩⟩
        | cons b r' =>
          have h1 := hin b List.mem_cons_self
          have h2 : b ∈ stk ω N := by rw [e]; exact List.mem_cons_self
          exact absurd h2 (hj b (by omega) (stk_lt ω N b h2))
    · rw [if_neg (show ¬ Int32.ofNat (kdN ω k) = (34 : Int32) from fun h => c ((n_inj _ 34 (by omega) (by omega)).mp h))]
      refine e78 (fun h => ?_)
      obtain ⟨-, -, -, h34⟩ := stk_split ω N k h
      exact c h34
theorem e_Shm_check (ω : Nat → Int32) (N a p : Nat) (pl : Int32) (σ : Sg) (hp : p < 2) (ha : a < 58) (hl : lenM σ a = 768) (hN0 : 1 ≤ N) (hN : N ≤ 256) (hw : ∀ j, j < 3 * N → σ.2.2.1 a j = ω j) :
    ChkM ω N pl p σ (F_Shm_check σ p a (Int32.ofNat N) pl) := by
  have key : ∀ d k, N = k + d → (∀ j, j < k → fau ω N pl j = 0) → ∀ n, d < n → ChkM ω N pl p σ (L_Shm_check_3 n σ p a (Int32.ofNat N) pl (Int32.ofNat k)) := by
    intro d
    induction d with
    | zero =>
      intro k hk hf n hn
      obtain ⟨n, rfl⟩ : ∃ m, n = m + 1 := ⟨n - 1, by omega⟩
      have : k = N := by omega
      subst this
      rw [L_Shm_check_3, ck_pos hp, ck_pos ha, if_pos (Int32.le_refl _), lt_def]
      exact e_Shm_check44 ω k a p pl σ hp ha hl hN hw hf k (Nat.le_refl k) (fun j h1 h2 => by omega) 100000 (by omega)
    | succ d ih =>
      intro k hk hf n hn
      obtain ⟨n, rfl⟩ : ∃ m, n = m + 1 := ⟨n - 1, by omega⟩
      have hfl := fau_lt ω N pl k
      have hl4 := stk_len ω N pl k hf
      rw [L_Shm_check_3, ck_pos hp, ck_pos ha, if_neg (by rw [n_le _ _ (by omega) (by omega)]; omega), e_faultOf ω N a σ k pl ha hl hN (by omega) hw (fun j hj => (fau_zero ω N pl j (hf j hj)).2.2.2.2.1) hl4, bd_def]
      by_cases c : fau ω N pl k = 0
      · rw [if_pos (show Int32.ofNat (fau ω N pl k) ≤ (0 : Int32) by rw [c]; decide), lt_def, n_succ]
        exact ih (k + 1) (by omega) (fun j hj => by
          by_cases e : j = k
          · subst e; exact c
          · exact hf j (by omega)) n (by omega)
      · rw [if_neg (show ¬ Int32.ofNat (fau ω N pl k) ≤ (0 : Int32) from fun h => by
          rw [show (0 : Int32) = Int32.ofNat 0 from rfl, n_le _ _ (by omega) (by omega)] at h; omega), bd_pair (e_Shm_no σ p _ (Int32.ofNat k) hp)]
        exact ⟨fau ω N pl k, Int32.ofNat k, by omega, rfl, Or.inl ⟨k, by omega, hf, c, rfl, rfl⟩⟩
  unfold F_Shm_check
  rw [ck_pos hp, ck_pos ha]
  exact key N 0 (by omega) (fun j hj => by omega) 100000 (by omega)
/-- what loading a program changes, in the reference -/
def pLd (p : Nat) : Nat → Nat → Bool := fun c k => (c == 0 && (k == 40 + 6 * p || k == 41 + 6 * p || k == 42 + 6 * p || k == 43 + 6 * p)) || (c == 2 && (k == 14 + 10 * p || k == 15 + 10 * p || k == 23 + 10 * p))
theorem e_load (μ : Nat → Int32) (fr N p : Nat) (pl : Int32) (σ : Sg) (hp : p < 2) (hN0 : 1 ≤ N) (hN : N ≤ 256) (hfr : fr + 3 * N ≤ 4096) (hμ : σ.2.2.1 0 = μ) :
    ∃ (o : Sg × Int32) (f : Nat) (q : Int32), f < 64 ∧ F_Shm_load σ p (Int32.ofNat fr) (Int32.ofNat N) pl = some o ∧ ChkRes (fun j => μ (fr + j)) N pl f q ∧ o.1.1 (42 + 6 * p) = Int32.ofNat f ∧ o.1.1 (43 + 6 * p) = q ∧ Fr (pLd p) σ o.1
      ∧ (f = 0 → o.2 = Int32.ofNat (stp (fun j => μ (fr + j)) N) ∧ (∀ j, j < 3 * N → o.1.2.2.1 (14 + 10 * p) j = μ (fr + j)) ∧ (∀ j, j < N → o.1.2.2.1 (23 + 10 * p) j = gI (stk (fun j => μ (fr + j)) j).head?) ∧ o.1.1 (41 + 6 * p) = 1)
      ∧ (f ≠ 0 → o.1.2.2.1 (14 + 10 * p) = σ.2.2.1 (14 + 10 * p) ∧ o.1.2.2.1 (23 + 10 * p) = σ.2.2.1 (23 + 10 * p) ∧ o.1.1 (41 + 6 * p) = σ.1 (41 + 6 * p)) := by
  have hl : ∀ τ : Sg, lenM τ (14 + 10 * p) = 768 ∧ lenM τ (15 + 10 * p) = 768 ∧ lenM τ (23 + 10 * p) = 256 := by
    intro τ
    have : p = 0 ∨ p = 1 := by omega
    rcases this with rfl | rfl <;> exact ⟨rfl, rfl, rfl⟩
  generalize hω : (fun j => μ (fr + j)) = ω
  have n3 : 3 * Int32.ofNat N = Int32.ofNat (3 * N) := by rw [show (3 : Int32) = Int32.ofNat 3 from rfl, n_mul]
  -- the words are read
  have e44 : ∀ τ : Sg, τ.2.2.1 0 = μ → L_Shm_load_44 100000 τ p (Int32.ofNat fr) (Int32.ofNat N) pl 0 = bd (F_Shm_check (sA τ (15 + 10 * p) (rowset (τ.2.2.1 (15 + 10 * p)) 0 (3 * N) ω)) p (15 + 10 * p) (Int32.ofNat N) pl) (fun o31 => if o31.2 ≤ (0 : Int32) then (L_Shm_load_97 100000 o31.1 p (Int32.ofNat N) 0) else (lt (sI o31.1 (40 + 6 * p) 2) (fun σ32 => some (σ32, 0)))) := by
    intro τ hτ
    refine fill_loop' (fun n σ v => L_Shm_load_44 n σ p (Int32.ofNat fr) (Int32.ofNat N) pl v) τ (15 + 10 * p) 0 (3 * N) ω _ (fun n k hk => ?_) (fun n => ?_) 100000 (by omega)
    · rw [L_Shm_load_44, ck_pos hp, n3, if_neg (by rw [n_le _ _ (by omega) (by omega)]; omega), n_add, ck_pos (n_inb _ 4096 (by omega) (by omega)), (hl _).2.1, ck_pos (n_inb k 768 (by omega) (by omega)), n_nat _ (by omega), n_nat _ (by omega), lt_def, lt_def, n_succ, sA_sA, sA_3, if_pos rfl, sA_3, if_neg (by omega), hτ, Nat.zero_add, ← hω]
    · rw [L_Shm_load_44, ck_pos hp, n3, if_pos (Int32.le_refl _)]
  have eload : F_Shm_load σ p (Int32.ofNat fr) (Int32.ofNat N) pl = L_Shm_load_44 100000 (sI σ (40 + 6 * p) 0) p (Int32.ofNat fr) (Int32.ofNat N) pl 0 := by
    unfold F_Shm_load F_Shm_load_33 F_Shm_refuse F_Shm_refuse_10
    have e4096 : (4096 : Int32) - 3 * Int32.ofNat N = Int32.ofNat (4096 - 3 * N) := by
      rw [n3]
      apply i_inj
      rw [i_sub, n_int _ (by omega), n_int _ (by omega), show (4096 : Int32).toInt = 4096 from rfl]
      · omega
      · rw [n_int _ (by omega), show (4096 : Int32).toInt = 4096 from rfl]; omega
      · rw [n_int _ (by omega), show (4096 : Int32).toInt = 4096 from rfl]; omega
    rw [ck_pos hp, if_neg (show ¬ Int32.ofNat N < (1 : Int32) from fun h => by have := (n_lt N 1 (by omega) (by omega)).mp h; omega), if_neg (show ¬ (256 : Int32) < Int32.ofNat N from fun h => by have := (n_lt 256 N (by omega) (by omega)).mp h; omega), if_neg (show ¬ Int32.ofNat fr < (0 : Int32) from fun h => by have := (n_lt fr 0 (by omega) (by omega)).mp h; omega), e4096, if_pos (by rw [n_le _ _ (by omega) (by omega)]; omega), ck_pos hp, ck_pos hp, ck_pos hp, if_pos rfl, ck_pos hp, lt_def, ck_pos (by decide), bd_def, if_pos rfl]
  have hws : ∀ j, j < 3 * N → (sA (sI σ (40 + 6 * p) 0) (15 + 10 * p) (rowset ((sI σ (40 + 6 * p) 0).2.2.1 (15 + 10 * p)) 0 (3 * N) ω)).2.2.1 (15 + 10 * p) j = ω j := fun j hj => by
    rw [sA_3, if_pos rfl, rowset_get0 _ _ _ _ hj]
  obtain ⟨f, q, hf64, hc, hres⟩ := e_Shm_check ω N (15 + 10 * p) p pl (sA (sI σ (40 + 6 * p) 0) (15 + 10 * p) (rowset ((sI σ (40 + 6 * p) 0).2.2.1 (15 + 10 * p)) 0 (3 * N) ω)) hp (by omega) (hl _).2.1 hN0 hN hws
  rw [eload, e44 (sI σ (40 + 6 * p) 0) hμ, hc, bd_def]
  generalize hτ1 : sI (sI (sA (sI σ (40 + 6 * p) 0) (15 + 10 * p) (rowset ((sI σ (40 + 6 * p) 0).2.2.1 (15 + 10 * p)) 0 (3 * N) ω)) (42 + 6 * p) (Int32.ofNat f)) (43 + 6 * p) q = τ1
  have t42 : τ1.1 (42 + 6 * p) = Int32.ofNat f := by rw [← hτ1, sI_1, if_neg (by omega), sI_1, if_pos rfl]
  have t43 : τ1.1 (43 + 6 * p) = q := by rw [← hτ1, sI_1, if_pos rfl]
  have t41 : τ1.1 (41 + 6 * p) = σ.1 (41 + 6 * p) := by rw [← hτ1, sI_1, if_neg (by omega), sI_1, if_neg (by omega)]; show (sI σ (40 + 6 * p) 0).1 _ = _; rw [sI_1, if_neg (by omega)]
  have tA : ∀ k, k ≠ 15 + 10 * p → τ1.2.2.1 k = σ.2.2.1 k := fun k hk => by rw [← hτ1]; show (sA _ _ _).2.2.1 k = _; rw [sA_3, if_neg hk]; rfl
  have t15 : ∀ j, j < 3 * N → τ1.2.2.1 (15 + 10 * p) j = ω j := fun j hj => by rw [← hτ1]; exact hws j hj
  have tF : Fr (pLd p) σ τ1 := by
    rw [← hτ1]
    exact fr_sI (fr_sI (fr_sA (fr_sI Fr.rfl _ _ (by simp [pLd])) _ _ (by simp [pLd])) _ _ (by simp [pLd])) _ _ (by simp [pLd])
  by_cases c : f = 0
  · rw [if_pos (show Int32.ofNat f ≤ (0 : Int32) by rw [c]; decide)]
    have hall : ∀ i, i ≤ N → (stk ω i).length ≤ 4 := by
      have : ∀ j, j < N → fau ω N pl j = 0 := by
        rcases hres with ⟨k, -, -, h1, h2, -⟩ | ⟨h, -⟩
        · omega
        · exact h
      exact fun i hi => stk_len ω N pl i (fun j hj => this j (by omega))
    have e97 : L_Shm_load_97 100000 τ1 p (Int32.ofNat N) 0 = L_Shm_load_128 100000 (sA τ1 (14 + 10 * p) (rowset (τ1.2.2.1 (14 + 10 * p)) 0 (3 * N) ω)) p (Int32.ofNat N) 0 := by
      refine fill_loop' (fun n σ v => L_Shm_load_97 n σ p (Int32.ofNat N) v) τ1 (14 + 10 * p) 0 (3 * N) ω _ (fun n k hk => ?_) (fun n => ?_) 100000 (by omega)
      · rw [L_Shm_load_97, ck_pos hp, n3, if_neg (by rw [n_le _ _ (by omega) (by omega)]; omega), (hl _).2.1, (hl _).1, ck_pos (n_inb k 768 (by omega) (by omega)), ck_pos (n_inb k 768 (by omega) (by omega)), n_nat _ (by omega), lt_def, lt_def, n_succ, sA_sA, sA_3, if_pos rfl, sA_3, if_neg (by omega), t15 k hk, Nat.zero_add]
      · rw [L_Shm_load_97, ck_pos hp, n3, if_pos (Int32.le_refl _)]
    generalize hτ2 : sA τ1 (14 + 10 * p) (rowset (τ1.2.2.1 (14 + 10 * p)) 0 (3 * N) ω) = τ2 at e97
    have t14 : ∀ j, j < 3 * N → τ2.2.2.1 (14 + 10 * p) j = ω j := fun j hj => by rw [← hτ2, sA_3, if_pos rfl, rowset_get0 _ _ _ _ hj]
    have e128 : L_Shm_load_128 100000 τ2 p (Int32.ofNat N) 0 = some (sI (sA τ2 (23 + 10 * p) (rowset (τ2.2.2.1 (23 + 10 * p)) 0 N (fun j => gI (stk ω j).head?))) (41 + 6 * p) 1, Int32.ofNat (stp ω N)) := by
      refine fill_loop' (fun n σ v => L_Shm_load_128 n σ p (Int32.ofNat N) v) τ2 (23 + 10 * p) 0 N (fun j => gI (stk ω j).head?) _ (fun n k hk => ?_) (fun n => ?_) 100000 (by omega)
      · rw [L_Shm_load_128, ck_pos hp, if_neg (by rw [n_le _ _ (by omega) (by omega)]; omega), e_around ω N (14 + 10 * p) _ k (by omega) (hl _).1 hN (by omega) (fun j hj => by rw [sA_3, if_neg (by omega)]; exact t14 j hj), bd_def, (hl _).2.2, ck_pos (n_inb k 256 (by omega) (by omega)), n_nat _ (by omega), lt_def, lt_def, n_succ, sA_sA, sA_3, if_pos rfl, Nat.zero_add]
      · rw [L_Shm_load_128, ck_pos hp, if_pos (Int32.le_refl _), lt_def, e_steps ω N (14 + 10 * p) _ (by omega) (hl _).1 hN (fun j hj => by
          show (sA _ _ _).2.2.1 _ j = _
          rw [sA_3, if_neg (by omega)]; exact t14 j hj) hall, bd_def, ln_cut]
    rw [e97, e128]
    refine ⟨_, f, q, hf64, rfl, hres, ?_, ?_, ?_, fun _ => ⟨rfl, fun j hj => ?_, fun j hj => ?_, ?_⟩, fun h => absurd c h⟩
    · rw [sI_1, if_neg (by omega), ← hτ2]; exact t42
    · rw [sI_1, if_neg (by omega), ← hτ2]; exact t43
    · refine fr_sI (fr_sA ?_ _ _ (by simp [pLd])) _ _ (by simp [pLd])
      rw [← hτ2]; exact fr_sA tF _ _ (by simp [pLd])
    · show (sA _ _ _).2.2.1 _ j = _
      rw [sA_3, if_neg (by omega), t14 j hj, ← hω]
    · show (sA _ _ _).2.2.1 _ j = _
      rw [sA_3, if_pos rfl, rowset_get0 _ _ _ _ hj]
    · rw [sI_1, if_pos rfl]
  · rw [if_neg (show ¬ Int32.ofNat f ≤ (0 : Int32) from fun h => by
      rw [show (0 : Int32) = Int32.ofNat 0 from rfl, n_le _ _ (by omega) (by omega)] at h; omega), lt_def]
    refine ⟨_, f, q, hf64, rfl, hres, ?_, ?_, fr_sI tF _ _ (by simp [pLd]), fun h => absurd h c, fun _ => ⟨?_, ?_, ?_⟩⟩
    · rw [sI_1, if_neg (by omega)]; exact t42
    · rw [sI_1, if_neg (by omega)]; exact t43
    · exact tA _ (by omega)
    · exact tA _ (by omega)
    · rw [sI_1, if_neg (by omega)]; exact t41
