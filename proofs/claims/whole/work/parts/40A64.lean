/-! a program without a fault -/
theorem fau_zero (ω : Nat → Int32) (N : Nat) (pl : Int32) (i : Nat) (h : fau ω N pl i = 0) : kdN ω i ≤ 40 ∧ okTT (un (ω (3 * i))) = true ∧ okSS (tb_SOURCES (kdN ω i)).toNatClampNeg (ω (3 * i + 1)) (ω (3 * i + 2)) = true ∧ okN (kdN ω i) (nmN ω i) i N = true ∧ (kdN ω i = 35 → stk ω i ≠ []) ∧ (kdN ω i = 34 → (stk ω i).length < 4) ∧ (kdN ω i = 0 ↔ i + 1 = N) := by
  unfold fau at h
  split at h
  · omega
  split at h
  · omega
  split at h
  · omega
  split at h
  · omega
  split at h
  · omega
  split at h
  · omega
  rename_i h1 h2 h3 h4 h5 h6
  refine ⟨by omega, by simpa using h2, by simpa using h3, by simpa using h4, fun hk he => h5 (Or.inl ⟨hk, by rw [he]; rfl⟩), fun hk => Classical.byContradiction fun hc => h5 (Or.inr ⟨hk, by omega⟩), Classical.byContradiction h6⟩
theorem stk_len (ω : Nat → Int32) (N : Nat) (pl : Int32) (i : Nat) (h : ∀ j, j < i → fau ω N pl j = 0) : (stk ω i).length ≤ 4 := by
  induction i with
  | zero => simp [stk]
  | succ i ih =>
    have := ih (fun j hj => h j (by omega))
    obtain ⟨-, -, -, -, -, h34, -⟩ := fau_zero ω N pl i (h i (by omega))
    simp only [stk]
    split
    · have := h34 (by assumption); simp; omega
    · split
      · simp; omega
      · omega
theorem stk_nm (ω : Nat → Int32) (N : Nat) (pl : Int32) (i : Nat) (h : ∀ j, j < i → fau ω N pl j = 0) : ∀ b, b ∈ stk ω i → 1 ≤ nmN ω b ∧ nmN ω b ≤ 255 := by
  intro b hb
  obtain ⟨-, -, -, hn, -⟩ := fau_zero ω N pl b (h b (stk_lt ω i b hb))
  obtain ⟨-, -, -, hk⟩ := stk_split ω i b hb
  unfold okN at hn
  rw [hk] at hn
  simpa using hn
theorem pr_le (ω : Nat → Int32) (L : List Nat) (h : ∀ b, b ∈ L → nmN ω b ≤ 255) : pr ω L ≤ 255 ^ L.length := by
  induction L with
  | nil => simp [pr]
  | cons b r ih =>
    have h1 := ih (fun c hc => h c (List.mem_cons_of_mem _ hc))
    have h2 := h b List.mem_cons_self
    simp only [pr, List.length_cons, Nat.pow_succ]
    exact Nat.mul_le_mul h1 h2
theorem pr_le4 (ω : Nat → Int32) (N : Nat) (pl : Int32) (i : Nat) (h : ∀ j, j < i → fau ω N pl j = 0) : pr ω (stk ω i) ≤ 4228250625 := by
  have h1 := pr_le ω (stk ω i) (fun b hb => (stk_nm ω N pl i h b hb).2)
  have h2 : 255 ^ (stk ω i).length ≤ 255 ^ 4 := Nat.pow_le_pow_right (by omega) (stk_len ω N pl i h)
  have h3 : (255 : Nat) ^ 4 = 4228250625 := by decide
  omega
theorem ssum_bd (f : Nat → Nat) (B N : Nat) (h : ∀ j, j < N → f j ≤ B) : ssum f N ≤ N * B := by
  induction N with
  | zero => simp [ssum]
  | succ N ih =>
    have := ih (fun j hj => h j (by omega))
    have := h N (by omega)
    simp only [ssum, Nat.succ_mul]; omega
theorem stp_bd (ω : Nat → Int32) (N : Nat) (pl : Int32) (i : Nat) (hi : i ≤ N) (hN : N ≤ 256) (h : ∀ j, j < N → fau ω N pl j = 0) : ssum (fun j => pr ω (stk ω j)) i ≤ 1082432160000 := by
  have := ssum_bd (fun j => pr ω (stk ω j)) 4228250625 i (fun j hj => pr_le4 ω N pl j (fun k hk => h k (by omega)))
  have : i * 4228250625 ≤ 256 * 4228250625 := Nat.mul_le_mul_right _ (by omega)
  omega
theorem e_steps (ω : Nat → Int32) (N a : Nat) (σ : Sg) (ha : a < 58) (hl : lenM σ a = 768) (hN : N ≤ 256) (hw : ∀ j, j < 3 * N → σ.2.2.1 a j = ω j) (hlen : ∀ i, i ≤ N → (stk ω i).length ≤ 4) :
    F_Shm_steps σ a (Int32.ofNat N) = some (Int64.ofNat (stp ω N)) := by
  have chain : ∀ (rc : Sg → Nat → Int32 → Int64 → Int32 → Option Int64) (i : Nat) (acc : Int64) (n : Nat) (L : List Nat), ∀ k, k ≤ N → stk ω k = L → ∀ t m, L.length < m → L_Shm_steps_22 rc m σ a (Int32.ofNat N) acc (Int32.ofNat i) (Int64.ofNat t) (gI L.head?) = rc σ a (Int32.ofNat N) (acc + Int64.ofNat (t * pr ω L)) (Int32.ofNat (i + 1)) := by
    intro rc i acc n L
    induction L with
    | nil =>
      intro k hk hs t m hm
      obtain ⟨m, rfl⟩ : ∃ x, m = x + 1 := ⟨m - 1, by omega⟩
      rw [L_Shm_steps_22, ck_pos ha, if_pos (by decide), lt_def, lt_def, n_succ]
      simp only [pr, Nat.mul_one]
    | cons b r ih =>
      intro k hk hs t m hm
      obtain ⟨m, rfl⟩ : ∃ x, m = x + 1 := ⟨m - 1, by omega⟩
      obtain ⟨hr, -, hbk⟩ := stk_head ω k b r hs
      have hnb := nm_lt ω b
      simp only [List.head?_cons, gI]
      rw [L_Shm_steps_22, ck_pos ha, if_neg (by rw [show (0 : Int32) = Int32.ofNat 0 from rfl, n_lt _ _ (by omega) (by omega)]; omega), e_numberOf ω N a σ b ha hl hN (by omega) hw, bd_def, lt_def, e_around ω N a σ b ha hl hN (by omega) hw, bd_def, ln_ext _ (by omega), ln_mul, ← hr]
      rw [ih b (by omega) hr.symm (t * nmN ω b) m (by simp at hm; omega)]
      simp only [pr]
      congr 3
      rw [Nat.mul_assoc, Nat.mul_comm (nmN ω b)]
  have key : ∀ d k, N = k + d → ∀ n, d < n → L_Shm_steps_5 n σ a (Int32.ofNat N) (Int64.ofNat (ssum (fun j => pr ω (stk ω j)) k)) (Int32.ofNat k) = some (Int64.ofNat (stp ω N)) := by
    intro d
    induction d with
    | zero =>
      intro k hk n hn
      obtain ⟨n, rfl⟩ : ∃ m, n = m + 1 := ⟨n - 1, by omega⟩
      have : k = N := by omega
      subst this
      rw [L_Shm_steps_5, ck_pos ha, if_pos (Int32.le_refl _)]; rfl
    | succ d ih =>
      intro k hk n hn
      obtain ⟨n, rfl⟩ : ∃ m, n = m + 1 := ⟨n - 1, by omega⟩
      have h4 := hlen k (by omega)
      rw [L_Shm_steps_5, ck_pos ha, if_neg (by rw [n_le _ _ (by omega) (by omega)]; omega), e_around ω N a σ k ha hl hN (by omega) hw, bd_def]
      rw [show (1 : Int64) = Int64.ofNat 1 from rfl, chain _ k _ n (stk ω k) k (by omega) rfl 1 100000 (by omega), ln_add, Nat.one_mul]
      exact ih (k + 1) (by omega) n (by omega)
  unfold F_Shm_steps
  rw [ck_pos ha]
  exact key N 0 (by omega) 100000 (by omega)
/-! the class's pass over an instruction -/
theorem e_readBy (s : Nat) (hs : s < 65536) : F_Chk_readBy (Int32.ofNat s) = some (if s % 4 = 1 then Int32.ofNat (2 ^ (s / 4 % 8)) else 0) := by
  have q : (ushr (Int32.ofNat s) 2) &&& 7 = Int32.ofNat (s / 4 % 8) := by
    have := u_field (Int32.ofNat s) 2 3 (by omega) (by omega)
    rw [un_small s (by omega)] at this
    exact this
  have key : ∀ k, k < 8 → (1 : Int32) <<< (Int32.ofNat k &&& 31) = Int32.ofNat (2 ^ k) := by decide
  unfold F_Chk_readBy F_Chk_readBy_19
  rw [sf_file s hs, q, key _ (Nat.mod_lt _ (by omega))]
  by_cases c : s % 4 = 1
  · rw [if_pos (show Int32.ofNat (s % 4) = 1 by rw [c]; rfl), if_pos c]
  · rw [if_neg (show ¬ Int32.ofNat (s % 4) = 1 from fun h => c ((n_inj _ 1 (by omega) (by omega)).mp h)), if_neg c]
def StkO (f : Nat → Int32) : List Nat → Prop
  | [] => True
  | b :: r => f r.length = Int32.ofNat b ∧ StkO f r
def TmO (ω : Nat → Int32) (g : Nat → Int64) : List Nat → Prop
  | [] => g 0 = 1
  | b :: r => g (r.length + 1) = Int64.ofNat (pr ω (b :: r)) ∧ TmO ω g r
theorem StkO_ext (f f' : Nat → Int32) (L : List Nat) (hf : ∀ k, k < L.length → f' k = f k) (h : StkO f L) : StkO f' L := by
  induction L with
  | nil => trivial
  | cons b r ih => exact ⟨by rw [hf _ (by simp)]; exact h.1, ih (fun k hk => hf k (by simp; omega)) h.2⟩
theorem TmO_ext (ω : Nat → Int32) (g g' : Nat → Int64) (L : List Nat) (hf : ∀ k, k ≤ L.length → g' k = g k) (h : TmO ω g L) : TmO ω g' L := by
  induction L with
  | nil => show g' 0 = 1; rw [hf 0 (by simp)]; exact h
  | cons b r ih => exact ⟨by rw [hf _ (by simp)]; exact h.1, ih (fun k hk => hf k (by simp; omega)) h.2⟩
theorem TmO_top (ω : Nat → Int32) (g : Nat → Int64) (L : List Nat) (h : TmO ω g L) : g L.length = Int64.ofNat (pr ω L) := by
  cases L with
  | nil => exact h
  | cons b r => exact h.1
def rdb (x : Int32) (n : Nat) : Prop := (un x).testBit n = true
/-- what the check changes -/
def pChk (pid : Nat) : Nat → Nat → Bool := fun c k => (c == 0 && (k == 12 || k == 13 || k == 14 || k == 23 + 3 * pid || k == 24 + 3 * pid)) || (c == 1 && k == 1) || (c == 2 && (k == 8 || k == 9)) || (c == 3 && k == 0)
def ChkI (ω : Nat → Int32) (pid i : Nat) (σ0 σ : Sg) : Prop :=
  Fr (pChk pid) σ0 σ ∧ σ.1 12 = 0 ∧ σ.1 13 = -1 ∧ σ.1 14 = Int32.ofNat (stk ω i).length ∧ StkO (σ.2.2.1 9) (stk ω i) ∧ TmO ω (σ.2.2.2.1 0) (stk ω i) ∧ σ.2.1 1 = Int64.ofNat (ssum (fun j => pr ω (stk ω j)) i) ∧ (∀ j, j < i → σ.2.2.1 8 j = gI (stk ω j).head?)
  ∧ (∀ j, j < i → ∀ s, (s = s1N ω j ∨ s = s2N ω j ∨ s = s3N ω j) → s % 4 = 1 → rdb (σ.1 (24 + 3 * pid)) (s / 4 % 8))
theorem tb_or (x y : Int32) (n : Nat) (h : rdb x n ∨ rdb y n) : rdb (x ||| y) n := by
  unfold rdb at *
  rw [un_or, Nat.testBit_or]
  rcases h with h | h <;> simp [h]
theorem tb_pow (k : Nat) (hk : k < 8) : rdb (Int32.ofNat (2 ^ k)) k := by
  unfold rdb
  have : 2 ^ k ≤ 2 ^ 8 := Nat.pow_le_pow_right (by omega) (by omega)
  rw [un_small _ (by omega)]
  simp
