/-! what is wrong with an instruction, in both -/
def okT (W : Nat) : Bool := decide (W / 4096 % 16 ≠ 0) && (decide (W / 64 % 4 = 0) || (decide (W / 64 % 4 = 1) && decide (W / 256 % 16 ≤ 7)))
theorem okT_tg (W : Nat) (h : okT W = true) : tgOK W := by
  simp [okT] at h
  unfold tgOK
  omega
theorem e_targetMayBe (w : Int32) : F_Chk_targetMayBe w = some (bI (okT (un w))) := by
  have q1 : ((ushr w 6) &&& 3) = Int32.ofNat (un w / 64 % 4) := u_field w 6 2 (by omega) (by omega)
  have q2 : ((ushr w 8) &&& 15) = Int32.ofNat (un w / 256 % 16) := u_field w 8 4 (by omega) (by omega)
  have q3 : ((ushr w 12) &&& 15) = Int32.ofNat (un w / 4096 % 16) := u_field w 12 4 (by omega) (by omega)
  have key : ∀ f, f < 4 → ∀ n, n < 16 → ∀ p, p < 16 → (if Int32.ofNat p = 0 then (F_Chk_targetMayBe_30 (Int32.ofNat f) (Int32.ofNat n) 0) else (F_Chk_targetMayBe_30 (Int32.ofNat f) (Int32.ofNat n) 1)) = some (bI (decide (p ≠ 0) && (decide (f = 0) || (decide (f = 1) && decide (n ≤ 7))))) := by decide +kernel
  unfold F_Chk_targetMayBe
  rw [q1, q2, q3, lt_def, lt_def]
  exact key _ (Nat.mod_lt _ (by omega)) _ (Nat.mod_lt _ (by omega)) _ (Nat.mod_lt _ (by omega))
/-- the target of an instruction -/
def okTT (W : Nat) : Bool := if hasT (W % 64) = true then okT W else decide (W / 64 % 2048 = 0)
theorem e_Chk_hasTarget : ∀ m, m < 41 → F_Chk_hasTarget (Int32.ofNat m) = some (bI (hasT m)) := by decide
theorem e_badTarget (ω : Nat → Int32) (N a : Nat) (σ : Sg) (i : Nat) (ha : a < 58) (hl : lenM σ a = 768) (hN : N ≤ 256) (hi : i < N) (hw : ∀ j, j < 3 * N → σ.2.2.1 a j = ω j) (hk : kdN ω i ≤ 40) :
    F_Shm_badTarget σ a (Int32.ofNat i) = some (bI (!okTT (un (ω (3 * i))))) := by
  obtain ⟨a1, a2, a3, a4⟩ := i256 i (by omega)
  have q0 : ω (3 * i) &&& 63 = Int32.ofNat (kdN ω i) := w_kd _
  have q1 : ((ω (3 * i) >>> 6) &&& 3) = Int32.ofNat (un (ω (3 * i)) / 64 % 4) := b_field _ 6 2 (by omega) (by omega)
  have q2 : ((ω (3 * i) >>> 8) &&& 15) = Int32.ofNat (un (ω (3 * i)) / 256 % 16) := b_field _ 8 4 (by omega) (by omega)
  have q3 : ((ω (3 * i) >>> 12) &&& 15) = Int32.ofNat (un (ω (3 * i)) / 4096 % 16) := b_field _ 12 4 (by omega) (by omega)
  have q4 : ((ω (3 * i) >>> 6) &&& 2047) = Int32.ofNat (un (ω (3 * i)) / 64 % 2048) := b_field _ 6 11 (by omega) (by omega)
  have h2 : un (ω (3 * i)) / 64 % 2048 < 2048 := Nat.mod_lt _ (by omega)
  unfold F_Shm_badTarget F_Shm_badTarget_62 F_Shm_badTarget_72 F_Shm_badTarget_77 F_Shm_badTarget_32
  rw [ck_pos ha, a1, hl, ck_pos (n_inb _ 768 (by omega) (by omega)), n_nat _ (by omega), hw _ (by omega), lt_def, q0, e_hasTarget _ hk, bd_def, q1, q2, q3, q4, lt_def]
  unfold okTT
  show _ = some (bI (!if hasT (kdN ω i) = true then _ else _))
  by_cases c : hasT (kdN ω i) = true
  · rw [if_pos c, if_pos c, if_neg (by decide)]
    have key : ∀ f, f < 4 → ∀ n, n < 16 → ∀ p, p < 16 → (if (1 : Int32) < Int32.ofNat f then (ck ((1 : Int32) = 0 ∨ (1 : Int32) = 1) (some (1 : Int32))) else (if Int32.ofNat f = (1 : Int32) then (if (8 : Int32) ≤ Int32.ofNat n then (ck ((1 : Int32) = 0 ∨ (1 : Int32) = 1) (some (1 : Int32))) else (if Int32.ofNat p = 0 then (ck ((1 : Int32) = 0 ∨ (1 : Int32) = 1) (some (1 : Int32))) else (ck ((0 : Int32) = 0 ∨ (0 : Int32) = 1) (some (0 : Int32))))) else (if Int32.ofNat p = 0 then (ck ((1 : Int32) = 0 ∨ (1 : Int32) = 1) (some (1 : Int32))) else (ck ((0 : Int32) = 0 ∨ (0 : Int32) = 1) (some (0 : Int32)))))) = some (bI (!(decide (p ≠ 0) && (decide (f = 0) || (decide (f = 1) && decide (n ≤ 7)))))) := by decide +kernel
    exact key _ (Nat.mod_lt _ (by omega)) _ (Nat.mod_lt _ (by omega)) _ (Nat.mod_lt _ (by omega))
  · rw [if_neg c, if_neg c, if_pos (by decide)]
    by_cases d : un (ω (3 * i)) / 64 % 2048 = 0
    · rw [d]; rfl
    · rw [if_neg (show ¬ Int32.ofNat (un (ω (3 * i)) / 64 % 2048) = 0 from fun h => d ((n_inj _ 0 (by omega) (by omega)).mp h))]
      simp [d]; rfl
/-- the number of an instruction -/
def okN (m nm i N : Nat) : Bool := if m = 32 ∨ m = 33 then decide (nm ≤ 3) else if m = 34 then decide (1 ≤ nm ∧ nm ≤ 255) else if m = 36 ∨ m = 37 then decide (i < nm ∧ nm < N) else decide (nm = 0)
theorem e_numberMayBe (m nm i N : Nat) (hm : m ≤ 40) (hn : nm < 32768) (hi : i < 256) (hN : N ≤ 256) : F_Chk_numberMayBe (Int32.ofNat m) (Int32.ofNat nm) (Int32.ofNat i) (Int32.ofNat N) = some (bI (okN m nm i N)) := by
  have c : m = 32 ∨ m = 33 ∨ m = 34 ∨ m = 35 ∨ m = 36 ∨ m = 37 ∨ (m ≠ 32 ∧ m ≠ 33 ∧ m ≠ 34 ∧ m ≠ 35 ∧ m ≠ 36 ∧ m ≠ 37) := by omega
  have l3 : (3 : Int32) < Int32.ofNat nm ↔ 3 < nm := n_lt 3 nm (by omega) (by omega)
  have l1 : Int32.ofNat nm < 1 ↔ nm < 1 := n_lt nm 1 (by omega) (by omega)
  have l255 : (255 : Int32) < Int32.ofNat nm ↔ 255 < nm := n_lt 255 nm (by omega) (by omega)
  have li : Int32.ofNat nm ≤ Int32.ofNat i ↔ nm ≤ i := n_le _ _ (by omega) (by omega)
  have lN : Int32.ofNat N ≤ Int32.ofNat nm ↔ N ≤ nm := n_le _ _ (by omega) (by omega)
  have l0 : Int32.ofNat nm = 0 ↔ nm = 0 := n_inj nm 0 (by omega) (by omega)
  have e40 : F_Chk_numberMayBe_40 (Int32.ofNat nm) (Int32.ofNat i) (Int32.ofNat N) = some (bI (decide (i < nm ∧ nm < N))) := by
    simp only [F_Chk_numberMayBe_40, F_Chk_numberMayBe_54, F_Chk_numberMayBe_55, li, lN]
    by_cases x : nm ≤ i
    · rw [if_pos x]
      have : ¬ (i < nm ∧ nm < N) := by omega
      simp [this]; rfl
    · rw [if_neg x]
      by_cases y : N ≤ nm
      · rw [if_pos y]
        have : ¬ (i < nm ∧ nm < N) := by omega
        simp [this]; rfl
      · rw [if_neg y]
        have : (i < nm ∧ nm < N) := by omega
        simp [this]; rfl
  have e85 : F_Chk_numberMayBe_85 (Int32.ofNat nm) = some (bI (decide (nm = 0))) := by
    simp only [F_Chk_numberMayBe_85, F_Chk_numberMayBe_94, l0]
    by_cases x : nm = 0
    · subst x; rfl
    · rw [if_neg x]; simp [x]; rfl
  have e74 : F_Chk_numberMayBe_74 (Int32.ofNat nm) = some (bI (decide (nm ≤ 3))) := by
    simp only [F_Chk_numberMayBe_74, F_Chk_numberMayBe_84, l3]
    by_cases x : 3 < nm
    · rw [if_pos x]
      have : ¬ nm ≤ 3 := by omega
      simp [this]; rfl
    · rw [if_neg x]
      have : nm ≤ 3 := by omega
      simp [this]; rfl
  unfold F_Chk_numberMayBe okN
  rw [e74, e40, e85]
  simp only [F_Chk_numberMayBe_72, F_Chk_numberMayBe_73, l1, l255]
  rcases c with rfl | rfl | rfl | rfl | rfl | rfl | c
  · rfl
  · rfl
  · show (if nm < 1 then _ else if 255 < nm then _ else _) = some (bI (decide (1 ≤ nm ∧ nm ≤ 255)))
    by_cases x : nm < 1
    · rw [if_pos x]
      have : ¬ (1 ≤ nm ∧ nm ≤ 255) := by omega
      simp only [this]; rfl
    · rw [if_neg x]
      by_cases y : 255 < nm
      · rw [if_pos y]
        have : ¬ (1 ≤ nm ∧ nm ≤ 255) := by omega
        simp only [this]; rfl
      · rw [if_neg y]
        have : (1 ≤ nm ∧ nm ≤ 255) := by omega
        simp only [this]; rfl
  · rfl
  · rfl
  · rfl
  · have n6 : ∀ j, j < 41 → m ≠ j → ¬ (Int32.ofNat m = Int32.ofNat j) := fun j hj h e => h ((n_inj m j (by omega) (by omega)).mp e)
    rw [if_neg (show ¬ Int32.ofNat m = 32 from n6 32 (by omega) (by omega)), if_neg (show ¬ Int32.ofNat m = 33 from n6 33 (by omega) (by omega)), if_neg (show ¬ Int32.ofNat m = 34 from n6 34 (by omega) (by omega)), if_neg (show ¬ Int32.ofNat m = 35 from n6 35 (by omega) (by omega)), if_neg (show ¬ Int32.ofNat m = 36 from n6 36 (by omega) (by omega)), if_neg (show ¬ Int32.ofNat m = 37 from n6 37 (by omega) (by omega)), if_neg (by omega), if_neg (by omega), if_neg (by omega)]
theorem e_badNumber (ω : Nat → Int32) (N a : Nat) (σ : Sg) (i : Nat) (ha : a < 58) (hl : lenM σ a = 768) (hN : N ≤ 256) (hi : i < N) (hw : ∀ j, j < 3 * N → σ.2.2.1 a j = ω j) (hk : kdN ω i ≤ 40) :
    F_Shm_badNumber σ a (Int32.ofNat i) (Int32.ofNat N) = some (bI (!okN (kdN ω i) (nmN ω i) i N)) := by
  have hn := nm_lt ω i
  unfold F_Shm_badNumber
  rw [ck_pos ha, e_numberOf ω N a σ i ha hl hN hi hw, bd_def, e_kindOf ω N a σ i ha hl hN hi hw, bd_def]
  generalize kdN ω i = m at hk
  generalize nmN ω i = nm at hn
  have c : m = 32 ∨ m = 33 ∨ m = 34 ∨ m = 35 ∨ m = 36 ∨ m = 37 ∨ (m ≠ 32 ∧ m ≠ 33 ∧ m ≠ 34 ∧ m ≠ 35 ∧ m ≠ 36 ∧ m ≠ 37) := by omega
  have l3 : Int32.ofNat nm ≤ 3 ↔ nm ≤ 3 := n_le nm 3 (by omega) (by omega)
  have l1 : Int32.ofNat nm < 1 ↔ nm < 1 := n_lt nm 1 (by omega) (by omega)
  have l255 : Int32.ofNat nm ≤ 255 ↔ nm ≤ 255 := n_le nm 255 (by omega) (by omega)
  have li : Int32.ofNat nm ≤ Int32.ofNat i ↔ nm ≤ i := n_le _ _ (by omega) (by omega)
  have lN : Int32.ofNat nm < Int32.ofNat N ↔ nm < N := n_lt _ _ (by omega) (by omega)
  have l0 : Int32.ofNat nm = 0 ↔ nm = 0 := n_inj nm 0 (by omega) (by omega)
  have e40 : F_Shm_badNumber_48 σ (Int32.ofNat i) (Int32.ofNat N) (Int32.ofNat nm) = some (bI (!decide (i < nm ∧ nm < N))) := by
    simp only [F_Shm_badNumber_48, F_Shm_badNumber_58, F_Shm_badNumber_63, li, lN]
    by_cases x : nm ≤ i
    · rw [if_pos x]
      have : ¬ (i < nm ∧ nm < N) := by omega
      simp [this]; rfl
    · rw [if_neg x]
      by_cases y : nm < N
      · rw [if_pos y]
        have : (i < nm ∧ nm < N) := by omega
        simp [this]; rfl
      · rw [if_neg y]
        have : ¬ (i < nm ∧ nm < N) := by omega
        simp [this]; rfl
  have e85 : F_Shm_badNumber_93 σ (Int32.ofNat nm) = some (bI (!decide (nm = 0))) := by
    simp only [F_Shm_badNumber_93, F_Shm_badNumber_102, l0]
    by_cases x : nm = 0
    · subst x; rfl
    · rw [if_neg x]; simp [x]; rfl
  have e74 : F_Shm_badNumber_82 σ (Int32.ofNat nm) = some (bI (!decide (nm ≤ 3))) := by
    simp only [F_Shm_badNumber_82, F_Shm_badNumber_92, l3]
    by_cases x : nm ≤ 3
    · rw [if_pos x]; simp [x]; rfl
    · rw [if_neg x]; simp [x]; rfl
  unfold okN
  rw [e74, e40, e85]
  simp only [F_Shm_badNumber_76, F_Shm_badNumber_81, l1, l255]
  rcases c with rfl | rfl | rfl | rfl | rfl | rfl | c
  · rfl
  · rfl
  · show (if nm < 1 then _ else if nm ≤ 255 then _ else _) = some (bI (!decide (1 ≤ nm ∧ nm ≤ 255)))
    by_cases x : nm < 1
    · rw [if_pos x]
      have : ¬ (1 ≤ nm ∧ nm ≤ 255) := by omega
      simp only [this]; rfl
    · rw [if_neg x]
      by_cases y : nm ≤ 255
      · rw [if_pos y]
        have : (1 ≤ nm ∧ nm ≤ 255) := by omega
        simp only [this]; rfl
      · rw [if_neg y]
        have : ¬ (1 ≤ nm ∧ nm ≤ 255) := by omega
        simp only [this]; rfl
  · rfl
  · rfl
  · rfl
  · have n6 : ∀ j, j < 41 → m ≠ j → ¬ (Int32.ofNat m = Int32.ofNat j) := fun j hj h e => h ((n_inj m j (by omega) (by omega)).mp e)
    rw [if_neg (show ¬ Int32.ofNat m = 32 from n6 32 (by omega) (by omega)), if_neg (show ¬ Int32.ofNat m = 33 from n6 33 (by omega) (by omega)), if_neg (show ¬ Int32.ofNat m = 34 from n6 34 (by omega) (by omega)), if_neg (show ¬ Int32.ofNat m = 35 from n6 35 (by omega) (by omega)), if_neg (show ¬ Int32.ofNat m = 36 from n6 36 (by omega) (by omega)), if_neg (show ¬ Int32.ofNat m = 37 from n6 37 (by omega) (by omega)), if_neg (by omega), if_neg (by omega), if_neg (by omega)]
