/-! the reference's looks at a program -/
def gI (o : Option Nat) : Int32 := match o with
  | none => -1
  | some b => Int32.ofNat b
theorem e_depth (ω : Nat → Int32) (N a : Nat) (σ : Sg) (i : Nat) (ha : a < 58) (hl : lenM σ a = 768) (hN : N ≤ 256) (hi : i ≤ N) (hw : ∀ j, j < 3 * N → σ.2.2.1 a j = ω j) (hu : ∀ j, j < i → kdN ω j = 35 → stk ω j ≠ []) :
    F_Shm_depth σ a (Int32.ofNat i) = some (Int32.ofNat (stk ω i).length) := by
  have hlen : ∀ j, (stk ω j).length ≤ j := by
    intro j
    induction j with
    | zero => simp [stk]
    | succ j ih => simp only [stk]; split
                   · simp; omega
                   · split
                     · simp; omega
                     · omega
  unfold F_Shm_depth
  rw [ck_pos ha]
  have key : ∀ d k, i = k + d → ∀ n, d < n → L_Shm_depth_4 n σ a (Int32.ofNat i) (Int32.ofNat (stk ω k).length) (Int32.ofNat k) = some (Int32.ofNat (stk ω i).length) := by
    intro d
    induction d with
    | zero =>
      intro k hk n hn
      obtain ⟨n, rfl⟩ : ∃ m, n = m + 1 := ⟨n - 1, by omega⟩
      have : k = i := by omega
      subst this
      rw [L_Shm_depth_4, ck_pos ha, if_pos (Int32.le_refl _)]
    | succ d ih =>
      intro k hk n hn
      obtain ⟨n, rfl⟩ : ∃ m, n = m + 1 := ⟨n - 1, by omega⟩
      have hkl := hlen k
      rw [L_Shm_depth_4, ck_pos ha, if_neg (by rw [n_le _ _ (by omega) (by omega)]; omega), e_kindOf ω N a σ k ha hl hN (by omega) hw, bd_def, bd_def]
      have hk64 := kd_lt ω k
      unfold F_Shm_depth_39
      simp only [ck_pos ha, lt, n_succ]
      by_cases c : kdN ω k = 34
      · rw [if_pos (show Int32.ofNat (kdN ω k) = (34 : Int32) by rw [c]; rfl)]
        have e : stk ω (k + 1) = k :: stk ω k := by simp only [stk, if_pos c]
        have := ih (k + 1) (by omega) n (by omega)
        rw [e, List.length_cons] at this
        exact this
      · rw [if_neg (show ¬ Int32.ofNat (kdN ω k) = (34 : Int32) from fun h => c ((n_inj _ 34 (by omega) (by omega)).mp h))]
        by_cases c2 : kdN ω k = 35
        · rw [if_pos (show Int32.ofNat (kdN ω k) = (35 : Int32) by rw [c2]; rfl)]
          have hne := hu k (by omega) c2
          have hp : 1 ≤ (stk ω k).length := List.length_pos_iff.mpr hne
          have e : stk ω (k + 1) = (stk ω k).tail := by simp only [stk, if_neg c, if_pos c2]
          have := ih (k + 1) (by omega) n (by omega)
          rw [e, List.length_tail] at this
          rw [i_predn _ (by omega) hp]
          exact this
        · rw [if_neg (show ¬ Int32.ofNat (kdN ω k) = (35 : Int32) from fun h => c2 ((n_inj _ 35 (by omega) (by omega)).mp h))]
          have e : stk ω (k + 1) = stk ω k := by simp only [stk, if_neg c, if_neg c2]
          have := ih (k + 1) (by omega) n (by omega)
          rw [e] at this
          rw [show Int32.ofNat (stk ω k).length + 0 = Int32.ofNat (stk ω k).length by grind]
          exact this
  exact key i 0 (by omega) 100000 (by omega)
theorem e_faultOf (ω : Nat → Int32) (N a : Nat) (σ : Sg) (i : Nat) (pl : Int32) (ha : a < 58) (hl : lenM σ a = 768) (hN : N ≤ 256) (hi : i < N) (hw : ∀ j, j < 3 * N → σ.2.2.1 a j = ω j) (hu : ∀ j, j < i → kdN ω j = 35 → stk ω j ≠ []) (hl4 : (stk ω i).length ≤ 4) :
    F_Shm_faultOf σ a (Int32.ofNat i) (Int32.ofNat N) pl = some (Int32.ofNat (fau ω N pl i)) := by
  have hk := kd_lt ω i
  have nj : ∀ j, j < 64 → (Int32.ofNat (kdN ω i) = Int32.ofNat j ↔ kdN ω i = j) := fun j hj => n_inj _ _ (by omega) (by omega)
  unfold F_Shm_faultOf
  rw [ck_pos ha, e_kindOf ω N a σ i ha hl hN hi hw, bd_def]
  unfold fau
  by_cases c40 : 40 < kdN ω i
  · rw [if_pos c40, if_neg (by rw [show (40 : Int32) = Int32.ofNat 40 from rfl, n_le _ _ (by omega) (by omega)]; omega)]; rfl
  · rw [if_neg c40, if_pos (by rw [show (40 : Int32) = Int32.ofNat 40 from rfl, n_le _ _ (by omega) (by omega)]; omega), e_badTarget ω N a σ i ha hl hN hi hw (by omega), bd_def]
    cases okTT (un (ω (3 * i)))
    · rfl
    · rw [if_pos (show bI (!true) = (0 : Int32) from rfl), if_neg (show ¬ (true = false) by decide), e_badSources ω N a σ i ha hl hN hi hw (by omega), bd_def]
      cases okSS (tb_SOURCES (kdN ω i)).toNatClampNeg (ω (3 * i + 1)) (ω (3 * i + 2))
      · rfl
      · rw [if_pos (show bI (!true) = (0 : Int32) from rfl), if_neg (show ¬ (true = false) by decide), e_badNumber ω N a σ i ha hl hN hi hw (by omega), bd_def]
        cases okN (kdN ω i) (nmN ω i) i N
        · rfl
        · rw [if_pos (show bI (!true) = (0 : Int32) from rfl), if_neg (show ¬ (true = false) by decide), e_depth ω N a σ i ha hl hN (by omega) hw hu, bd_def]
          have e80 : F_Shm_faultOf_80 σ (Int32.ofNat i) (Int32.ofNat N) pl (Int32.ofNat (kdN ω i)) = some (Int32.ofNat (if ¬ (kdN ω i = 0 ↔ i + 1 = N) then 6 else if kdN ω i = 38 ∧ pl = 0 then 7 else 0)) := by
            have e90 : ∀ b : Bool, F_Shm_faultOf_90 σ (Int32.ofNat i) (Int32.ofNat N) pl (Int32.ofNat (kdN ω i)) (bI b) = some (Int32.ofNat (if ¬ (b = true ↔ i + 1 = N) then 6 else if kdN ω i = 38 ∧ pl = 0 then 7 else 0)) := by
              intro b
              unfold F_Shm_faultOf_90
              have e1 : Int32.ofNat i = Int32.ofNat N - 1 ↔ i + 1 = N := by
                rw [i_pred' N (by omega) (by omega), n_inj _ _ (by omega) (by omega)]; omega
              by_cases x : i + 1 = N
              · rw [if_pos (e1.mpr x)]
                have := (e_169 σ pl (kdN ω i) hk b true).2
                simp only [x, iff_true] at this ⊢
                exact this
              · rw [if_neg (fun h => x (e1.mp h))]
                have := (e_169 σ pl (kdN ω i) hk b false).2
                simp only [x, iff_false] at this ⊢
                simp only [Bool.false_eq_true, iff_false] at this
                exact this
            unfold F_Shm_faultOf_80
            by_cases x : kdN ω i = 0
            · rw [if_pos (show Int32.ofNat (kdN ω i) = (0 : Int32) from (nj 0 (by omega)).mpr x)]
              have := e90 true
              simp only [x, true_iff] at this ⊢
              exact this
            · rw [if_neg (show ¬ Int32.ofNat (kdN ω i) = (0 : Int32) from fun h => x ((nj 0 (by omega)).mp h))]
              have := e90 false
              simp only [x, false_iff] at this ⊢
              simp only [Bool.false_eq_true, false_iff] at this
              exact this
          have e62 : F_Shm_faultOf_62 σ a (Int32.ofNat i) (Int32.ofNat N) pl (Int32.ofNat (kdN ω i)) = some (Int32.ofNat (if kdN ω i = 34 ∧ 4 ≤ (stk ω i).length then 5 else if ¬ (kdN ω i = 0 ↔ i + 1 = N) then 6 else if kdN ω i = 38 ∧ pl = 0 then 7 else 0)) := by
            unfold F_Shm_faultOf_62
            rw [ck_pos ha, e80, e_depth ω N a σ i ha hl hN (by omega) hw hu, bd_def]
            by_cases x : kdN ω i = 34
            · rw [if_pos (show Int32.ofNat (kdN ω i) = (34 : Int32) from (nj 34 (by omega)).mpr x)]
              by_cases y : 4 ≤ (stk ω i).length
              · rw [if_neg (show ¬ Int32.ofNat (stk ω i).length < (4 : Int32) from fun h => by have := (n_lt _ 4 (by omega) (by omega)).mp h; omega), if_pos ⟨x, y⟩]; rfl
              · rw [if_pos (show Int32.ofNat (stk ω i).length < (4 : Int32) from (n_lt _ 4 (by omega) (by omega)).mpr (by omega)), if_neg (show ¬ (kdN ω i = 34 ∧ 4 ≤ (stk ω i).length) by omega)]
            · rw [if_neg (show ¬ Int32.ofNat (kdN ω i) = (34 : Int32) from fun h => x ((nj 34 (by omega)).mp h)), if_neg (show ¬ (kdN ω i = 34 ∧ 4 ≤ (stk ω i).length) by omega)]
          by_cases x : kdN ω i = 35
          · rw [if_pos (show Int32.ofNat (kdN ω i) = (35 : Int32) from (nj 35 (by omega)).mpr x)]
            by_cases y : (stk ω i).length = 0
            · rw [if_pos (show Int32.ofNat (stk ω i).length = (0 : Int32) by rw [y]; rfl), if_pos (Or.inl ⟨x, y⟩)]; rfl
            · rw [if_neg (show ¬ Int32.ofNat (stk ω i).length = (0 : Int32) from fun h => y ((n_inj _ 0 (by omega) (by omega)).mp h)), e62, if_neg (show ¬ (kdN ω i = 34 ∧ 4 ≤ (stk ω i).length) by omega), if_neg (show ¬ ((kdN ω i = 35 ∧ (stk ω i).length = 0) ∨ (kdN ω i = 34 ∧ 4 ≤ (stk ω i).length)) by omega)]
          · rw [if_neg (show ¬ Int32.ofNat (kdN ω i) = (35 : Int32) from fun h => x ((nj 35 (by omega)).mp h)), e62]
            by_cases z : kdN ω i = 34 ∧ 4 ≤ (stk ω i).length
            · rw [if_pos z, if_pos (Or.inr z)]
            · rw [if_neg z, if_neg (show ¬ ((kdN ω i = 35 ∧ (stk ω i).length = 0) ∨ (kdN ω i = 34 ∧ 4 ≤ (stk ω i).length)) by omega)]
theorem e_around (ω : Nat → Int32) (N a : Nat) (σ : Sg) (i : Nat) (ha : a < 58) (hl : lenM σ a = 768) (hN : N ≤ 256) (hi : i ≤ N) (hw : ∀ j, j < 3 * N → σ.2.2.1 a j = ω j) :
    F_Shm_around σ a (Int32.ofNat i) = some (gI (stk ω i).head?) := by
  have key : ∀ k, k ≤ N → ∀ c, c ≤ 256 - k → ∀ n, k < n → L_Shm_around_6 n σ a (Int32.ofNat c) (Int32.ofNat k - 1) = some (gI (stk ω k)[c]?) := by
    intro k
    induction k with
    | zero =>
      intro _ c _ n hn
      obtain ⟨n, rfl⟩ : ∃ m, n = m + 1 := ⟨n - 1, by omega⟩
      rw [L_Shm_around_6, ck_pos ha, if_pos (by decide)]; rfl
    | succ k ih =>
      intro hk c hc n hn
      obtain ⟨n, rfl⟩ : ∃ m, n = m + 1 := ⟨n - 1, by omega⟩
      have hk64 := kd_lt ω k
      rw [L_Shm_around_6, ck_pos ha, i_pred' (k + 1) (by omega) (by omega), Nat.add_sub_cancel, if_neg (by rw [show (0 : Int32) = Int32.ofNat 0 from rfl, n_lt _ _ (by omega) (by omega)]; omega), e_kindOf ω N a σ k ha hl hN (by omega) hw, bd_def, bd_def]
      unfold F_Shm_around_45
      have e1 : Int32.ofNat k + -1 = Int32.ofNat k - 1 := by grind
      simp only [ck_pos ha, lt, n_succ, e1]
      by_cases c2 : kdN ω k = 35
      · rw [if_pos (show Int32.ofNat (kdN ω k) = 35 by rw [c2]; rfl), ih (by omega) (c + 1) (by omega) n (by omega)]
        have e : stk ω (k + 1) = (stk ω k).tail := by simp only [stk]; rw [if_neg (by omega), if_pos c2]
        rw [e, List.getElem?_tail]
      · rw [if_neg (show ¬ Int32.ofNat (kdN ω k) = 35 from fun h => c2 ((n_inj _ 35 (by omega) (by omega)).mp h))]
        by_cases c3 : kdN ω k = 34
        · have e : stk ω (k + 1) = k :: stk ω k := by simp only [stk, if_pos c3]
          rw [if_pos (show Int32.ofNat (kdN ω k) = 34 by rw [c3]; rfl), e]
          by_cases c4 : c = 0
          · subst c4; rfl
          · rw [if_neg (show ¬ Int32.ofNat c = 0 from fun h => c4 ((n_inj _ 0 (by omega) (by omega)).mp h))]
            have e9 : Int32.ofNat c + -1 = Int32.ofNat (c - 1) := by
              have := i_pred' c (by omega) (by omega)
              rw [← this]; grind
            rw [e9, ih (by omega) (c - 1) (by omega) n (by omega)]
            obtain ⟨c', rfl⟩ : ∃ c', c = c' + 1 := ⟨c - 1, by omega⟩
            simp
        · have e : stk ω (k + 1) = stk ω k := by simp only [stk, if_neg c3, if_neg c2]
          rw [if_neg (show ¬ Int32.ofNat (kdN ω k) = 34 from fun h => c3 ((n_inj _ 34 (by omega) (by omega)).mp h)), e]
          exact ih (by omega) c (by omega) n (by omega)
  unfold F_Shm_around
  rw [ck_pos ha, lt_def]
  have := key i hi 0 (by omega) 100000 (by omega)
  rw [List.head?_eq_getElem?]
  exact this
theorem e_closing (ω : Nat → Int32) (N a : Nat) (σ : Sg) (i : Nat) (ha : a < 58) (hl : lenM σ a = 768) (hN : N ≤ 256) (hi : i < N) (hw : ∀ j, j < 3 * N → σ.2.2.1 a j = ω j) (hk : kdN ω i = 34) :
    ∃ r, F_Shm_closing σ a (Int32.ofNat i) (Int32.ofNat N) = some r ∧ ((0 : Int32) ≤ r ↔ i ∉ stk ω N) := by
  have key : ∀ d k, N = k + d → i < k → ∀ c, c ≤ k → (stk ω k)[c]? = some i → ∀ n, d < n → ∃ r, L_Shm_closing_7 n σ a (Int32.ofNat N) (Int32.ofNat c) (Int32.ofNat k) = some r ∧ ((0 : Int32) ≤ r ↔ i ∉ stk ω N) := by
    intro d
    induction d with
    | zero =>
      intro k hk0 hik c hck hst n hn
      obtain ⟨n, rfl⟩ : ∃ m, n = m + 1 := ⟨n - 1, by omega⟩
      have : k = N := by omega
      subst this
      rw [L_Shm_closing_7, ck_pos ha, if_pos (Int32.le_refl _)]
      refine ⟨-1, rfl, ?_⟩
      constructor
      · intro h; exact absurd h (by decide)
      · intro h; exact absurd (List.mem_of_getElem? hst) h
    | succ d ih =>
      intro k hk0 hik c hck hst n hn
      obtain ⟨n, rfl⟩ : ∃ m, n = m + 1 := ⟨n - 1, by omega⟩
      have hk64 := kd_lt ω k
      rw [L_Shm_closing_7, ck_pos ha, if_neg (by rw [n_le _ _ (by omega) (by omega)]; omega), e_kindOf ω N a σ k ha hl hN (by omega) hw, bd_def, bd_def]
      unfold F_Shm_closing_51
      simp only [ck_pos ha, lt, n_succ]
      by_cases c3 : kdN ω k = 34
      · have e : stk ω (k + 1) = k :: stk ω k := by simp only [stk, if_pos c3]
        rw [if_pos (show Int32.ofNat (kdN ω k) = 34 by rw [c3]; rfl)]
        exact ih (k + 1) (by omega) (by omega) (c + 1) (by omega) (by rw [e]; simpa using hst) n (by omega)
      · rw [if_neg (show ¬ Int32.ofNat (kdN ω k) = 34 from fun h => c3 ((n_inj _ 34 (by omega) (by omega)).mp h))]
        by_cases c2 : kdN ω k = 35
        · have e : stk ω (k + 1) = (stk ω k).tail := by simp only [stk, if_neg c3, if_pos c2]
          rw [if_pos (show Int32.ofNat (kdN ω k) = 35 by rw [c2]; rfl)]
          by_cases c4 : c = 0
          · subst c4
            rw [if_pos (show Int32.ofNat 0 = 0 from rfl)]
            refine ⟨Int32.ofNat k, rfl, ?_⟩
            have hnn : (0 : Int32) ≤ Int32.ofNat k := by rw [show (0 : Int32) = Int32.ofNat 0 from rfl, n_le _ _ (by omega) (by omega)]; omega
            simp only [hnn, true_iff]
            cases hs : stk ω k with
            | nil => rw [hs] at hst; simp at hst
            | cons b r =>
              rw [hs] at hst
              have : b = i := by simpa using hst
              subst this
              obtain ⟨hr, -, -⟩ := stk_head ω k b r hs
              have hg := stk_gone ω b (k + 1) (by omega) (by rw [e, hs]; simp only [List.tail_cons]; rw [hr]; exact fun h => by have := stk_lt ω b b h; omega) (N - (k + 1))
              rw [show k + 1 + (N - (k + 1)) = N by omega] at hg
              exact hg
          · rw [if_neg (show ¬ Int32.ofNat c = 0 from fun h => c4 ((n_inj _ 0 (by omega) (by omega)).mp h))]
            have e9 : Int32.ofNat c + -1 = Int32.ofNat (c - 1) := by
              have := i_pred' c (by omega) (by omega)
              rw [← this]; grind
            rw [e9]
            exact ih (k + 1) (by omega) (by omega) (c - 1) (by omega) (by rw [e, List.getElem?_tail, show c - 1 + 1 = c by omega]; exact hst) n (by omega)
        · have e : stk ω (k + 1) = stk ω k := by simp only [stk, if_neg c3, if_neg c2]
          rw [if_neg (show ¬ Int32.ofNat (kdN ω k) = 35 from fun h => c2 ((n_inj _ 35 (by omega) (by omega)).mp h))]
          exact ih (k + 1) (by omega) (by omega) c (by omega) (by rw [e]; exact hst) n (by omega)
  unfold F_Shm_closing
  rw [ck_pos ha, lt_def, n_succ]
  have e : stk ω (i + 1) = i :: stk ω i := by simp only [stk, if_pos hk]
  exact key (N - (i + 1)) (i + 1) (by omega) (by omega) 0 (by omega) (by rw [e]; rfl) 100000 (by omega)
