/-! a program that the check let through -/
theorem stk_eq_head (ω : Nat → Int32) (i j : Nat) (h : (stk ω i).head? = (stk ω j).head?) : stk ω j = stk ω i := by
  cases h1 : stk ω i with
  | nil =>
    cases h2 : stk ω j with
    | nil => rfl
    | cons b r => rw [h1, h2] at h; cases h
  | cons b r =>
    cases h2 : stk ω j with
    | nil => rw [h1, h2] at h; cases h
    | cons b' r' =>
      rw [h1, h2] at h
      have : b = b' := by simpa using h
      subst this
      rw [(stk_head ω i b r h1).1, (stk_head ω j b r' h2).1]
theorem ok_of_res (ω : Nat → Int32) (N : Nat) (pl : Int32) (q x : Int32) (hr : ChkRes ω N pl 0 q) (hx : ∀ j, j < N → ∀ s, (s = s1N ω j ∨ s = s2N ω j ∨ s = s3N ω j) → s % 4 = 1 → rdb x (s / 4 % 8)) :
    (∀ i, i < N → insOK ω N (rdb x) i) ∧ stp ω N ≤ 65536 := by
  rcases hr with ⟨k, -, -, h1, h2, -⟩ | ⟨hf, hr⟩
  · omega
  rcases hr with ⟨b, r, -, h, -⟩ | ⟨-, hr⟩
  · omega
  rcases hr with ⟨k, -, -, -, h, -⟩ | ⟨hj, hr⟩
  · omega
  rcases hr with ⟨-, h, -⟩ | ⟨hst, -, -⟩
  · omega
  refine ⟨fun i hi => ?_, hst⟩
  obtain ⟨z1, z2, z3, z4, z5, z6, z7⟩ := fau_zero ω N pl i (hf i hi)
  obtain ⟨y0, y1, y2, y3⟩ := okSS_s3 _ _ _ z3
  have u1 := un_lt (ω (3 * i + 1))
  have b1 : srcOK (s1N ω i) := okS_src _ _ (Nat.mod_lt _ (by omega)) y1
  have b2 : srcOK (s2N ω i) := okS_src _ _ (by unfold s2N; omega) y2
  have b3 : srcOK (s3N ω i) := okS_src _ _ y0 y3
  have rd : ∀ s, srcOK s → (s = s1N ω i ∨ s = s2N ω i ∨ s = s3N ω i) → s % 4 = 1 → rdb x (s / 4 % 32) := by
    intro s h1 h2 h3
    have h4 := h1.2.2.1 h3
    have := hx i hi s h2 h3
    rw [show s / 4 % 32 = s / 4 % 8 by omega]
    exact this
  refine ⟨z1, ⟨b1, b2, b3⟩, ⟨rd _ b1 (Or.inl rfl), rd _ b2 (Or.inr (Or.inl rfl)), rd _ b3 (Or.inr (Or.inr rfl))⟩, fun ht => ?_, fun hk => ?_, fun hk => ?_, z5, fun hk => ?_, z7⟩
  · unfold okTT at z2
    rw [if_pos (show hasT (un (ω (3 * i)) % 64) = true from ht)] at z2
    exact okT_tg _ z2
  · unfold okN at z4
    rw [if_neg (by omega), if_neg (by omega), if_pos hk] at z4
    have z8 : i < nmN ω i ∧ nmN ω i < N := by simpa using z4
    refine ⟨z8.1, z8.2, stk_eq_head ω i _ ?_⟩
    exact Classical.byContradiction fun h => hj i hi ⟨hk, h⟩
  · unfold okN at z4
    rw [if_neg (by omega), if_pos hk] at z4
    have z8 : 1 ≤ nmN ω i ∧ nmN ω i ≤ 255 := by simpa using z4
    exact ⟨z8.1, z8.2, z6 hk⟩
  · unfold okN at z4
    rw [if_pos hk] at z4
    have : nmN ω i ≤ 3 := by simpa using z4
    omega
