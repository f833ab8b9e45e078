/-! copying back -/
theorem q_div (r e wd : Nat) (h : e < wd) : (r * wd + e) / wd = r ∧ (r * wd + e) % wd = e := by
  have hw : 0 < wd := by omega
  constructor
  · rw [Nat.mul_comm, Nat.mul_add_div hw, Nat.div_eq_of_lt h, Nat.add_zero]
  · rw [Nat.mul_comm, Nat.mul_add_mod, Nat.mod_eq_of_lt h]
theorem n_nn (k : Nat) (h : k < 2147483648) : ¬ Int32.ofNat k < 0 := fun e => absurd ((n_lt k 0 h (by omega)).mp e) (by omega)
theorem cpok_n (sp dp n n0 n1 : Nat) (h0 : sp + n ≤ n0) (h1 : dp + n ≤ n1) (b0 : n0 < 2147483648) (b1 : n1 < 2147483648) : cpok (Int32.ofNat sp) (Int32.ofNat dp) (Int32.ofNat n) n0 n1 := by
  refine ⟨n_nn _ (by omega), n_nn _ (by omega), n_nn _ (by omega), ?_, ?_⟩ <;> rw [n_nat _ (by omega), n_nat _ (by omega)] <;> omega
def cpv (σ : Sg) (w x y wd d : Nat) (q : Nat) : Int32 := σ.2.2.1 (prow d) ((y + q / wd) * w + x + q % wd)
theorem e_copy (σ τ : Sg) (w h x y wd ht to d : Nat) (a : PicR σ τ w h) (μ : Nat → Int32) (h0 : σ.2.2.1 0 = μ) (g0 : τ.2.2.1 0 = μ) (gw : τ.1 1 = Int32.ofNat w)
    (hw1 : 1 ≤ wd) (hx : x + wd ≤ w) (hy : y + ht ≤ h) (hto : to + wd * ht ≤ 4096) (hd : d < 3)
    (c0 : σ.2.2.1 5 0 = Int32.ofNat x) (c1 : σ.2.2.1 5 1 = Int32.ofNat y) (c2 : σ.2.2.1 5 2 = Int32.ofNat wd) (c3 : σ.2.2.1 5 3 = Int32.ofNat ht) (c4 : σ.2.2.1 5 4 = Int32.ofNat to) (c5 : σ.2.2.1 5 5 = Int32.ofNat d)
    (m0 : τ.2.2.1 3 0 = Int32.ofNat x) (m1 : τ.2.2.1 3 1 = Int32.ofNat y) (m2 : τ.2.2.1 3 2 = Int32.ofNat wd) (m3 : τ.2.2.1 3 3 = Int32.ofNat ht) (m4 : τ.2.2.1 3 4 = Int32.ofNat to) (m5 : τ.2.2.1 3 5 = Int32.ofNat d) :
    ∃ g, F_DM_copyBack σ = some (sA σ 0 g) ∧ F_Mod_copy τ = some (sA τ 0 g) := by
  have hcap := a.cap
  have hcap2 := a.cap2
  have w1 := a.w1
  have h1 := a.h1
  have hl : ∀ g, lenC (sA σ 0 g) (prow d) = σ.2.2.2.2 0 := by
    intro g
    have : d = 0 ∨ d = 1 ∨ d = 2 := by omega
    rcases this with rfl | rfl | rfl <;> rfl
  have hp : prow d < 47 := by unfold prow; omega
  have hrow : ∀ g, (sA σ 0 g).2.2.1 (prow d) = σ.2.2.1 (prow d) := fun g => by rw [sA_3, if_neg (by unfold prow; omega)]
  have mle : ∀ r, r ≤ ht → r * wd ≤ wd * ht := fun r hr => by rw [Nat.mul_comm wd]; exact Nat.mul_le_mul_right _ hr
  have cell : ∀ r e, r < ht → e < wd → (y + r) * w + x + e < w * h := fun r e hr he => by
    have := pl_lt (w := w) (h := h) (x := x + e) (y := y + r) (by omega) (by omega)
    omega
  refine ⟨rowset μ to (ht * wd) (cpv σ w x y wd d), ?_, ?_⟩
  · unfold F_DM_copyBack
    rw [c5, e_rowOf σ d hd, bd_def, lt_def, ck_pos hp]
    have lp : ∀ (k r n : Nat), r + k = ht → k < n → L_DM_copyBack_21 n (sA σ 0 (rowset μ to (r * wd) (cpv σ w x y wd d))) (prow d) (Int32.ofNat r) = some (sA σ 0 (rowset μ to (ht * wd) (cpv σ w x y wd d))) := by
      intro k
      induction k with
      | zero =>
        intro r n hr hn
        obtain ⟨n, rfl⟩ : ∃ k, n = k + 1 := ⟨n - 1, by omega⟩
        rw [L_DM_copyBack_21, ck_pos hp, show (sA σ 0 (rowset μ to (r * wd) (cpv σ w x y wd d))).2.2.1 5 = σ.2.2.1 5 from rfl, c3, if_pos ((n_le _ _ (by omega) (by omega)).mpr (by omega)), show r = ht by omega]
      | succ k ih =>
        intro r n hr hn
        obtain ⟨n, rfl⟩ : ∃ k, n = k + 1 := ⟨n - 1, by omega⟩
        have hc := cell r (wd - 1) (by omega) (by omega)
        have hm := mle (r + 1) (by omega)
        rw [Nat.add_mul, Nat.one_mul] at hm
        rw [L_DM_copyBack_21, ck_pos hp, show (sA σ 0 (rowset μ to (r * wd) (cpv σ w x y wd d))).2.2.1 5 = σ.2.2.1 5 from rfl, c3, if_neg (fun e => absurd ((n_le _ _ (by omega) (by omega)).mp e) (by omega)), lt_def, show (sA σ 0 (rowset μ to (r * wd) (cpv σ w x y wd d))).1 = σ.1 from rfl, a.cw, c1, c0, c2, c4, n_add, n_mul, n_add, n_mul, n_add, hl, hrow]
        have hck : cpok (Int32.ofNat ((y + r) * w + x)) (Int32.ofNat (to + r * wd)) (Int32.ofNat wd) (σ.2.2.2.2 0) 4096 := cpok_n _ _ _ _ _ (by omega) (by omega) (by omega) (by omega)
        rw [ck_pos hck, lt_def, lt_def, n_succ, n_nat _ (by omega), n_nat _ (by omega), n_nat _ (by omega), sA_sA]
        have e : va_cpy (σ.2.2.1 (prow d)) ((sA σ 0 (rowset μ to (r * wd) (cpv σ w x y wd d))).2.2.1 0) ((y + r) * w + x) (to + r * wd) wd = rowset μ to ((r + 1) * wd) (cpv σ w x y wd d) := by
          rw [sA_3, if_pos rfl, Nat.add_mul r 1 wd, Nat.one_mul]
          funext j
          unfold va_cpy rowset
          by_cases c : to + r * wd ≤ j ∧ j < to + r * wd + wd
          · rw [if_pos c, if_pos (by omega)]
            unfold cpv
            have q := q_div r (j - (to + r * wd)) wd (by omega)
            rw [show j - to = r * wd + (j - (to + r * wd)) by omega, q.1, q.2]
          · rw [if_neg c]
            by_cases c2 : to ≤ j ∧ j < to + r * wd
            · rw [if_pos c2, if_pos (by omega)]
            · rw [if_neg c2, if_neg (by omega)]
        rw [e]
        exact ih (r + 1) n (by omega) (by omega)
    have z := lp ht 0 100000 (by omega) (by omega)
    rw [Nat.zero_mul, rowset_zero, ← h0, sA_self] at z
    rw [← h0]
    exact z
  · unfold F_Mod_copy
    rw [lt_def, lt_def, m4, m1]
    have row : ∀ (k c r n : Nat) (rc : Sg → Int32 → Int32 → Option Sg), c + k = wd → r < ht → k < n → L_Mod_copy_32 rc n (sA τ 0 (rowset μ to (r * wd + c) (cpv σ w x y wd d))) (Int32.ofNat (to + (r * wd + c))) (Int32.ofNat (y + r)) (Int32.ofNat (x + c)) = rc (sA τ 0 (rowset μ to ((r + 1) * wd) (cpv σ w x y wd d))) (Int32.ofNat (to + (r + 1) * wd)) (Int32.ofNat (y + (r + 1))) := by
      intro k
      induction k with
      | zero =>
        intro c r n rc hc hr hn
        obtain ⟨n, rfl⟩ : ∃ k, n = k + 1 := ⟨n - 1, by omega⟩
        rw [L_Mod_copy_32, show (sA τ 0 (rowset μ to (r * wd + c) (cpv σ w x y wd d))).2.2.1 3 = τ.2.2.1 3 from rfl, m0, m2, n_add, if_pos ((n_le _ _ (by omega) (by omega)).mpr (by omega)), lt_def, n_succ, Nat.add_mul, Nat.one_mul, show c = wd by omega]
        rfl
      | succ k ih =>
        intro c r n rc hc hr hn
        obtain ⟨n, rfl⟩ : ∃ k, n = k + 1 := ⟨n - 1, by omega⟩
        have hcell := cell r c hr (by omega)
        have hm := mle (r + 1) (by omega)
        rw [Nat.add_mul, Nat.one_mul] at hm
        have a' : PicR σ (sA τ 0 (rowset μ to (r * wd + c) (cpv σ w x y wd d))) w h := a.tr (p := fun _ _ => false) (q := fun c k => c == 2 && k == 0) Fr.rfl (fr_sA Fr.rfl 0 _ rfl) (by decide) (by decide)
        rw [L_Mod_copy_32, show (sA τ 0 (rowset μ to (r * wd + c) (cpv σ w x y wd d))).2.2.1 3 = τ.2.2.1 3 from rfl, m0, m2, n_add, if_neg (fun e => absurd ((n_le _ _ (by omega) (by omega)).mp e) (by omega)), show (sA τ 0 (rowset μ to (r * wd + c) (cpv σ w x y wd d))).1 = τ.1 from rfl, gw, n_mul, n_add, m5, show (y + r) * w + (x + c) = (y + r) * w + x + c by omega, e_show σ _ w h _ d a' hcell hd, bd_def, ck_pos (n_inb _ 4096 (by omega) (by omega)), lt_def, lt_def, lt_def, n_nat _ (by omega), n_succ, n_succ, sA_sA, sA_3, if_pos rfl]
        have ev : σ.2.2.1 (prow d) ((y + r) * w + x + c) = cpv σ w x y wd d (r * wd + c) := by
          unfold cpv
          have q := q_div r c wd (by omega)
          rw [q.1, q.2]
        rw [ev, rowset_succ, show x + c + 1 = x + (c + 1) by omega, show to + (r * wd + c) + 1 = to + (r * wd + (c + 1)) by omega, show r * wd + c + 1 = r * wd + (c + 1) by omega]
        exact ih (c + 1) r n rc (by omega) hr (by omega)
    have lp : ∀ (k r n : Nat), r + k = ht → k < n → L_Mod_copy_16 n (sA τ 0 (rowset μ to (r * wd) (cpv σ w x y wd d))) (Int32.ofNat (to + r * wd)) (Int32.ofNat (y + r)) = some (sA τ 0 (rowset μ to (ht * wd) (cpv σ w x y wd d))) := by
      intro k
      induction k with
      | zero =>
        intro r n hr hn
        obtain ⟨n, rfl⟩ : ∃ k, n = k + 1 := ⟨n - 1, by omega⟩
        rw [L_Mod_copy_16, show (sA τ 0 (rowset μ to (r * wd) (cpv σ w x y wd d))).2.2.1 3 = τ.2.2.1 3 from rfl, m1, m3, n_add, if_pos ((n_le _ _ (by omega) (by omega)).mpr (by omega)), show r = ht by omega]
      | succ k ih =>
        intro r n hr hn
        obtain ⟨n, rfl⟩ : ∃ k, n = k + 1 := ⟨n - 1, by omega⟩
        rw [L_Mod_copy_16, show (sA τ 0 (rowset μ to (r * wd) (cpv σ w x y wd d))).2.2.1 3 = τ.2.2.1 3 from rfl, m1, m3, n_add, if_neg (fun e => absurd ((n_le _ _ (by omega) (by omega)).mp e) (by omega)), lt_def, m0]
        have z := row wd 0 r 100000 (L_Mod_copy_16 n) (by omega) (by omega) (by omega)
        rw [Nat.add_zero, Nat.add_zero] at z
        rw [z]
        exact ih (r + 1) n (by omega) (by omega)
    have z := lp ht 0 100000 (by omega) (by omega)
    rw [Nat.zero_mul, rowset_zero, Nat.add_zero, Nat.add_zero, ← g0, sA_self] at z
    rw [← g0]
    exact z
