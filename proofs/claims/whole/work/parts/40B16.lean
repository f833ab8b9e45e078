/-! what is told is kept, on both sides -/
def kks (K : Nat) : Bool := [2, 3, 4, 5, 9, 10, 11, 12, 13, 14, 15, 16, 24, 25].contains K
def kat (K : Nat) : Nat := [0, 0, 0, 6, 10, 42, 0, 0, 0, 170, 190, 192, 206, 212, 213, 214, 215, 0, 0, 0, 0, 0, 0, 0, 217, 229].getD K 0
def kfi (K : Nat) : Nat := [0, 0, 0, 0, 1, 1, 0, 0, 0, 1, 0, 1, 0, 0, 0, 0, 0, 0, 0, 0, 0, 0, 0, 0, 1, 1].getD K 0
def kmn (K : Nat) : Nat := [0, 0, 1, 1, 8, 32, 0, 0, 0, 4, 1, 2, 1, 1, 1, 1, 1, 0, 0, 0, 0, 0, 0, 0, 4, 4].getD K 0
theorem t_kept1 : ∀ K, K < 26 → kks K = true → tb_KEPT_AT K = Int32.ofNat (kat K) ∧ tb_KEPT_BY_FIRST K = Int32.ofNat (kfi K) ∧ kat K < 245 ∧ kfi K ≤ 1 ∧ kfi K ≤ na K := by decide +kernel
theorem t_kept2 : ∀ K, K < 26 → kks K = true → F_Cmd_many (Int32.ofNat K) = some (Int32.ofNat (kmn K)) ∧ 1 ≤ kmn K ∧ kmn K ≤ 32 := by decide +kernel
theorem t_kept3 : ∀ K, K < 26 → kks K = true → (kmn K ≤ 1 → kfi K = 0) := by decide +kernel
theorem t_kept4 : ∀ K, K < 26 → kks K = true → 1 < kmn K → kfi K = 1 ∧ vlo K 0 = 0 ∧ vhi K 0 + 1 = (kmn K : Int) ∧ 1 ≤ na K := by decide +kernel
theorem t_unkept : ∀ K, K < 26 → kks K = false → tb_KEPT_AT K = -1 ∧ (K ≠ 7 → K ≠ 8 → F_Cmd_many (Int32.ofNat K) = some 0) := by decide +kernel
def kb (K u : Nat) : Nat := kat K + kfi K * u * (na K - kfi K)
def kr (K u : Nat) : Nat := 160 * K + u * na K
theorem t_km1 : ∀ K, K < 26 → kks K = true → ∀ u, u < kmn K → kb K u + (na K - kfi K) ≤ 245 ∧ kr K u + na K ≤ 4160 ∧ (kr K u + na K ≤ 1120 ∨ 1281 < kr K u) := by decide +kernel
def kin (K u j : Nat) : Bool := decide (kb K u ≤ j) && decide (j < kb K u + (na K - kfi K))
def kmt (K u j : Nat) : Bool := if kin K u j then decide (km j = kr K u + kfi K + (j - kb K u)) && decide (klo j ≤ vlo K (kfi K + (j - kb K u))) && decide (vhi K (kfi K + (j - kb K u)) ≤ khi j) else decide (km j < kr K u) || decide (kr K u + na K ≤ km j)
theorem t_km2 : ∀ K, K < 26 → kks K = true → ∀ u, u < kmn K → ∀ j, j < 245 → kmt K u j = true := by decide +kernel
theorem t_km (K : Nat) (hK : K < 26) (kk : kks K = true) (u : Nat) (hu : u < kmn K) (j : Nat) (hj : j < 245) : (if kb K u ≤ j ∧ j < kb K u + (na K - kfi K) then km j = kr K u + kfi K + (j - kb K u) ∧ klo j ≤ vlo K (kfi K + (j - kb K u)) ∧ vhi K (kfi K + (j - kb K u)) ≤ khi j else (km j < kr K u ∨ kr K u + na K ≤ km j)) := by
  have h := t_km2 K hK kk u hu j hj
  unfold kmt kin at h
  by_cases c : kb K u ≤ j ∧ j < kb K u + (na K - kfi K)
  · rw [if_pos c]
    rw [decide_eq_true c.1, decide_eq_true c.2, Bool.and_self, if_pos rfl, Bool.and_eq_true, Bool.and_eq_true] at h
    exact ⟨of_decide_eq_true h.1.1, of_decide_eq_true h.1.2, of_decide_eq_true h.2⟩
  · rw [if_neg c]
    have e : (decide (kb K u ≤ j) && decide (j < kb K u + (na K - kfi K))) = false := by rw [← Bool.decide_and]; exact decide_eq_false c
    rw [e, if_neg (by decide), Bool.or_eq_true] at h
    rcases h with h | h
    · exact Or.inl (of_decide_eq_true h)
    · exact Or.inr (of_decide_eq_true h)
theorem Bas.kept {σ τ τ' : Sg} {w h : Nat} {f : Nat → Int32} (a : Bas σ τ w h) (ht : Fr (fun c k => c == 2 && k == 4) τ τ') (k1 : τ'.2.2.1 4 1120 = τ.2.2.1 4 1120) (k2 : τ'.2.2.1 4 1280 = τ.2.2.1 4 1280) (kok : KOK f) (kep : KepR f τ') : Bas (sA σ 1 f) τ' w h := by
  have hs : Fr (fun c k => c == 2 && k == 1) σ (sA σ 1 f) := fr_sA Fr.rfl 1 f rfl
  refine ⟨a.pic.tr hs ht (by decide) (by decide), ?_, kok, kep, ?_, ?_, ?_, ?_, ?_, a.oqr, a.zer, ?_, ?_, a.n56, a.ids, ?_, ?_, ?_, ?_, ?_⟩
  · rw [ht.2.2.1 0 rfl]; exact a.mem
  · rw [ht.1 1 rfl]; exact a.mw
  · rw [ht.1 2 rfl]; exact a.mh
  · rw [ht.1 8 rfl]; exact a.cw
  · rw [ht.1 9 rfl]; exact a.ch
  · rw [ht.1 18 rfl]; exact a.oq
  · rw [ht.2.2.1 56 rfl]; exact a.cnt
  · rw [ht.2.2.1 55 rfl]; exact a.qry
  · exact a.pr1.tr rfl rfl (hs.2.2.1 _ (by simp; omega)) rfl (ht.2.2.1 _ rfl) (ht.2.2.1 _ rfl) (ht.1 _ rfl) k1 (ht.1 _ rfl)
  · exact a.pr2.tr rfl rfl (hs.2.2.1 _ (by simp; omega)) rfl (ht.2.2.1 _ rfl) (ht.2.2.1 _ rfl) (ht.1 _ rfl) k2 (ht.1 _ rfl)
  · rw [ht.1 3 rfl]; exact a.fau
  · rw [ht.1 4 rfl]; exact a.fap
  · rw [ht.2.1 0 rfl]; exact a.wrk
theorem e_keeploop (τ : Sg) (row m : Nat) (hm : τ.1 19 = Int32.ofNat m) (hr : row + m ≤ 4160) (h3 : m ≤ 300) : ∃ τ', L_Cmd_keep_33 100000 τ (Int32.ofNat row) 0 = some τ' ∧ Fr (fun c k => c == 2 && k == 4) τ τ' ∧ (∀ j, j < m → τ'.2.2.1 4 (row + j) = τ.2.2.1 3 j) ∧ (∀ q, (q < row ∨ row + m ≤ q) → τ'.2.2.1 4 q = τ.2.2.1 4 q) := by
  have lp : ∀ (e k f : Nat) (υ : Sg), k + e = m → e < f → Fr (fun c k => c == 2 && k == 4) τ υ → (∀ j, j < k → υ.2.2.1 4 (row + j) = τ.2.2.1 3 j) → (∀ q, (q < row ∨ row + k ≤ q) → υ.2.2.1 4 q = τ.2.2.1 4 q) →
      ∃ τ', L_Cmd_keep_33 f υ (Int32.ofNat row) (Int32.ofNat k) = some τ' ∧ Fr (fun c k => c == 2 && k == 4) τ τ' ∧ (∀ j, j < m → τ'.2.2.1 4 (row + j) = τ.2.2.1 3 j) ∧ (∀ q, (q < row ∨ row + m ≤ q) → τ'.2.2.1 4 q = τ.2.2.1 4 q) := by
    intro e
    induction e with
    | zero =>
      intro k f υ he hf F h1 h2
      have : k = m := by omega
      subst this
      refine ⟨υ, ?_, F, h1, h2⟩
      rw [show f = (f - 1) + 1 by omega, L_Cmd_keep_33, F.1 19 rfl, hm, if_pos ((n_le _ _ (by omega) (by omega)).mpr (by omega))]
    | succ e ih =>
      intro k f υ he hf F h1 h2
      have e3 : υ.2.2.1 3 = τ.2.2.1 3 := F.2.2.1 3 rfl
      rw [show f = (f - 1) + 1 by omega, L_Cmd_keep_33, F.1 19 rfl, hm, if_neg (fun e => absurd ((n_le _ _ (by omega) (by omega)).mp e) (by omega)), ck_pos (n_inb k 300 (by omega) (by omega)), n_add, ck_pos (n_inb (row + k) 4160 (by omega) (by omega)), lt_def, lt_def, n_nat (row + k) (by omega), n_nat k (by omega), n_succ, e3]
      refine ih (k + 1) (f - 1) _ (by omega) (by omega) (fr_sA F 4 _ rfl) (fun j hj => ?_) (fun q hq => ?_)
      · show upd (υ.2.2.1 4) (row + k) (τ.2.2.1 3 k) (row + j) = _
        by_cases c : j = k
        · subst c; rw [upd_eq]
        · rw [upd_ne _ _ _ _ (by omega)]; exact h1 j (by omega)
      · show upd (υ.2.2.1 4) (row + k) (τ.2.2.1 3 k) q = _
        rw [upd_ne _ _ _ _ (by omega)]; exact h2 q (by omega)
  exact lp m 0 100000 τ (by omega) (by omega) Fr.rfl (fun j hj => by omega) (fun q _ => rfl)
theorem e_keep (σ τ : Sg) (w h K : Nat) (b : Bas σ τ w h) (hK : K < 26) (kk : kks K = true) (hk : σ.1 3 = Int32.ofNat K) (h19 : τ.1 19 = Int32.ofNat (na K)) (av : ∀ j, j < na K → rg (σ.2.2.1 5 j) (vlo K j) (vhi K j)) (ae : ∀ j, j < na K → τ.2.2.1 3 j = σ.2.2.1 5 j) :
    ∃ σ' τ', F_DM_carryOut_211 σ = some (σ', 0) ∧ F_Cmd_keep τ (Int32.ofNat K) = some τ' ∧ Bas σ' τ' w h ∧ Fr (fun c k => c == 2 && k == 1) σ σ' ∧ Fr (fun c k => c == 2 && k == 4) τ τ' := by
  obtain ⟨t1, t2, t3, t4, t5⟩ := t_kept1 K hK kk
  obtain ⟨t6, t7, t8⟩ := t_kept2 K hK kk
  have t9 := t_kept3 K hK kk
  have t10 := t_kept4 K hK kk
  obtain ⟨a1, -, a3, -⟩ := t_args K hK
  -- which one
  have hu : ∃ u, u < kmn K ∧ (kfi K = 1 → σ.2.2.1 5 0 = Int32.ofNat u) ∧ (1 < kmn K → τ.2.2.1 3 0 = Int32.ofNat u) ∧ (kmn K ≤ 1 → u = 0) := by
    by_cases c : 1 < kmn K
    · obtain ⟨c1, c2, c3, c4⟩ := t10 c
      obtain ⟨x0, x1, x2⟩ := rgN (av 0 (by omega)) (by omega)
      exact ⟨_, by omega, fun _ => x0, fun _ => by rw [ae 0 (by omega)]; exact x0, fun e => by omega⟩
    · exact ⟨0, by omega, fun e => by have := t9 (by omega); omega, fun e => absurd e c, fun _ => rfl⟩
  obtain ⟨u, u1, u2, u3, u4⟩ := hu
  obtain ⟨s1, s2, s3⟩ := t_km1 K hK kk u u1
  have s4 := t_km K hK kk u u1
  have na1 : kfi K + (na K - kfi K) = na K := by omega
  -- the class
  have eC : F_DM_carryOut_211 σ = some (sA σ 1 (va_cpy (σ.2.2.1 5) (σ.2.2.1 1) (kfi K) (kb K u) (na K - kfi K)), 0) := by
    unfold F_DM_carryOut_211 F_Told_keep
    have ep : Int32.ofNat (kat K) + ((Int32.ofNat (kfi K) * σ.2.2.1 5 0) * Int32.ofNat (na K - kfi K)) = Int32.ofNat (kb K u) := by
      unfold kb
      rw [← n_add, ← n_mul, ← n_mul]
      by_cases c : kfi K = 1
      · rw [u2 c]
      · have c0 : kfi K = 0 := by omega
        rw [c0, show (Int32.ofNat 0 * σ.2.2.1 5 0 : Int32) = 0 from Int32.zero_mul, show (Int32.ofNat 0 * Int32.ofNat u : Int32) = 0 from Int32.zero_mul]
    have es : Int32.ofNat (na K) - Int32.ofNat (kfi K) = Int32.ofNat (na K - kfi K) := by
      have q : Int32.ofNat (na K) = Int32.ofNat (na K - kfi K) + Int32.ofNat (kfi K) := by rw [n_add, show na K - kfi K + kfi K = na K by omega]
      rw [q, Int32.add_sub_cancel]
    have hck : cpok (Int32.ofNat (kfi K)) (Int32.ofNat (kb K u)) (Int32.ofNat (na K - kfi K)) 8 245 := cpok_n _ _ _ _ _ (by omega) (by omega) (by omega) (by omega)
    rw [ck_pos (by decide), hk, ck_pos (n_inb K 26 hK (by omega)), n_nat K (by omega), t1, lt_def, if_neg (show ¬ Int32.ofNat (kat K) = -1 from fun e => by have h1 := congrArg Int32.toInt e; rw [n_int _ (by omega)] at h1; have h2 : (-1 : Int32).toInt = -1 := rfl; rw [h2] at h1; omega), ck_pos (n_inb K 26 hK (by omega)), t2, lt_def, ck_pos (n_inb K 26 hK (by omega)), a1, es, lt_def, ck_pos (show inb 0 (lenC σ 5) from n_inb 0 8 (by omega) (by omega)), ep]
    rw [show lenC σ 5 = 8 from rfl, ck_pos hck, lt_def, n_nat _ (by omega), n_nat _ (by omega), n_nat _ (by omega)]
    rfl
  -- the reference
  have eR : F_Cmd_rowOf (Int32.ofNat K) (Int32.ofNat u) = some (Int32.ofNat (kr K u)) := by
    unfold F_Cmd_rowOf kr
    rw [t_count K hK, bd_def, show (160 * Int32.ofNat K : Int32) = Int32.ofNat (160 * K) from n_mul 160 K, n_mul, n_add]
  obtain ⟨τ', g1, g2, g3, g4⟩ := e_keeploop τ (kr K u) (na K) h19 s2 (by omega)
  have eM : F_Cmd_keep τ (Int32.ofNat K) = some τ' := by
    unfold F_Cmd_keep F_Cmd_keep_27
    rw [t6, bd_def, if_neg (show ¬ Int32.ofNat (kmn K) = 0 from fun e => absurd ((n_inj (kmn K) 0 (by omega) (by omega)).mp e) (by omega)), bd_def]
    by_cases c : kmn K ≤ 1
    · rw [if_pos (show Int32.ofNat (kmn K) ≤ 1 from (n_le (kmn K) 1 (by omega) (by omega)).mpr c)]
      have u0 := u4 c
      rw [show F_Cmd_rowOf (Int32.ofNat K) 0 = some (Int32.ofNat (kr K u)) by rw [← eR, u0]; rfl, bd_def]
      exact g1
    · rw [if_neg (show ¬ Int32.ofNat (kmn K) ≤ 1 from fun e => c ((n_le (kmn K) 1 (by omega) (by omega)).mp e)), u3 (by omega), eR, bd_def]
      exact g1
  refine ⟨_, τ', eC, eM, ?_, fr_sA Fr.rfl 1 _ rfl, g2⟩
  refine b.kept g2 (g4 _ (by omega)) (g4 _ (by omega)) (fun j hj => ?_) (fun j hj => ?_)
  · have s := s4 j hj
    unfold va_cpy
    by_cases c : kb K u ≤ j ∧ j < kb K u + (na K - kfi K)
    · rw [if_pos c] at s ⊢
      exact rgd (av (kfi K + (j - kb K u)) (by omega)) _ _ s.2.1 s.2.2
    · rw [if_neg c]; exact b.kok j hj
  · have s := s4 j hj
    unfold va_cpy
    by_cases c : kb K u ≤ j ∧ j < kb K u + (na K - kfi K)
    · rw [if_pos c] at s ⊢
      rw [s.1, Nat.add_assoc, g3 _ (by omega), ae _ (by omega)]
    · rw [if_neg c] at s ⊢
      rw [g4 _ s]; exact b.kep j hj
