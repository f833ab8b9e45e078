/-! the reference settles: units, attributes -/
theorem km9 (u k : Nat) (hu : u < 4) (hk : k < 5) : km (170 + 5 * u + k) = 160 * 9 + u * 6 + (1 + k) := by
  unfold km; rw [if_neg (by omega), if_neg (by omega), if_neg (by omega), if_neg (by omega), if_pos (by omega)]; omega
theorem km24 (u k : Nat) (hu : u < 4) (hk : k < 3) : km (217 + 3 * u + k) = 160 * 24 + u * 4 + (1 + k) := by
  unfold km; rw [if_neg (by omega), if_neg (by omega), if_neg (by omega), if_neg (by omega), if_neg (by omega), if_neg (by omega), if_neg (by omega), if_neg (by omega), if_neg (by omega), if_neg (by omega), if_neg (by omega), if_neg (by omega), if_pos (by omega)]; omega
theorem km25 (u k : Nat) (hu : u < 4) (hk : k < 4) : km (229 + 4 * u + k) = 160 * 25 + u * 5 + (1 + k) := by
  unfold km; rw [if_neg (by omega), if_neg (by omega), if_neg (by omega), if_neg (by omega), if_neg (by omega), if_neg (by omega), if_neg (by omega), if_neg (by omega), if_neg (by omega), if_neg (by omega), if_neg (by omega), if_neg (by omega), if_neg (by omega)]; omega
theorem km4 (n k : Nat) (hn : n < 8) (hk : k < 4) : km (10 + 4 * n + k) = 160 * 4 + n * 5 + (1 + k) := by
  unfold km; rw [if_neg (by omega), if_neg (by omega), if_pos (by omega)]; omega
theorem km11 (n k : Nat) (hn : n < 2) (hk : k < 7) : km (192 + 7 * n + k) = 160 * 11 + n * 8 + (1 + k) := by
  unfold km; rw [if_neg (by omega), if_neg (by omega), if_neg (by omega), if_neg (by omega), if_neg (by omega), if_neg (by omega), if_pos (by omega)]; omega
theorem ktex {κ : Nat → Int32} (h : KOK κ) (u : Nat) (hu : u < 4) : rg (κ (170 + 5 * u)) 0 1048576 ∧ rg (κ (170 + 5 * u + 1)) 0 10 ∧ rg (κ (170 + 5 * u + 2)) 0 10 ∧ rg (κ (170 + 5 * u + 3)) 1 11 ∧ rg (κ (170 + 5 * u + 4)) 0 7 ∧ rg (κ (217 + 3 * u)) 0 3 ∧ rg (κ (217 + 3 * u + 1)) 0 3 ∧ rg (κ (217 + 3 * u + 2)) 0 3 := by
  have : u = 0 ∨ u = 1 ∨ u = 2 ∨ u = 3 := by omega
  rcases this with rfl | rfl | rfl | rfl <;> exact ⟨h _ (by omega), h _ (by omega), h _ (by omega), h _ (by omega), h _ (by omega), h _ (by omega), h _ (by omega), h _ (by omega)⟩
theorem katt {κ : Nat → Int32} (h : KOK κ) (n : Nat) (hn : n < 8) : rg (κ (10 + 4 * n)) 0 1048576 ∧ rg (κ (10 + 4 * n + 1)) 0 1024 ∧ rg (κ (10 + 4 * n + 2)) 0 4 ∧ rg (κ (10 + 4 * n + 3)) 0 3 := by
  have : n = 0 ∨ n = 1 ∨ n = 2 ∨ n = 3 ∨ n = 4 ∨ n = 5 ∨ n = 6 ∨ n = 7 := by omega
  rcases this with rfl | rfl | rfl | rfl | rfl | rfl | rfl | rfl <;> exact ⟨h _ (by omega), h _ (by omega), h _ (by omega), h _ (by omega)⟩
theorem ksten {κ : Nat → Int32} (h : KOK κ) (n : Nat) (hn : n < 2) : rg (κ (192 + 7 * n)) (-1) 7 ∧ rg (κ (193 + 7 * n)) 0 255 ∧ rg (κ (194 + 7 * n)) 0 255 ∧ rg (κ (195 + 7 * n)) 0 255 ∧ rg (κ (196 + 7 * n)) 0 7 ∧ rg (κ (197 + 7 * n)) 0 7 ∧ rg (κ (198 + 7 * n)) 0 7 := by
  have : n = 0 ∨ n = 1 := by omega
  rcases this with rfl | rfl <;> exact ⟨h _ (by omega), h _ (by omega), h _ (by omega), h _ (by omega), h _ (by omega), h _ (by omega), h _ (by omega)⟩
def qTx : Nat → Nat → Bool := fun c k => (c == 0 && k == 20) || (c == 2 && (k == 5 || k == 6))
theorem e_379 (κ : Nat → Int32) (τ : Sg) (hK : KepR κ τ) (hO : KOK κ) : ∃ τ', L_Mod_settle_379 100000 τ 0 = L_Mod_settle_512 100000 τ' 0 ∧ Fr qTx τ τ' ∧ TxRel κ τ' := by
  have lp : ∀ (d u f : Nat) (υ : Sg), u + d = 4 → d < f → Fr qTx τ υ → (∀ i, i < u → (∀ k, k < 5 → υ.2.2.1 5 (8 * i + k) = κ (170 + 5 * i + k)) ∧ (∀ k, k < 3 → υ.2.2.1 5 (8 * i + 5 + k) = κ (217 + 3 * i + k)) ∧ (∀ k, k < 4 → υ.2.2.1 6 (4 * i + k) = κ (229 + 4 * i + k))) →
      ∃ τ', L_Mod_settle_379 f υ (Int32.ofNat u) = L_Mod_settle_512 100000 τ' 0 ∧ Fr qTx τ τ' ∧ TxRel κ τ' := by
    intro d
    induction d with
    | zero =>
      intro u f υ hu hf F h
      refine ⟨υ, ?_, F, fun i hi => h i (by omega)⟩
      rw [show f = (f - 1) + 1 by omega, L_Mod_settle_379, if_pos (show (4 : Int32) ≤ Int32.ofNat u from (n_le 4 u (by omega) (by omega)).mpr (by omega))]
    | succ d ih =>
      intro u f υ hu hf F h
      obtain ⟨t0, t1, t2, t3, t4, t5, t6, t7⟩ := ktex hO u (by omega)
      have K0 := hK.tr F rfl
      have e9 : ∀ k, k < 5 → F_Mod_kept υ 9 (Int32.ofNat u) (Int32.ofNat (1 + k)) = some (κ (170 + 5 * u + k)) := fun k hk => kj K0 _ 9 u (1 + k) 6 (by omega) rfl (km9 u k (by omega) hk) (by omega)
      obtain ⟨υ1, a1, a2, a3, a4⟩ := e_picS υ u (fun k => κ (170 + 5 * u + k)) (by omega) t0 t1 t2 t3 t4
      have F1 : Fr qTx τ υ1 := F.trans (a2.weak (by intro a b; unfold qTx; grind))
      have K1 := hK.tr F1 rfl
      have e24 : ∀ k, k < 3 → F_Mod_kept υ1 24 (Int32.ofNat u) (Int32.ofNat (1 + k)) = some (κ (217 + 3 * u + k)) := fun k hk => kj K1 _ 24 u (1 + k) 4 (by omega) rfl (km24 u k (by omega) hk) (by omega)
      obtain ⟨υ2, b1, b2, b3, b4⟩ := e_manS υ1 u (fun k => κ (217 + 3 * u + k)) (by omega) t5 t6 t7
      have F2 : Fr qTx τ υ2 := F1.trans (b2.weak (by intro a b; unfold qTx; grind))
      have K2 := hK.tr F2 rfl
      have e25 : ∀ k, k < 4 → F_Mod_kept υ2 25 (Int32.ofNat u) (Int32.ofNat (1 + k)) = some (κ (229 + 4 * u + k)) := fun k hk => kj K2 _ 25 u (1 + k) 5 (by omega) rfl (km25 u k (by omega) hk) (by omega)
      obtain ⟨υ3, c1, c2, c3, c4⟩ := e_borS υ2 u (fun k => κ (229 + 4 * u + k)) (by omega)
      have F3 : Fr qTx τ υ3 := F2.trans (c2.weak (by intro a b; unfold qTx; grind))
      rw [show f = (f - 1) + 1 by omega, L_Mod_settle_379, if_neg (show ¬ (4 : Int32) ≤ Int32.ofNat u from fun e => absurd ((n_le 4 u (by omega) (by omega)).mp e) (by omega)),
        show F_Mod_kept υ 9 (Int32.ofNat u) 1 = _ from e9 0 (by omega), bd_def, show F_Mod_kept υ 9 (Int32.ofNat u) 2 = _ from e9 1 (by omega), bd_def, show F_Mod_kept υ 9 (Int32.ofNat u) 3 = _ from e9 2 (by omega), bd_def, show F_Mod_kept υ 9 (Int32.ofNat u) 4 = _ from e9 3 (by omega), bd_def, show F_Mod_kept υ 9 (Int32.ofNat u) 5 = _ from e9 4 (by omega), bd_def, a1, bd_def,
        show F_Mod_kept υ1 24 (Int32.ofNat u) 1 = _ from e24 0 (by omega), bd_def, show F_Mod_kept υ1 24 (Int32.ofNat u) 2 = _ from e24 1 (by omega), bd_def, show F_Mod_kept υ1 24 (Int32.ofNat u) 3 = _ from e24 2 (by omega), bd_def, b1, bd_def,
        show F_Mod_kept υ2 25 (Int32.ofNat u) 1 = _ from e25 0 (by omega), bd_def, show F_Mod_kept υ2 25 (Int32.ofNat u) 2 = _ from e25 1 (by omega), bd_def, show F_Mod_kept υ2 25 (Int32.ofNat u) 3 = _ from e25 2 (by omega), bd_def, show F_Mod_kept υ2 25 (Int32.ofNat u) 4 = _ from e25 3 (by omega), bd_def, c1, bd_def, lt_def, n_succ]
      refine ih (u + 1) (f - 1) υ3 (by omega) (by omega) F3 (fun i hi => ?_)
      by_cases e : i = u
      · subst e
        refine ⟨fun k hk => ?_, fun k hk => ?_, fun k hk => ?_⟩
        · rw [c2.2.2.1 5 rfl, b4 _ (by omega)]; exact a3 k hk
        · rw [c2.2.2.1 5 rfl]; exact b3 k hk
        · exact c3 k hk
      · obtain ⟨x1, x2, x3⟩ := h i (by omega)
        refine ⟨fun k hk => ?_, fun k hk => ?_, fun k hk => ?_⟩
        · rw [c2.2.2.1 5 rfl, b4 _ (by omega), a4 _ (by omega)]; exact x1 k hk
        · rw [c2.2.2.1 5 rfl, b4 _ (by omega), a4 _ (by omega)]; exact x2 k hk
        · rw [c4 _ (by omega), b2.2.2.1 6 rfl, a2.2.2.1 6 rfl]; exact x3 k hk
  exact lp 4 0 100000 τ (by omega) (by omega) Fr.rfl (fun i hi => by omega)
theorem e_329 (κ : Nat → Int32) (τ : Sg) (hK : KepR κ τ) (hO : KOK κ) : ∃ τ', L_Mod_settle_329 100000 τ 0 = L_Mod_settle_379 100000 τ' 0 ∧ Fr (fun c k => (c == 0 && k == 21) || (c == 2 && k == 34)) τ τ' ∧ AtRel κ τ' := by
  have lp : ∀ (d n f : Nat) (υ : Sg), n + d = 8 → d < f → Fr (fun c k => (c == 0 && k == 21) || (c == 2 && k == 34)) τ υ → (∀ j, j < 4 * n → υ.2.2.1 34 j = κ (10 + j)) →
      ∃ τ', L_Mod_settle_329 f υ (Int32.ofNat n) = L_Mod_settle_379 100000 τ' 0 ∧ Fr (fun c k => (c == 0 && k == 21) || (c == 2 && k == 34)) τ τ' ∧ AtRel κ τ' := by
    intro d
    induction d with
    | zero =>
      intro n f υ hn hf F h
      refine ⟨υ, ?_, F, fun j hj => h j (by omega)⟩
      rw [show f = (f - 1) + 1 by omega, L_Mod_settle_329, if_pos (show (8 : Int32) ≤ Int32.ofNat n from (n_le 8 n (by omega) (by omega)).mpr (by omega))]
    | succ d ih =>
      intro n f υ hn hf F h
      obtain ⟨t0, t1, t2, t3⟩ := katt hO n (by omega)
      have e4 : ∀ k, k < 4 → F_Mod_kept υ 4 (Int32.ofNat n) (Int32.ofNat (1 + k)) = some (κ (10 + 4 * n + k)) := fun k hk => kj (hK.tr F rfl) _ 4 n (1 + k) 5 (by omega) rfl (km4 n k (by omega) hk) (by omega)
      obtain ⟨υ1, a1, a2, a3, a4⟩ := e_attrS υ n (fun k => κ (10 + 4 * n + k)) (by omega) t0 t1 t2 t3
      rw [show f = (f - 1) + 1 by omega, L_Mod_settle_329, if_neg (show ¬ (8 : Int32) ≤ Int32.ofNat n from fun e => absurd ((n_le 8 n (by omega) (by omega)).mp e) (by omega)),
        show F_Mod_kept υ 4 (Int32.ofNat n) 1 = _ from e4 0 (by omega), bd_def, show F_Mod_kept υ 4 (Int32.ofNat n) 2 = _ from e4 1 (by omega), bd_def, show F_Mod_kept υ 4 (Int32.ofNat n) 3 = _ from e4 2 (by omega), bd_def, show F_Mod_kept υ 4 (Int32.ofNat n) 4 = _ from e4 3 (by omega), bd_def, a1, bd_def, lt_def, n_succ]
      refine ih (n + 1) (f - 1) υ1 (by omega) (by omega) (F.trans a2) (fun j hj => ?_)
      by_cases e : j < 4 * n
      · rw [a4 j (by omega)]; exact h j e
      · have := a3 (j - 4 * n) (by omega)
        rw [show 4 * n + (j - 4 * n) = j by omega] at this
        rw [this, show 10 + 4 * n + (j - 4 * n) = 10 + j by omega]
  exact lp 8 0 100000 τ (by omega) (by omega) Fr.rfl (fun i hi => by omega)
theorem e_324 (τ : Sg) (x y : Int32) (hx : rg x 0 3) (hy : y = 0 ∨ y = 1) : ∃ τ', F_Mod_settle_324 τ x y = L_Mod_settle_329 100000 τ' 0 ∧ Fr (fun c k => c == 0 && (k == 21 || k == 22 || k == 23 || k == 26)) τ τ' ∧ τ'.1 22 = x ∧ τ'.1 23 = y := by
  refine ⟨sI (sI (sI (sI τ 21 0) 22 x) 23 y) 26 0, ?_, fr_sI (fr_sI (fr_sI (fr_sI Fr.rfl 21 _ rfl) 22 _ rfl) 23 _ rfl) 26 _ rfl, rfl, rfl⟩
  unfold F_Mod_settle_324 F_Vwm_faces
  rw [vin_ok (a := 0) (b := 3) hx, bd_def, if_neg (by decide)]
  unfold F_Vwm_faces_15
  rw [e_Vwm_refuse0, bd_def, if_pos rfl, lt_def, ck_pos hy, lt_def, lt_def, bd_def]
/-! the tests -/
theorem e_stenS (τ : Sg) (n : Nat) (v : Nat → Int32) (hn : n < 2) (h0 : rg (v 0) (-1) 7) (h1 : rg (v 1) 0 255) (h2 : rg (v 2) 0 255) (h3 : rg (v 3) 0 255) (h4 : rg (v 4) 0 7) (h5 : rg (v 5) 0 7) (h6 : rg (v 6) 0 7) :
    ∃ τ', F_Ptm_stencil τ (Int32.ofNat n) (v 0) (v 1) (v 2) (v 3) (v 4) (v 5) (v 6) = some τ' ∧ Fr (fun c k => (c == 0 && k == 28) || (c == 2 && k == 49)) τ τ' ∧ (∀ k, k < 7 → τ'.2.2.1 49 (7 * n + k) = v k) ∧ (∀ p, (p < 7 * n ∨ 7 * n + 7 ≤ p) → τ'.2.2.1 49 p = τ.2.2.1 49 p) := by
  refine ⟨sA (sI τ 28 0) 49 (upd (upd (upd (upd (upd (upd (upd (τ.2.2.1 49) (7 * n) (v 0)) (7 * n + 1) (v 1)) (7 * n + 2) (v 2)) (7 * n + 3) (v 3)) (7 * n + 4) (v 4)) (7 * n + 5) (v 5)) (7 * n + 6) (v 6)), ?_, fr_sA (fr_sI Fr.rfl 28 0 rfl) 49 _ rfl, ?_, ?_⟩
  · have e92 : F_Ptm_stencil τ (Int32.ofNat n) (v 0) (v 1) (v 2) (v 3) (v 4) (v 5) (v 6) = F_Ptm_stencil_92 τ (Int32.ofNat n) (v 0) (v 1) (v 2) (v 3) (v 4) (v 5) (v 6) := by
      unfold F_Ptm_stencil
      rw [e_Ptm_in _ 0 1 (rg_u n 1 (by omega) (by omega)), bd_def, if_neg (by decide)]
      by_cases c : v 0 = -1
      · rw [if_pos c]
      · rw [if_neg c]
        have h0' : rg (v 0) 0 7 := ⟨by
          refine Classical.byContradiction fun e => c (i_inj _ _ ?_)
          have := h0.1
          show (v 0).toInt = -1
          omega, h0.2⟩
        rw [e_Ptm_in _ 0 7 h0', bd_def, if_neg (by decide), e_Ptm_in _ 0 255 h1, bd_def, if_neg (by decide), e_Ptm_in _ 0 255 h2, bd_def, if_neg (by decide), e_Ptm_in _ 0 255 h3, bd_def, if_neg (by decide), e_Ptm_in _ 0 7 h4, bd_def, if_neg (by decide), e_Ptm_in _ 0 7 h5, bd_def, if_neg (by decide), e_Ptm_in _ 0 7 h6, bd_def, if_neg (by decide)]
    rw [e92]
    unfold F_Ptm_stencil_92 F_Ptm_stencil_97
    rw [if_neg (by decide)]
    unfold F_Ptm_stencil_110
    rw [e_Ptm_ok, bd_def, if_pos rfl, lt_def, show (7 * Int32.ofNat n : Int32) = Int32.ofNat (7 * n) from n_mul 7 n, show (Int32.ofNat (7 * n) + 1 : Int32) = Int32.ofNat (7 * n + 1) from n_add _ 1, show (Int32.ofNat (7 * n) + 2 : Int32) = Int32.ofNat (7 * n + 2) from n_add _ 2, show (Int32.ofNat (7 * n) + 3 : Int32) = Int32.ofNat (7 * n + 3) from n_add _ 3, show (Int32.ofNat (7 * n) + 4 : Int32) = Int32.ofNat (7 * n + 4) from n_add _ 4, show (Int32.ofNat (7 * n) + 5 : Int32) = Int32.ofNat (7 * n + 5) from n_add _ 5, show (Int32.ofNat (7 * n) + 6 : Int32) = Int32.ofNat (7 * n + 6) from n_add _ 6,
      ck_pos (n_inb _ 14 (by omega) (by omega)), lt_def, ck_pos (n_inb _ 14 (by omega) (by omega)), lt_def, ck_pos (n_inb _ 14 (by omega) (by omega)), lt_def, ck_pos (n_inb _ 14 (by omega) (by omega)), lt_def, ck_pos (n_inb _ 14 (by omega) (by omega)), lt_def, ck_pos (n_inb _ 14 (by omega) (by omega)), lt_def, ck_pos (n_inb _ 14 (by omega) (by omega)), lt_def, n_nat _ (by omega), n_nat _ (by omega), n_nat _ (by omega), n_nat _ (by omega), n_nat _ (by omega), n_nat _ (by omega), n_nat _ (by omega)]
    simp only [sA_3, if_true, sA_sA, sI_2]
  · intro k hk
    rw [sA_3, if_pos rfl]
    have : k = 0 ∨ k = 1 ∨ k = 2 ∨ k = 3 ∨ k = 4 ∨ k = 5 ∨ k = 6 := by omega
    rcases this with rfl | rfl | rfl | rfl | rfl | rfl | rfl <;> simp [upd]
  · intro p hp
    rw [sA_3, if_pos rfl, upd_ne _ _ _ _ (by omega), upd_ne _ _ _ _ (by omega), upd_ne _ _ _ _ (by omega), upd_ne _ _ _ _ (by omega), upd_ne _ _ _ _ (by omega), upd_ne _ _ _ _ (by omega), upd_ne _ _ _ _ (by omega)]
theorem e_blendS (τ : Sg) (v : Nat → Int32) (h : ∀ j, j < 4 → rg (v j) 0 14) (h4 : rg (v 4) (-1) 4) (h5 : rg (v 5) 0 4) :
    ∃ τ', F_Ptm_blend τ (v 0) (v 1) (v 2) (v 3) (v 4) (v 5) = some τ' ∧ Fr (fun c k => (c == 0 && (k == 28 || k == 36 || k == 37)) || (c == 2 && k == 50)) τ τ' ∧ (∀ k, k < 4 → τ'.2.2.1 50 k = v k) ∧ τ'.1 36 = v 4 ∧ τ'.1 37 = v 5 := by
  refine ⟨sI (sI (sA (sI τ 28 0) 50 (upd (upd (upd (upd (τ.2.2.1 50) 0 (v 0)) 1 (v 1)) 2 (v 2)) 3 (v 3))) 36 (v 4)) 37 (v 5), ?_, fr_sI (fr_sI (fr_sA (fr_sI Fr.rfl 28 0 rfl) 50 _ rfl) 36 _ rfl) 37 _ rfl, ?_, rfl, rfl⟩
  · have e67 : F_Ptm_blend τ (v 0) (v 1) (v 2) (v 3) (v 4) (v 5) = F_Ptm_blend_67 τ (v 0) (v 1) (v 2) (v 3) (v 4) (v 5) := by
      unfold F_Ptm_blend
      by_cases c : v 4 = -1
      · rw [if_pos c]
      · rw [if_neg c]
        have h4' : rg (v 4) 0 4 := ⟨by
          refine Classical.byContradiction fun e => c (i_inj _ _ ?_)
          have := h4.1
          show (v 4).toInt = -1
          omega, h4.2⟩
        rw [e_Ptm_in _ 0 14 (h 0 (by omega)), bd_def, if_neg (by decide), e_Ptm_in _ 0 14 (h 1 (by omega)), bd_def, if_neg (by decide), e_Ptm_in _ 0 14 (h 2 (by omega)), bd_def, if_neg (by decide), e_Ptm_in _ 0 14 (h 3 (by omega)), bd_def, if_neg (by decide), e_Ptm_in _ 0 4 h4', bd_def, if_neg (by decide), e_Ptm_in _ 0 4 h5, bd_def, if_neg (by decide)]
    rw [e67]
    unfold F_Ptm_blend_67 F_Ptm_blend_72
    rw [if_neg (by decide)]
    unfold F_Ptm_blend_85
    rw [e_Ptm_ok, bd_def, if_pos rfl]
    simp only [lt_def, sA_3, if_true, sA_sA, sI_2]
  · intro k hk
    show upd (upd (upd (upd (τ.2.2.1 50) 0 (v 0)) 1 (v 1)) 2 (v 2)) 3 (v 3) k = v k
    have : k = 0 ∨ k = 1 ∨ k = 2 ∨ k = 3 := by omega
    rcases this with rfl | rfl | rfl | rfl <;> rfl
theorem e_constS (τ : Sg) (c : Int32) : ∃ τ', F_Ptm_constant τ c = some τ' ∧ Fr (fun c k => (c == 0 && k == 28) || (c == 2 && k == 51)) τ τ' ∧ (∀ k, k < 4 → τ'.2.2.1 51 k = byt c k) := by
  have lp : ∀ (d k f : Nat) (υ : Sg), k + d = 4 → d < f → Fr (fun c k => (c == 0 && k == 28) || (c == 2 && k == 51)) τ υ → (∀ j, j < k → υ.2.2.1 51 j = byt c j) → ∃ τ', L_Ptm_constant_7 f υ c (Int32.ofNat k) = some τ' ∧ Fr (fun c k => (c == 0 && k == 28) || (c == 2 && k == 51)) τ τ' ∧ (∀ k, k < 4 → τ'.2.2.1 51 k = byt c k) := by
    intro d
    induction d with
    | zero =>
      intro k f υ hk hf F h
      refine ⟨υ, ?_, F, fun j hj => h j (by omega)⟩
      rw [show f = (f - 1) + 1 by omega, L_Ptm_constant_7, if_pos (show (4 : Int32) ≤ Int32.ofNat k from (n_le 4 k (by omega) (by omega)).mpr (by omega))]
    | succ d ih =>
      intro k f υ hk hf F h
      rw [show f = (f - 1) + 1 by omega, L_Ptm_constant_7, if_neg (show ¬ (4 : Int32) ≤ Int32.ofNat k from fun e => absurd ((n_le 4 k (by omega) (by omega)).mp e) (by omega)), ck_pos (n_inb k 4 (by omega) (by omega)), lt_def, lt_def, n_nat k (by omega), n_succ, ix8 k (by omega), bn_sar c k (by omega)]
      refine ih (k + 1) (f - 1) _ (by omega) (by omega) (fr_sA F 51 _ rfl) (fun j hj => ?_)
      show upd (υ.2.2.1 51) k (byt c k) j = _
      by_cases e : j = k
      · subst e; rw [upd_eq]
      · rw [upd_ne _ _ _ _ e]; exact h j (by omega)
  unfold F_Ptm_constant
  rw [lt_def]
  exact lp 4 0 100000 (sI τ 28 0) (by omega) (by omega) (fr_sI Fr.rfl 28 0 rfl) (fun i hi => by omega)
theorem e_logicS (τ : Sg) (v : Int32) (h : rg v (-1) 15) : F_Ptm_logic τ v = some (sI (sI τ 28 0) 38 v) := by
  unfold F_Ptm_logic
  rw [e_Ptm_in v (-1) 15 h, bd_def, if_neg (by decide)]
  unfold F_Ptm_logic_16 F_Ptm_logic_28
  rw [e_Ptm_ok, bd_def, if_pos rfl, lt_def]
theorem e_maskS (τ : Sg) (v : Int32) (h : rg v 0 15) : F_Ptm_mask τ v = some (sI (sI τ 28 0) 39 v) := by
  unfold F_Ptm_mask
  rw [e_Ptm_in v 0 15 h, bd_def, if_neg (by decide)]
  unfold F_Ptm_mask_16 F_Ptm_mask_28
  rw [e_Ptm_ok, bd_def, if_pos rfl, lt_def]
theorem e_depthS (τ : Sg) (v y : Int32) (h : rg v (-1) 7) (hy : y = 0 ∨ y = 1) : F_Ptm_depth τ v y = some (sI (sI (sI τ 28 0) 34 v) 35 y) := by
  unfold F_Ptm_depth
  rw [e_Ptm_in v (-1) 7 h, bd_def, if_neg (by decide)]
  unfold F_Ptm_depth_16
  rw [e_Ptm_ok, bd_def, if_pos rfl, lt_def, ck_pos hy, lt_def]
theorem e_viewS (τ : Sg) (v : Nat → Int32) (h0 : rg (v 0) (-1023) 1023) (h1 : rg (v 1) (-1023) 1023) (h2 : rg (v 2) 1 1024) (h3 : rg (v 3) 1 1024) (h4 : rg (v 4) 0 16777215) (h5 : rg (v 5) 0 16777215) :
    ∃ τ', F_Vwm_view τ (v 0) (v 1) (v 2) (v 3) (v 4) (v 5) = some τ' ∧ Fr (fun c k => (c == 0 && (k == 21 || k == 26)) || (c == 2 && k == 36)) τ τ' ∧ (∀ k, k < 6 → τ'.2.2.1 36 k = v k) := by
  refine ⟨sI (sA (sI τ 21 0) 36 (upd (upd (upd (upd (upd (upd (τ.2.2.1 36) 0 (v 0)) 1 (v 1)) 2 (v 2)) 3 (v 3)) 4 (v 4)) 5 (v 5))) 26 0, ?_, fr_sI (fr_sA (fr_sI Fr.rfl 21 0 rfl) 36 _ rfl) 26 _ rfl, ?_⟩
  · unfold F_Vwm_view
    rw [vin_ok (a := -1023) (b := 1023) h0, bd_def, if_neg (by decide), vin_ok (a := -1023) (b := 1023) h1, bd_def, if_neg (by decide), vin_ok (a := 1) (b := 1024) h2, bd_def, if_neg (by decide), vin_ok (a := 1) (b := 1024) h3, bd_def, if_neg (by decide), vin_ok (a := 0) (b := 16777215) h4, bd_def, if_neg (by decide), vin_ok (a := 0) (b := 16777215) h5, bd_def, if_neg (by decide)]
    unfold F_Vwm_view_76
    rw [if_neg (by decide)]
    unfold F_Vwm_view_89
    rw [e_Vwm_refuse0, bd_def, if_pos rfl]
    simp only [lt_def, sA_3, if_true, sA_sA, sI_2]
  · intro k hk
    show upd (upd (upd (upd (upd (upd (τ.2.2.1 36) 0 (v 0)) 1 (v 1)) 2 (v 2)) 3 (v 3)) 4 (v 4)) 5 (v 5) k = v k
    have : k = 0 ∨ k = 1 ∨ k = 2 ∨ k = 3 ∨ k = 4 ∨ k = 5 := by omega
    rcases this with rfl | rfl | rfl | rfl | rfl | rfl <;> rfl
