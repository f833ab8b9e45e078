/-! what is told, on both sides -/
def km (j : Nat) : Nat := if j < 6 then 320 + j else if j < 10 then 480 + (j - 6) else if j < 42 then 640 + 5 * ((j - 10) / 4) + 1 + (j - 10) % 4 else if j < 170 then 800 + 5 * ((j - 42) / 4) + 1 + (j - 42) % 4 else if j < 190 then 1440 + 6 * ((j - 170) / 5) + 1 + (j - 170) % 5 else if j < 192 then 1600 + (j - 190) else if j < 206 then 1760 + 8 * ((j - 192) / 7) + 1 + (j - 192) % 7 else if j < 212 then 1920 + (j - 206) else if j = 212 then 2080 else if j = 213 then 2240 else if j = 214 then 2400 else if j < 217 then 2560 + (j - 215) else if j < 229 then 3840 + 4 * ((j - 217) / 3) + 1 + (j - 217) % 3 else 4000 + 5 * ((j - 229) / 4) + 1 + (j - 229) % 4
def klo (j : Nat) : Int := if j < 2 then -1023 else if j < 4 then 1 else if j < 6 then 0 else if j < 10 then -2147483648 else if j < 42 then 0 else if j < 170 then -2147483648 else if j < 190 then (if (j - 170) % 5 = 3 then 1 else 0) else if j = 190 then -1 else if j = 191 then 0 else if j < 206 then (if (j - 192) % 7 = 0 then -1 else 0) else if j < 210 then 0 else if j = 210 then -1 else if j = 211 then 0 else if j = 212 then -2147483648 else if j = 213 then -1 else if j < 229 then 0 else -2147483648
def khi (j : Nat) : Int := if j < 2 then 1023 else if j < 4 then 1024 else if j < 6 then 16777215 else if j < 10 then 2147483647 else if j < 42 then (if (j - 10) % 4 = 0 then 1048576 else if (j - 10) % 4 = 1 then 1024 else if (j - 10) % 4 = 2 then 4 else 3) else if j < 170 then 2147483647 else if j < 190 then (if (j - 170) % 5 = 0 then 1048576 else if (j - 170) % 5 = 1 then 10 else if (j - 170) % 5 = 2 then 10 else if (j - 170) % 5 = 3 then 11 else 7) else if j = 190 then 7 else if j = 191 then 1 else if j < 206 then (if (j - 192) % 7 = 0 then 7 else if (j - 192) % 7 < 4 then 255 else 7) else if j < 210 then 14 else if j < 212 then 4 else if j = 212 then 2147483647 else if j < 215 then 15 else if j = 215 then 3 else if j = 216 then 1 else if j < 229 then 3 else 2147483647
def KOK (κ : Nat → Int32) : Prop := ∀ j, j < 245 → rg (κ j) (klo j) (khi j)
def KepR (κ : Nat → Int32) (τ : Sg) : Prop := ∀ j, j < 245 → τ.2.2.1 4 (km j) = κ j
theorem e_kept (τ : Sg) (kind n k c : Nat) (hc : F_Cmd_count (Int32.ofNat kind) = some (Int32.ofNat c)) (h : 160 * kind + n * c + k < 4160) : F_Mod_kept τ (Int32.ofNat kind) (Int32.ofNat n) (Int32.ofNat k) = some (τ.2.2.1 4 (160 * kind + n * c + k)) := by
  unfold F_Mod_kept F_Cmd_rowOf
  rw [hc, bd_def, bd_def, show (160 * Int32.ofNat kind : Int32) = Int32.ofNat (160 * kind) from n_mul 160 kind, n_mul, n_add, n_add, ck_pos (n_inb _ 4160 h (by omega)), n_nat _ (by omega)]
theorem kj {κ : Nat → Int32} {τ : Sg} (hK : KepR κ τ) (j kind n k c : Nat) (hj : j < 245) (hc : F_Cmd_count (Int32.ofNat kind) = some (Int32.ofNat c)) (hm : km j = 160 * kind + n * c + k) (h : 160 * kind + n * c + k < 4160) : F_Mod_kept τ (Int32.ofNat kind) (Int32.ofNat n) (Int32.ofNat k) = some (κ j) := by
  rw [e_kept τ kind n k c hc h, ← hm, hK j hj]
theorem KepR.tr {κ : Nat → Int32} {p : Nat → Nat → Bool} {τ τ' : Sg} (a : KepR κ τ) (h : Fr p τ τ') (hp : p 2 4 = false) : KepR κ τ' := by
  unfold KepR; rw [h.2.2.1 4 hp]; exact a
theorem rgd {x : Int32} {a b : Int} (h : rg x a b) (c d : Int) (h1 : c ≤ a) (h2 : b ≤ d) : rg x c d := ⟨Int.le_trans h1 h.1, Int.le_trans h.2 h2⟩
theorem rg_le {x : Int32} {a b : Int32} (h : rg x a.toInt b.toInt) : a ≤ x ∧ x ≤ b := ⟨Int32.le_iff_toInt_le.mpr h.1, Int32.le_iff_toInt_le.mpr h.2⟩
/-! the reference settles what it was told: the last first -/
theorem e_512 (κ : Nat → Int32) (τ : Sg) (hK : KepR κ τ) : ∃ τ', L_Mod_settle_512 100000 τ 0 = some τ' ∧ Fr (fun c k => c == 2 && (k == 19 || k == 29)) τ τ' ∧ (∀ j, j < 128 → τ'.2.2.1 19 j = κ (42 + j)) ∧ (∀ j, j < 128 → τ'.2.2.1 29 j = κ (42 + j)) := by
  have lp : ∀ (d k f : Nat) (υ : Sg), k + d = 128 → d < f → Fr (fun c k => c == 2 && (k == 19 || k == 29)) τ υ → (∀ j, j < k → υ.2.2.1 19 j = κ (42 + j)) → (∀ j, j < k → υ.2.2.1 29 j = κ (42 + j)) →
      ∃ τ', L_Mod_settle_512 f υ (Int32.ofNat k) = some τ' ∧ Fr (fun c k => c == 2 && (k == 19 || k == 29)) τ τ' ∧ (∀ j, j < 128 → τ'.2.2.1 19 j = κ (42 + j)) ∧ (∀ j, j < 128 → τ'.2.2.1 29 j = κ (42 + j)) := by
    intro d
    induction d with
    | zero =>
      intro k f υ hk hf F h1 h2
      refine ⟨υ, ?_, F, fun j hj => h1 j (by omega), fun j hj => h2 j (by omega)⟩
      rw [show f = (f - 1) + 1 by omega, L_Mod_settle_512, if_pos (show (128 : Int32) ≤ Int32.ofNat k from (n_le 128 k (by omega) (by omega)).mpr (by omega))]
    | succ d ih =>
      intro k f υ hk hf F h1 h2
      have e := kj (hK.tr F rfl) (42 + k) 5 (k / 4) (1 + k % 4) 5 (by omega) rfl (by unfold km; rw [if_neg (by omega), if_neg (by omega), if_neg (by omega), if_pos (by omega)]; omega) (by omega)
      rw [show f = (f - 1) + 1 by omega, L_Mod_settle_512, if_neg (show ¬ (128 : Int32) ≤ Int32.ofNat k from fun e => absurd ((n_le 128 k (by omega) (by omega)).mp e) (by omega)), show (Int32.ofNat k / 4 : Int32) = Int32.ofNat (k / 4) from n_div k 4 (by omega) (by omega) (by omega), show irem (Int32.ofNat k) 4 = Int32.ofNat (k % 4) from n_rem k 4 (by omega) (by omega) (by omega), show (1 + Int32.ofNat (k % 4) : Int32) = Int32.ofNat (1 + k % 4) from n_add 1 _,
        show F_Mod_kept υ 5 (Int32.ofNat (k / 4)) (Int32.ofNat (1 + k % 4)) = _ from e, bd_def, ck_pos (n_inb k 128 (by omega) (by omega)), lt_def, ck_pos (n_inb k 128 (by omega) (by omega)), ck_pos (n_inb k 128 (by omega) (by omega)), lt_def, lt_def, n_nat k (by omega), n_succ]
      refine ih (k + 1) (f - 1) _ (by omega) (by omega) (fr_sA (fr_sA F 19 _ rfl) 29 _ rfl) (fun j hj => ?_) (fun j hj => ?_)
      · show upd (υ.2.2.1 19) k (κ (42 + k)) j = _
        by_cases c : j = k
        · subst c; rw [upd_eq]
        · rw [upd_ne _ _ _ _ c]; exact h1 j (by omega)
      · show upd (υ.2.2.1 29) k (upd (υ.2.2.1 19) k (κ (42 + k)) k) j = _
        by_cases c : j = k
        · subst c; rw [upd_eq, upd_eq]
        · rw [upd_ne _ _ _ _ c]; exact h2 j (by omega)
  exact lp 128 0 100000 τ (by omega) (by omega) Fr.rfl (fun j hj => by omega) (fun j hj => by omega)
theorem in_ok {x a b : Int32} (h : rg x a.toInt b.toInt) : F_Txm_in x a b = some 1 := by rw [e_Txm_in, if_pos (rg_le h)]
theorem vin_ok {x a b : Int32} (h : rg x a.toInt b.toInt) : F_Vwm_in x a b = some 1 := by rw [e_Vwm_in, if_pos (rg_le h)]
theorem rg_u (u b : Nat) (h : u ≤ b) (hb : b < 2147483648) : rg (Int32.ofNat u) 0 b := ⟨by rw [n_int u (by omega)]; omega, by rw [n_int u (by omega)]; omega⟩
theorem e_picS (τ : Sg) (u : Nat) (v : Nat → Int32) (hu : u < 4) (h0 : rg (v 0) 0 1048576) (h1 : rg (v 1) 0 10) (h2 : rg (v 2) 0 10) (h3 : rg (v 3) 1 11) (h4 : rg (v 4) 0 7) :
    ∃ τ', F_Txm_picture τ (Int32.ofNat u) (v 0) (v 1) (v 2) (v 3) (v 4) = some τ' ∧ Fr (fun c k => (c == 0 && k == 20) || (c == 2 && k == 5)) τ τ' ∧ (∀ k, k < 5 → τ'.2.2.1 5 (8 * u + k) = v k) ∧ (∀ p, (p < 8 * u ∨ 8 * u + 5 ≤ p) → τ'.2.2.1 5 p = τ.2.2.1 5 p) := by
  have nz : ¬ v 0 < 0 := fun e => by have := Int32.lt_iff_toInt_lt.mp e; have h := h0.1; have z : (0 : Int32).toInt = 0 := rfl; omega
  refine ⟨sA (sI τ 20 0) 5 (upd (upd (upd (upd (upd (τ.2.2.1 5) (8 * u) (v 0)) (8 * u + 1) (v 1)) (8 * u + 2) (v 2)) (8 * u + 3) (v 3)) (8 * u + 4) (v 4)), ?_, fr_sA (fr_sI Fr.rfl 20 0 rfl) 5 _ rfl, ?_, ?_⟩
  · unfold F_Txm_picture
    rw [if_neg nz, in_ok (a := 0) (b := 10) h1, bd_def, if_neg (by decide), in_ok (a := 0) (b := 10) h2, bd_def, if_neg (by decide), in_ok (a := 1) (b := 11) h3, bd_def, if_neg (by decide), in_ok (a := 0) (b := 7) h4, bd_def, if_neg (by decide)]
    unfold F_Txm_picture_52
    rw [in_ok (a := 0) (b := 3) (rg_u u 3 (by omega) (by omega)), bd_def, if_neg (by decide)]
    unfold F_Txm_picture_69
    rw [if_neg (by decide)]
    unfold F_Txm_picture_79
    rw [e_Txm_refuse0, bd_def, if_pos rfl, show (8 * Int32.ofNat u : Int32) = Int32.ofNat (8 * u) from n_mul 8 u, show (Int32.ofNat (8 * u) + 1 : Int32) = Int32.ofNat (8 * u + 1) from n_add _ 1, show (Int32.ofNat (8 * u) + 2 : Int32) = Int32.ofNat (8 * u + 2) from n_add _ 2, show (Int32.ofNat (8 * u) + 3 : Int32) = Int32.ofNat (8 * u + 3) from n_add _ 3, show (Int32.ofNat (8 * u) + 4 : Int32) = Int32.ofNat (8 * u + 4) from n_add _ 4,
      ck_pos (n_inb _ 32 (by omega) (by omega)), lt_def, ck_pos (n_inb _ 32 (by omega) (by omega)), lt_def, ck_pos (n_inb _ 32 (by omega) (by omega)), lt_def, ck_pos (n_inb _ 32 (by omega) (by omega)), lt_def, ck_pos (n_inb _ 32 (by omega) (by omega)), lt_def, n_nat _ (by omega), n_nat _ (by omega), n_nat _ (by omega), n_nat _ (by omega), n_nat _ (by omega)]
    simp only [sA_3, if_true, sA_sA, sI_2]
  · intro k hk
    rw [sA_3, if_pos rfl]
    have : k = 0 ∨ k = 1 ∨ k = 2 ∨ k = 3 ∨ k = 4 := by omega
    rcases this with rfl | rfl | rfl | rfl | rfl <;> simp [upd]
  · intro p hp
    rw [sA_3, if_pos rfl, upd_ne _ _ _ _ (by omega), upd_ne _ _ _ _ (by omega), upd_ne _ _ _ _ (by omega), upd_ne _ _ _ _ (by omega), upd_ne _ _ _ _ (by omega)]
theorem e_manS (τ : Sg) (u : Nat) (v : Nat → Int32) (hu : u < 4) (h0 : rg (v 0) 0 3) (h1 : rg (v 1) 0 3) (h2 : rg (v 2) 0 3) :
    ∃ τ', F_Txm_manner τ (Int32.ofNat u) (v 0) (v 1) (v 2) = some τ' ∧ Fr (fun c k => (c == 0 && k == 20) || (c == 2 && k == 5)) τ τ' ∧ (∀ k, k < 3 → τ'.2.2.1 5 (8 * u + 5 + k) = v k) ∧ (∀ p, (p < 8 * u + 5 ∨ 8 * u + 8 ≤ p) → τ'.2.2.1 5 p = τ.2.2.1 5 p) := by
  refine ⟨sA (sI τ 20 0) 5 (upd (upd (upd (τ.2.2.1 5) (8 * u + 5) (v 0)) (8 * u + 6) (v 1)) (8 * u + 7) (v 2)), ?_, fr_sA (fr_sI Fr.rfl 20 0 rfl) 5 _ rfl, ?_, ?_⟩
  · unfold F_Txm_manner
    rw [in_ok (a := 0) (b := 3) (rg_u u 3 (by omega) (by omega)), bd_def, if_neg (by decide)]
    unfold F_Txm_manner_15
    rw [in_ok (a := 0) (b := 3) h0, bd_def, if_neg (by decide), in_ok (a := 0) (b := 3) h1, bd_def, if_neg (by decide), in_ok (a := 0) (b := 3) h2, bd_def, if_neg (by decide)]
    unfold F_Txm_manner_48
    rw [e_Txm_refuse0, bd_def, if_pos rfl, show (8 * Int32.ofNat u : Int32) = Int32.ofNat (8 * u) from n_mul 8 u, show (Int32.ofNat (8 * u) + 5 : Int32) = Int32.ofNat (8 * u + 5) from n_add _ 5, show (Int32.ofNat (8 * u) + 6 : Int32) = Int32.ofNat (8 * u + 6) from n_add _ 6, show (Int32.ofNat (8 * u) + 7 : Int32) = Int32.ofNat (8 * u + 7) from n_add _ 7,
      ck_pos (n_inb _ 32 (by omega) (by omega)), lt_def, ck_pos (n_inb _ 32 (by omega) (by omega)), lt_def, ck_pos (n_inb _ 32 (by omega) (by omega)), lt_def, n_nat _ (by omega), n_nat _ (by omega), n_nat _ (by omega)]
    simp only [sA_3, if_true, sA_sA, sI_2]
  · intro k hk
    rw [sA_3, if_pos rfl]
    have : k = 0 ∨ k = 1 ∨ k = 2 := by omega
    rcases this with rfl | rfl | rfl <;> simp [upd]
  · intro p hp
    rw [sA_3, if_pos rfl, upd_ne _ _ _ _ (by omega), upd_ne _ _ _ _ (by omega), upd_ne _ _ _ _ (by omega)]
theorem e_borS (τ : Sg) (u : Nat) (v : Nat → Int32) (hu : u < 4) :
    ∃ τ', F_Txm_border τ (Int32.ofNat u) (v 0) (v 1) (v 2) (v 3) = some τ' ∧ Fr (fun c k => (c == 0 && k == 20) || (c == 2 && k == 6)) τ τ' ∧ (∀ k, k < 4 → τ'.2.2.1 6 (4 * u + k) = v k) ∧ (∀ p, (p < 4 * u ∨ 4 * u + 4 ≤ p) → τ'.2.2.1 6 p = τ.2.2.1 6 p) := by
  refine ⟨sA (sI τ 20 0) 6 (upd (upd (upd (upd (τ.2.2.1 6) (4 * u) (v 0)) (4 * u + 1) (v 1)) (4 * u + 2) (v 2)) (4 * u + 3) (v 3)), ?_, fr_sA (fr_sI Fr.rfl 20 0 rfl) 6 _ rfl, ?_, ?_⟩
  · unfold F_Txm_border
    rw [in_ok (a := 0) (b := 3) (rg_u u 3 (by omega) (by omega)), bd_def, if_neg (by decide)]
    unfold F_Txm_border_15
    rw [e_Txm_refuse0, bd_def, if_pos rfl, show (4 * Int32.ofNat u : Int32) = Int32.ofNat (4 * u) from n_mul 4 u, show (Int32.ofNat (4 * u) + 1 : Int32) = Int32.ofNat (4 * u + 1) from n_add _ 1, show (Int32.ofNat (4 * u) + 2 : Int32) = Int32.ofNat (4 * u + 2) from n_add _ 2, show (Int32.ofNat (4 * u) + 3 : Int32) = Int32.ofNat (4 * u + 3) from n_add _ 3,
      ck_pos (n_inb _ 16 (by omega) (by omega)), lt_def, ck_pos (n_inb _ 16 (by omega) (by omega)), lt_def, ck_pos (n_inb _ 16 (by omega) (by omega)), lt_def, ck_pos (n_inb _ 16 (by omega) (by omega)), lt_def, n_nat _ (by omega), n_nat _ (by omega), n_nat _ (by omega), n_nat _ (by omega)]
    simp only [sA_3, if_true, sA_sA, sI_2]
  · intro k hk
    rw [sA_3, if_pos rfl]
    have : k = 0 ∨ k = 1 ∨ k = 2 ∨ k = 3 := by omega
    rcases this with rfl | rfl | rfl | rfl <;> simp [upd]
  · intro p hp
    rw [sA_3, if_pos rfl, upd_ne _ _ _ _ (by omega), upd_ne _ _ _ _ (by omega), upd_ne _ _ _ _ (by omega), upd_ne _ _ _ _ (by omega)]
theorem e_attrS (τ : Sg) (n : Nat) (v : Nat → Int32) (hn : n < 8) (h0 : rg (v 0) 0 1048576) (h1 : rg (v 1) 0 1024) (h2 : rg (v 2) 0 4) (h3 : rg (v 3) 0 3) :
    ∃ τ', F_Vwm_attribute τ (Int32.ofNat n) (v 0) (v 1) (v 2) (v 3) = some τ' ∧ Fr (fun c k => (c == 0 && k == 21) || (c == 2 && k == 34)) τ τ' ∧ (∀ k, k < 4 → τ'.2.2.1 34 (4 * n + k) = v k) ∧ (∀ p, (p < 4 * n ∨ 4 * n + 4 ≤ p) → τ'.2.2.1 34 p = τ.2.2.1 34 p) := by
  have nz : ∀ {x : Int32} {b : Int}, rg x 0 b → ¬ x < 0 := fun h e => by have := Int32.lt_iff_toInt_lt.mp e; have h := h.1; have z : (0 : Int32).toInt = 0 := rfl; omega
  refine ⟨sA (sI τ 21 0) 34 (upd (upd (upd (upd (τ.2.2.1 34) (4 * n) (v 0)) (4 * n + 1) (v 1)) (4 * n + 2) (v 2)) (4 * n + 3) (v 3)), ?_, fr_sA (fr_sI Fr.rfl 21 0 rfl) 34 _ rfl, ?_, ?_⟩
  · unfold F_Vwm_attribute
    rw [vin_ok (a := 0) (b := 7) (rg_u n 7 (by omega) (by omega)), bd_def, if_neg (by decide), if_neg (nz h0), if_neg (nz h1), vin_ok (a := 0) (b := 4) h2, bd_def, if_neg (by decide), vin_ok (a := 0) (b := 3) h3, bd_def, if_neg (by decide)]
    unfold F_Vwm_attribute_44
    rw [e_Vwm_refuse0, bd_def, if_pos rfl, show (4 * Int32.ofNat n : Int32) = Int32.ofNat (4 * n) from n_mul 4 n, show (Int32.ofNat (4 * n) + 1 : Int32) = Int32.ofNat (4 * n + 1) from n_add _ 1, show (Int32.ofNat (4 * n) + 2 : Int32) = Int32.ofNat (4 * n + 2) from n_add _ 2, show (Int32.ofNat (4 * n) + 3 : Int32) = Int32.ofNat (4 * n + 3) from n_add _ 3,
      ck_pos (n_inb _ 32 (by omega) (by omega)), lt_def, ck_pos (n_inb _ 32 (by omega) (by omega)), lt_def, ck_pos (n_inb _ 32 (by omega) (by omega)), lt_def, ck_pos (n_inb _ 32 (by omega) (by omega)), lt_def, n_nat _ (by omega), n_nat _ (by omega), n_nat _ (by omega), n_nat _ (by omega)]
    simp only [sA_3, if_true, sA_sA, sI_2]
  · intro k hk
    rw [sA_3, if_pos rfl]
    have : k = 0 ∨ k = 1 ∨ k = 2 ∨ k = 3 := by omega
    rcases this with rfl | rfl | rfl | rfl <;> simp [upd]
  · intro p hp
    rw [sA_3, if_pos rfl, upd_ne _ _ _ _ (by omega), upd_ne _ _ _ _ (by omega), upd_ne _ _ _ _ (by omega), upd_ne _ _ _ _ (by omega)]
