/-! corners -/
def pCn : Nat → Nat → Bool := fun c k => c == 2 && ((10 ≤ k && k ≤ 20) || (31 ≤ k && k ≤ 46))
def qCn : Nat → Nat → Bool := fun c k => (c == 0 && (k == 20 || k == 21 || k == 26 || k == 40 || k == 44 || k == 45)) || (c == 2 && ((7 ≤ k && k ≤ 13) || (16 ≤ k && k ≤ 18) || (20 ≤ k && k ≤ 22) || k == 35))
def Arg (σ τ : Sg) (ix : Bool) : Prop := (σ.1 3 = if ix then 18 else 17) ∧ (∃ fr : Nat, fr ≤ 1048576 ∧ σ.2.2.1 5 1 = Int32.ofNat fr) ∧ (ix = true → ∃ ty : Nat, ty ≤ 2 ∧ σ.2.2.1 5 3 = Int32.ofNat ty) ∧ (τ.2.2.1 3 1 = σ.2.2.1 5 1) ∧ (ix = true → τ.2.2.1 3 3 = σ.2.2.1 5 3) ∧ (ix = true → τ.2.2.1 3 4 = σ.2.2.1 5 4)
theorem Arg.k {σ τ : Sg} {ix : Bool} (a_ : Arg σ τ ix) : σ.1 3 = if ix then 18 else 17 := a_.1
theorem Arg.a1 {σ τ : Sg} {ix : Bool} (a_ : Arg σ τ ix) : ∃ fr : Nat, fr ≤ 1048576 ∧ σ.2.2.1 5 1 = Int32.ofNat fr := a_.2.1
theorem Arg.a3 {σ τ : Sg} {ix : Bool} (a_ : Arg σ τ ix) : ix = true → ∃ ty : Nat, ty ≤ 2 ∧ σ.2.2.1 5 3 = Int32.ofNat ty := a_.2.2.1
theorem Arg.e1 {σ τ : Sg} {ix : Bool} (a_ : Arg σ τ ix) : τ.2.2.1 3 1 = σ.2.2.1 5 1 := a_.2.2.2.1
theorem Arg.e3 {σ τ : Sg} {ix : Bool} (a_ : Arg σ τ ix) : ix = true → τ.2.2.1 3 3 = σ.2.2.1 5 3 := a_.2.2.2.2.1
theorem Arg.e4 {σ τ : Sg} {ix : Bool} (a_ : Arg σ τ ix) : ix = true → τ.2.2.1 3 4 = σ.2.2.1 5 4 := a_.2.2.2.2.2
theorem Arg.tr {p q : Nat → Nat → Bool} {σ σ' τ τ' : Sg} {ix : Bool} (a : Arg σ τ ix) (hs : Fr p σ σ') (ht : Fr q τ τ') (h1 : p 0 3 = false) (h2 : p 2 5 = false) (h3 : q 2 3 = false) : Arg σ' τ' ix := by
  refine ⟨by rw [hs.1 3 h1]; exact a.k, by rw [hs.2.2.1 5 h2]; exact a.a1, by rw [hs.2.2.1 5 h2]; exact a.a3, ?_, ?_, ?_⟩ <;> rw [hs.2.2.1 5 h2, ht.2.2.1 3 h3]
  · exact a.e1
  · exact a.e3
  · exact a.e4
theorem e_Vwm_tell (τ : Sg) (j q : Nat) (v0 v1 v2 v3 : Int32) (hj : j < 3) (hq : q + 3 < 32) : F_Vwm_tell τ (Int32.ofNat j) (Int32.ofNat q) v0 v1 v2 v3 = some (sI (sA (sI τ 21 0) 35 (upd (upd (upd (upd (τ.2.2.1 35) (32 * j + q) v0) (32 * j + q + 1) v1) (32 * j + q + 2) v2) (32 * j + q + 3) v3)) 26 0) := by
  unfold F_Vwm_tell
  rw [e_Vwm_in, if_pos ⟨(n_le 0 j (by omega) (by omega)).mpr (by omega), (n_le j 2 (by omega) (by omega)).mpr (by omega)⟩, bd_def, if_neg (by decide)]
  unfold F_Vwm_tell_15
  rw [e_Vwm_refuse0, bd_def, if_pos rfl, show (32 * Int32.ofNat j : Int32) = Int32.ofNat (32 * j) from n_mul 32 j, n_add, n_succ, show (Int32.ofNat (32 * j + q) + 2 : Int32) = Int32.ofNat (32 * j + q + 2) from n_add _ 2, show (Int32.ofNat (32 * j + q) + 3 : Int32) = Int32.ofNat (32 * j + q + 3) from n_add _ 3]
  rw [ck_pos (n_inb _ 96 (by omega) (by omega)), lt_def, ck_pos (n_inb _ 96 (by omega) (by omega)), lt_def, ck_pos (n_inb _ 96 (by omega) (by omega)), lt_def, ck_pos (n_inb _ 96 (by omega) (by omega)), lt_def, lt_def, n_nat _ (by omega), n_nat _ (by omega), n_nat _ (by omega), n_nat _ (by omega)]
  simp only [sA_3, if_true, sA_sA, sI_2]
theorem upd4 (f : Nat → Int32) (b : Nat) (v0 v1 v2 v3 : Int32) (i : Nat) : upd (upd (upd (upd f b v0) (b + 1) v1) (b + 2) v2) (b + 3) v3 i = if i = b + 3 then v3 else if i = b + 2 then v2 else if i = b + 1 then v1 else if i = b then v0 else f i := rfl
/-- the reference takes the outs of a corner -/
theorem e_takeM (τ : Sg) (j : Nat) (hj : j < 3) : ∃ τ', bd (F_Vwm_place τ (Int32.ofNat j) (τ.2.2.1 18 0) (τ.2.2.1 18 1) (τ.2.2.1 18 2) (τ.2.2.1 18 3)) (fun o21 => L_Mod_corner_132 100000 o21 (Int32.ofNat j) 0) = some τ' ∧ Fr (fun c k => (c == 0 && (k == 21 || k == 26)) || (c == 2 && k == 35)) τ τ' ∧ (∀ q, q < 32 → τ'.2.2.1 35 (32 * j + q) = τ.2.2.1 18 q) ∧ (∀ p, (p < 32 * j ∨ 32 * j + 32 ≤ p) → τ'.2.2.1 35 p = τ.2.2.1 35 p) := by
  have lp : ∀ (d k f : Nat) (υ : Sg), k + d = 7 → d < f → Fr (fun c k => (c == 0 && (k == 21 || k == 26)) || (c == 2 && k == 35)) τ υ → (∀ q, q < 4 + 4 * k → υ.2.2.1 35 (32 * j + q) = τ.2.2.1 18 q) → (∀ p, (p < 32 * j ∨ 32 * j + 32 ≤ p) → υ.2.2.1 35 p = τ.2.2.1 35 p) →
      ∃ τ', L_Mod_corner_132 f υ (Int32.ofNat j) (Int32.ofNat k) = some τ' ∧ Fr (fun c k => (c == 0 && (k == 21 || k == 26)) || (c == 2 && k == 35)) τ τ' ∧ (∀ q, q < 32 → τ'.2.2.1 35 (32 * j + q) = τ.2.2.1 18 q) ∧ (∀ p, (p < 32 * j ∨ 32 * j + 32 ≤ p) → τ'.2.2.1 35 p = τ.2.2.1 35 p) := by
    intro d
    induction d with
    | zero =>
      intro k f υ hk hf F h1 h2
      refine ⟨υ, ?_, F, fun q hq => h1 q (by omega), h2⟩
      rw [show f = (f - 1) + 1 by omega, L_Mod_corner_132, if_pos (show (7 : Int32) ≤ Int32.ofNat k from (n_le 7 k (by omega) (by omega)).mpr (by omega))]
    | succ d ih =>
      intro k f υ hk hf F h1 h2
      have ev : F_Vwm_vary υ (Int32.ofNat j) (Int32.ofNat k) (υ.2.2.1 18 (4 * k + 4)) (υ.2.2.1 18 (4 * k + 5)) (υ.2.2.1 18 (4 * k + 6)) (υ.2.2.1 18 (4 * k + 7)) = some (sI (sA (sI (sI υ 21 0) 21 0) 35 (upd (upd (upd (upd (υ.2.2.1 35) (32 * j + (4 + 4 * k)) (υ.2.2.1 18 (4 * k + 4))) (32 * j + (4 + 4 * k) + 1) (υ.2.2.1 18 (4 * k + 5))) (32 * j + (4 + 4 * k) + 2) (υ.2.2.1 18 (4 * k + 6))) (32 * j + (4 + 4 * k) + 3) (υ.2.2.1 18 (4 * k + 7)))) 26 0) := by
        unfold F_Vwm_vary
        rw [e_Vwm_in, if_pos ⟨(n_le 0 k (by omega) (by omega)).mpr (by omega), (n_le k 6 (by omega) (by omega)).mpr (by omega)⟩, bd_def, if_neg (by decide)]
        unfold F_Vwm_vary_16 F_Vwm_vary_40
        rw [e_Vwm_refuse0, bd_def, if_pos rfl, show (4 * Int32.ofNat k : Int32) = Int32.ofNat (4 * k) from n_mul 4 k, show (4 + Int32.ofNat (4 * k) : Int32) = Int32.ofNat (4 + 4 * k) from n_add 4 _, e_Vwm_tell _ j (4 + 4 * k) _ _ _ _ hj (by omega), bd_def]
        simp only [sI_2]
      rw [show f = (f - 1) + 1 by omega, L_Mod_corner_132, if_neg (show ¬ (7 : Int32) ≤ Int32.ofNat k from fun e => absurd ((n_le 7 k (by omega) (by omega)).mp e) (by omega)), show (4 * Int32.ofNat k : Int32) = Int32.ofNat (4 * k) from n_mul 4 k,
        show (Int32.ofNat (4 * k) + 4 : Int32) = Int32.ofNat (4 * k + 4) from n_add _ 4, show (Int32.ofNat (4 * k) + 5 : Int32) = Int32.ofNat (4 * k + 5) from n_add _ 5, show (Int32.ofNat (4 * k) + 6 : Int32) = Int32.ofNat (4 * k + 6) from n_add _ 6, show (Int32.ofNat (4 * k) + 7 : Int32) = Int32.ofNat (4 * k + 7) from n_add _ 7,
        ck_pos (n_inb _ 32 (by omega) (by omega)), ck_pos (n_inb _ 32 (by omega) (by omega)), ck_pos (n_inb _ 32 (by omega) (by omega)), ck_pos (n_inb _ 32 (by omega) (by omega)), n_nat _ (by omega), n_nat _ (by omega), n_nat _ (by omega), n_nat _ (by omega), ev, bd_def, lt_def, n_succ]
      have e18 : υ.2.2.1 18 = τ.2.2.1 18 := F.2.2.1 18 rfl
      refine ih (k + 1) (f - 1) _ (by omega) (by omega) (fr_sI (fr_sA (fr_sI (fr_sI F 21 0 rfl) 21 0 rfl) 35 _ rfl) 26 0 rfl) (fun q hq => ?_) (fun p hp => ?_)
      · show upd (upd (upd (upd (υ.2.2.1 35) (32 * j + (4 + 4 * k)) _) (32 * j + (4 + 4 * k) + 1) _) (32 * j + (4 + 4 * k) + 2) _) (32 * j + (4 + 4 * k) + 3) _ (32 * j + q) = _
        rw [upd4, e18]
        by_cases c3 : q = 4 * k + 7
        · rw [if_pos (by omega), c3]
        rw [if_neg (by omega)]
        by_cases c2 : q = 4 * k + 6
        · rw [if_pos (by omega), c2]
        rw [if_neg (by omega)]
        by_cases c1 : q = 4 * k + 5
        · rw [if_pos (by omega), c1]
        rw [if_neg (by omega)]
        by_cases c0 : q = 4 * k + 4
        · rw [if_pos (by omega), c0]
        rw [if_neg (by omega)]
        exact h1 q (by omega)
      · show upd (upd (upd (upd (υ.2.2.1 35) (32 * j + (4 + 4 * k)) _) (32 * j + (4 + 4 * k) + 1) _) (32 * j + (4 + 4 * k) + 2) _) (32 * j + (4 + 4 * k) + 3) _ p = _
        rw [upd4, if_neg (by omega), if_neg (by omega), if_neg (by omega), if_neg (by omega)]
        exact h2 p hp
  unfold F_Vwm_place
  rw [show F_Vwm_tell τ (Int32.ofNat j) 0 (τ.2.2.1 18 0) (τ.2.2.1 18 1) (τ.2.2.1 18 2) (τ.2.2.1 18 3) = _ from e_Vwm_tell τ j 0 _ _ _ _ hj (by omega), bd_def, bd_def]
  refine lp 7 0 100000 _ (by omega) (by omega) (fr_sI (fr_sA (fr_sI Fr.rfl 21 0 rfl) 35 _ rfl) 26 0 rfl) (fun q hq => ?_) (fun p hp => ?_)
  · show upd (upd (upd (upd (τ.2.2.1 35) (32 * j + 0) _) (32 * j + 0 + 1) _) (32 * j + 0 + 2) _) (32 * j + 0 + 3) _ (32 * j + q) = _
    rw [upd4]
    have : q = 0 ∨ q = 1 ∨ q = 2 ∨ q = 3 := by omega
    rcases this with rfl | rfl | rfl | rfl
    · rw [if_neg (by omega), if_neg (by omega), if_neg (by omega), if_pos (by omega)]
    · rw [if_neg (by omega), if_neg (by omega), if_pos (by omega)]
    · rw [if_neg (by omega), if_pos (by omega)]
    · rw [if_pos (by omega)]
  · show upd (upd (upd (upd (τ.2.2.1 35) (32 * j + 0) _) (32 * j + 0 + 1) _) (32 * j + 0 + 2) _) (32 * j + 0 + 3) _ p = _
    rw [upd4, if_neg (by omega), if_neg (by omega), if_neg (by omega), if_neg (by omega)]
/-- the reference's ins of a corner -/
theorem e_insM (μ κ : Nat → Int32) (v : Int32) (v1 : Int32) (τ : Sg) (h0 : τ.2.2.1 0 = μ) (hA : AtRel κ τ) :
    ∃ n τ', L_Mod_corner_48 100000 τ v1 v 0 = L_Mod_corner_48 (n + 1) τ' v1 v 32 ∧ Fr (fun c k => (c == 0 && k == 21) || (c == 2 && k == 17)) τ τ' ∧ ∀ j, j < 32 → τ'.2.2.1 17 j = atv μ κ v (j / 4) (j % 4) := by
  have lp : ∀ (d k f : Nat) (υ : Sg), k + d = 32 → f = 99968 + d → Fr (fun c k => (c == 0 && k == 21) || (c == 2 && k == 17)) τ υ → (∀ j, j < k → υ.2.2.1 17 j = atv μ κ v (j / 4) (j % 4)) →
      ∃ τ', L_Mod_corner_48 f υ v1 v (Int32.ofNat k) = L_Mod_corner_48 99968 τ' v1 v 32 ∧ Fr (fun c k => (c == 0 && k == 21) || (c == 2 && k == 17)) τ τ' ∧ ∀ j, j < 32 → τ'.2.2.1 17 j = atv μ κ v (j / 4) (j % 4) := by
    intro d
    induction d with
    | zero =>
      intro k f υ hk hf F h1
      have : k = 32 := by omega
      subst this
      exact ⟨υ, by rw [hf]; rfl, F, h1⟩
    | succ d ih =>
      intro k f υ hk hf F h1
      have hf2 := e_fetch μ κ υ v (k / 4) (k % 4) (by omega) (by omega) (by rw [F.2.2.1 0 rfl]; exact h0) (by unfold AtRel at hA ⊢; rw [F.2.2.1 34 rfl]; exact hA)
      rw [show f = (99968 + d) + 1 by omega, L_Mod_corner_48, if_neg (show ¬ (32 : Int32) ≤ Int32.ofNat k from fun e => absurd ((n_le 32 k (by omega) (by omega)).mp e) (by omega)), show (Int32.ofNat k / 4 : Int32) = Int32.ofNat (k / 4) from n_div k 4 (by omega) (by omega) (by omega), show irem (Int32.ofNat k) 4 = Int32.ofNat (k % 4) from n_rem k 4 (by omega) (by omega) (by omega), hf2, bd_def, ck_pos (n_inb k 32 (by omega) (by omega)), lt_def, lt_def, n_nat k (by omega), n_succ]
      refine ih (k + 1) _ _ (by omega) rfl (fr_sA (fr_sI F 21 0 rfl) 17 _ rfl) (fun j hj => ?_)
      show upd (υ.2.2.1 17) k _ j = _
      by_cases c : j = k
      · subst c; rw [upd_eq]
      · rw [upd_ne _ _ _ _ c]; exact h1 j (by omega)
  obtain ⟨τ', a1, a2, a3⟩ := lp 32 0 100000 τ (by omega) (by omega) Fr.rfl (fun j hj => by omega)
  exact ⟨99967, τ', a1, a2, a3⟩
