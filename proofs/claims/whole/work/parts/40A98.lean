/-! a triangle of a polygon -/
def pTr : Nat → Nat → Bool := fun c k => pPx c k || (c == 0 && (17 ≤ k && k ≤ 21)) || (c == 1 && k == 2) || (c == 2 && k == 28) || (c == 3 && (1 ≤ k && k ≤ 4))
def qTr : Nat → Nat → Bool := fun c k => qPx c k || (c == 0 && (k == 21 || k == 27)) || (c == 2 && (40 ≤ k && k ≤ 44))
def Pol (P : List (Nat → Int32)) (c : Nat) (σ τ : Sg) : Prop := (σ.2.2.2.2 5 = c) ∧ (c < 2) ∧ (σ.2.2.2.2 6 < 2 ∧ σ.2.2.2.2 6 ≠ c) ∧ (σ.1 16 = Int32.ofNat P.length) ∧ (RowsC σ (31 + 8 * c) P) ∧ (LaidC (σ.2.2.1 1) P P.length σ) ∧ (τ.1 26 = Int32.ofNat (P.length - 2)) ∧ (RowsM τ 37 P) ∧ (LaidM (σ.2.2.1 1) P P.length τ) ∧ (P.length = 0 ∨ (3 ≤ P.length ∧ P.length ≤ 6)) ∧ (∀ j, j < P.length → 256 ≤ (P.getD j (fun _ => 0) 3).toInt)
theorem Pol.n5 {P : List (Nat → Int32)} {c : Nat} {σ τ : Sg} (a_ : Pol P c σ τ) : σ.2.2.2.2 5 = c := a_.1
theorem Pol.c2 {P : List (Nat → Int32)} {c : Nat} {σ τ : Sg} (a_ : Pol P c σ τ) : c < 2 := a_.2.1
theorem Pol.s6 {P : List (Nat → Int32)} {c : Nat} {σ τ : Sg} (a_ : Pol P c σ τ) : σ.2.2.2.2 6 < 2 ∧ σ.2.2.2.2 6 ≠ c := a_.2.2.1
theorem Pol.many {P : List (Nat → Int32)} {c : Nat} {σ τ : Sg} (a_ : Pol P c σ τ) : σ.1 16 = Int32.ofNat P.length := a_.2.2.2.1
theorem Pol.rowC {P : List (Nat → Int32)} {c : Nat} {σ τ : Sg} (a_ : Pol P c σ τ) : RowsC σ (31 + 8 * c) P := a_.2.2.2.2.1
theorem Pol.layC {P : List (Nat → Int32)} {c : Nat} {σ τ : Sg} (a_ : Pol P c σ τ) : LaidC (σ.2.2.1 1) P P.length σ := a_.2.2.2.2.2.1
theorem Pol.made {P : List (Nat → Int32)} {c : Nat} {σ τ : Sg} (a_ : Pol P c σ τ) : τ.1 26 = Int32.ofNat (P.length - 2) := a_.2.2.2.2.2.2.1
theorem Pol.rowM {P : List (Nat → Int32)} {c : Nat} {σ τ : Sg} (a_ : Pol P c σ τ) : RowsM τ 37 P := a_.2.2.2.2.2.2.2.1
theorem Pol.layM {P : List (Nat → Int32)} {c : Nat} {σ τ : Sg} (a_ : Pol P c σ τ) : LaidM (σ.2.2.1 1) P P.length τ := a_.2.2.2.2.2.2.2.2.1
theorem Pol.len {P : List (Nat → Int32)} {c : Nat} {σ τ : Sg} (a_ : Pol P c σ τ) : P.length = 0 ∨ (3 ≤ P.length ∧ P.length ≤ 6) := a_.2.2.2.2.2.2.2.2.2.1
theorem Pol.pw {P : List (Nat → Int32)} {c : Nat} {σ τ : Sg} (a_ : Pol P c σ τ) : ∀ j, j < P.length → 256 ≤ (P.getD j (fun _ => 0) 3).toInt := a_.2.2.2.2.2.2.2.2.2.2
theorem Pol.tr {P : List (Nat → Int32)} {c : Nat} {σ σ' τ τ' : Sg} (a : Pol P c σ τ) (hs : Fr pTr σ σ') (ht : Fr qTr τ τ') : Pol P c σ' τ' := by
  have e1 : σ'.2.2.1 1 = σ.2.2.1 1 := hs.2.2.1 1 rfl
  refine ⟨by rw [hs.2.2.2.2 5 rfl]; exact a.n5, a.c2, by rw [hs.2.2.2.2 6 rfl]; exact a.s6, by rw [hs.1 16 rfl]; exact a.many, ?_, ?_, by rw [ht.1 26 rfl]; exact a.made, ?_, ?_, a.len, a.pw⟩
  · intro j hj k hk
    have := a.c2
    have hl := a.len
    rw [hs.2.2.1 _ (by unfold pTr pPx; simp; omega)]; exact a.rowC j hj k hk
  · have := a.layC; unfold LaidC at this ⊢; rw [e1, hs.2.2.1 24 rfl, hs.2.2.1 25 rfl, hs.2.2.1 26 rfl, hs.2.2.1 27 rfl]; exact this
  · have := a.rowM; unfold RowsM at this ⊢; rw [ht.2.2.1 37 rfl]; exact this
  · have := a.layM; unfold LaidM at this ⊢; rw [e1, ht.2.2.1 39 rfl]; exact this
/-- the corners' numbers of the triangle k of a polygon -/
def pX (κ : Nat → Int32) (P : List (Nat → Int32)) (k j : Nat) : Int32 := lxv (P.getD (ci k j) (fun _ => 0) 0) (P.getD (ci k j) (fun _ => 0) 3) (κ 0) (κ 2)
def pY (κ : Nat → Int32) (P : List (Nat → Int32)) (k j : Nat) : Int32 := lxv (P.getD (ci k j) (fun _ => 0) 1) (P.getD (ci k j) (fun _ => 0) 3) (κ 1) (κ 3)
def pD (κ : Nat → Int32) (P : List (Nat → Int32)) (k j : Nat) : Int32 := ldv (P.getD (ci k j) (fun _ => 0) 2) (P.getD (ci k j) (fun _ => 0) 3) (κ 4) (κ 5)
def pQ (P : List (Nat → Int32)) (k j : Nat) : Int32 := lnv (P.getD (ci k j) (fun _ => 0) 3)
def pV (P : List (Nat → Int32)) (k q j : Nat) : Int32 := P.getD (ci k j) (fun _ => 0) q
theorem ci_len (L m j : Nat) (hm : m + 2 < L) (hj : j < 3) : ci (m + 1) j < L := by unfold ci; split <;> omega
theorem pX_ok (κ : Nat → Int32) (P : List (Nat → Int32)) (k : Nat) : XyOK (pX κ P k) ∧ XyOK (pY κ P k) ∧ ∀ j, rg (pD κ P k j) 0 16777215 := by
  refine ⟨fun j _ => ?_, fun j _ => ?_, fun j => ?_⟩
  · have h := clL_rng (lxt (P.getD (ci k j) (fun _ => 0) 0) (P.getD (ci k j) (fun _ => 0) 3) (κ 0) (κ 2)) (-16384) 16383 (by decide)
    exact ⟨Int32.le_iff_toInt_le.mp h.1, Int32.le_iff_toInt_le.mp h.2⟩
  · have h := clL_rng (lxt (P.getD (ci k j) (fun _ => 0) 1) (P.getD (ci k j) (fun _ => 0) 3) (κ 1) (κ 3)) (-16384) 16383 (by decide)
    exact ⟨Int32.le_iff_toInt_le.mp h.1, Int32.le_iff_toInt_le.mp h.2⟩
  · have h := clL_rng (ldt (P.getD (ci k j) (fun _ => 0) 2) (P.getD (ci k j) (fun _ => 0) 3) (κ 4) (κ 5)) 0 16777215 (by decide)
    exact ⟨Int32.le_iff_toInt_le.mp h.1, Int32.le_iff_toInt_le.mp h.2⟩
theorem e_cornerOf (m j : Nat) (hj : j < 3) : F_Vwm_cornerOf (Int32.ofNat m) (Int32.ofNat j) = some (Int32.ofNat (ci (m + 1) j)) := by
  unfold F_Vwm_cornerOf F_Vwm_cornerOf_11 ci
  by_cases c : j = 0
  · rw [if_pos (show Int32.ofNat j = 0 by rw [c]; rfl), if_pos c]; rfl
  · rw [if_neg (show ¬ Int32.ofNat j = 0 from fun e => c ((n_inj j 0 (by omega) (by omega)).mp e)), if_neg c, n_add]
    congr 2; omega
theorem e_made (P : List (Nat → Int32)) (m : Nat) (τ : Sg) (hl : 3 ≤ P.length ∧ P.length ≤ 6) (hm : m + 2 < P.length) (h : τ.1 26 = Int32.ofNat (P.length - 2)) : F_Vwm_in (Int32.ofNat m) 0 (τ.1 26 - 1) = some 1 := by
  rw [e_Vwm_in, h, show (1 : Int32) = Int32.ofNat 1 from rfl, i_subn _ 1 (by omega), if_pos ⟨(n_le 0 m (by omega) (by omega)).mpr (by omega), (n_le m _ (by omega) (by omega)).mpr (by omega)⟩]
theorem e_got (P : List (Nat → Int32)) (m j q : Nat) (τ : Sg) (hl : 3 ≤ P.length ∧ P.length ≤ 6) (hm : m + 2 < P.length) (hj : j < 3) (hq : q < 32) (h : τ.1 26 = Int32.ofNat (P.length - 2)) :
    F_Vwm_got τ (Int32.ofNat m) (Int32.ofNat j) (Int32.ofNat q) = some (sI τ 21 0, if q < 4 then τ.2.2.1 39 (4 * ci (m + 1) j + q) else τ.2.2.1 37 (32 * ci (m + 1) j + q)) := by
  have hc := ci_len _ m j hm hj
  unfold F_Vwm_got
  rw [e_made P m τ hl hm h, bd_def, if_neg (by decide)]
  unfold F_Vwm_got_20
  rw [e_Vwm_in, if_pos ⟨(n_le 0 j (by omega) (by omega)).mpr (by omega), (n_le j 2 (by omega) (by omega)).mpr (by omega)⟩, bd_def, if_neg (by decide), e_Vwm_in, if_pos ⟨(n_le 0 q (by omega) (by omega)).mpr (by omega), (n_le q 31 (by omega) (by omega)).mpr (by omega)⟩, bd_def, if_neg (by decide)]
  unfold F_Vwm_got_44 F_Vwm_got_90
  rw [e_Vwm_refuse0, bd_def, if_pos rfl, e_cornerOf m j hj, bd_def, show (32 * Int32.ofNat (ci (m + 1) j) : Int32) = Int32.ofNat (32 * ci (m + 1) j) from n_mul 32 _, show (4 * Int32.ofNat (ci (m + 1) j) : Int32) = Int32.ofNat (4 * ci (m + 1) j) from n_mul 4 _, n_add, n_add]
  by_cases c : q < 4
  · rw [if_neg (show ¬ (4 : Int32) ≤ Int32.ofNat q from fun e => absurd ((n_le 4 q (by omega) (by omega)).mp e) (by omega)), if_pos c, ck_pos (n_inb _ 32 (by omega) (by omega)), n_nat _ (by omega)]; rfl
  · rw [if_pos (show (4 : Int32) ≤ Int32.ofNat q from (n_le 4 q (by omega) (by omega)).mpr (by omega)), if_neg c, ck_pos (n_inb _ 256 (by omega) (by omega)), n_nat _ (by omega)]; rfl
theorem e_Erm_in (x a b : Int32) (h : rg x a.toInt b.toInt) : F_Erm_in x a b = some 1 := by
  unfold F_Erm_in F_Erm_in_15
  rw [if_neg (fun e => absurd (Int32.lt_iff_toInt_lt.mp e) (by have := h.1; omega)), if_neg (fun e => absurd (Int32.lt_iff_toInt_lt.mp e) (by have := h.2; omega))]
  rfl
theorem e_Erm_ok (τ : Sg) : F_Erm_refuse τ 0 0 = some (sI τ 27 0, 0) := by
  rfl
theorem e_Erm_corner (τ : Sg) (j : Nat) (x y d q : Int32) (hj : j < 3) (hx : rg x (-16384) 16383) (hy : rg y (-16384) 16383) (hd : rg d 0 16777215) (hq : rg q 1 8388608) :
    F_Erm_corner τ (Int32.ofNat j) x y d q = some (sA (sA (sA (sA (sI τ 27 0) 40 (upd (τ.2.2.1 40) j x)) 41 (upd (τ.2.2.1 41) j y)) 42 (upd (τ.2.2.1 42) j d)) 43 (upd (τ.2.2.1 43) j q)) := by
  have h3 := n_inb j 3 hj (by omega)
  have hj2 : rg (Int32.ofNat j) 0 2 := ⟨by rw [n_int j (by omega)]; omega, by rw [n_int j (by omega)]; omega⟩
  unfold F_Erm_corner
  rw [e_Erm_in _ 0 2 hj2, bd_def, if_neg (by decide), e_Erm_in x (-16384) 16383 hx, bd_def, if_neg (by decide), e_Erm_in y (-16384) 16383 hy, bd_def, if_neg (by decide), e_Erm_in d 0 16777215 hd, bd_def, if_neg (by decide), e_Erm_in q 1 8388608 hq, bd_def, if_neg (by decide)]
  unfold F_Erm_corner_62 F_Erm_corner_75
  rw [if_neg (by decide), e_Erm_ok, bd_def, if_pos rfl, ck_pos h3, lt_def, ck_pos h3, lt_def, ck_pos h3, lt_def, ck_pos h3, lt_def, n_nat j (by omega)]
  rfl
theorem e_Erm_value (τ : Sg) (j k : Nat) (v : Int32) (hj : j < 3) (hk : k < 28) : F_Erm_value τ (Int32.ofNat j) (Int32.ofNat k) v = some (sA (sI τ 27 0) 44 (upd (τ.2.2.1 44) (28 * j + k) v)) := by
  have hj2 : rg (Int32.ofNat j) 0 2 := ⟨by rw [n_int j (by omega)]; omega, by rw [n_int j (by omega)]; omega⟩
  have hk2 : rg (Int32.ofNat k) 0 27 := ⟨by rw [n_int k (by omega)]; omega, by rw [n_int k (by omega)]; omega⟩
  unfold F_Erm_value
  rw [e_Erm_in _ 0 2 hj2, bd_def, if_neg (by decide), e_Erm_in _ 0 27 hk2, bd_def, if_neg (by decide)]
  unfold F_Erm_value_25
  rw [e_Erm_ok, bd_def, if_pos rfl, show (28 * Int32.ofNat j : Int32) = Int32.ofNat (28 * j) from n_mul 28 j, n_add, ck_pos (n_inb _ 84 (by omega) (by omega)), lt_def, n_nat _ (by omega)]
  rfl
def pTl : Nat → Nat → Bool := fun c k => (c == 0 && (k == 21 || k == 27)) || (c == 2 && (40 ≤ k && k ≤ 44))
/-- the reference's raster is told a triangle -/
theorem e_triLoad (P : List (Nat → Int32)) (c m : Nat) (σ τ : Sg) (v2 : Int32) (a : Pol P c σ τ) (hm : m + 2 < P.length) :
    ∃ τ', F_Mod_triangle τ (Int32.ofNat m) v2 = bd (F_Mod_edge τ' 41 0) (fun o38 => bd (F_Mod_greatest 0 o38) (fun o39 => L_Mod_triangle_116 100000 τ' v2 o39)) ∧ Fr pTl τ τ' ∧ RasM (pX (σ.2.2.1 1) P (m + 1)) (pY (σ.2.2.1 1) P (m + 1)) τ' ∧ (∀ j, j < 3 → τ'.2.2.1 42 j = pD (σ.2.2.1 1) P (m + 1) j) ∧ (∀ j, j < 3 → τ'.2.2.1 43 j = pQ P (m + 1) j) ∧ (∀ q, q < 28 → ∀ j, j < 3 → τ'.2.2.1 44 (28 * j + q) = pV P (m + 1) (4 + q) j) := by
  have hl : 3 ≤ P.length ∧ P.length ≤ 6 := by have := a.len; omega
  obtain ⟨okX, okY, okD⟩ := pX_ok (σ.2.2.1 1) P (m + 1)
  -- the values of a corner
  have vals : ∀ (d q j f : Nat) (υ : Sg) (rc : Sg → Int32 → Int32 → Int32 → Option Sg), q + d = 28 → j < 3 → d < f → Fr pTl τ υ → (∀ p, p < q → υ.2.2.1 44 (28 * j + p) = pV P (m + 1) (4 + p) j) →
      ∃ υ', L_Mod_triangle_58 rc f υ (Int32.ofNat m) v2 (Int32.ofNat j) (Int32.ofNat q) = rc υ' (Int32.ofNat m) v2 (Int32.ofNat (j + 1)) ∧ Fr pTl τ υ' ∧ (∀ p, p < 28 → υ'.2.2.1 44 (28 * j + p) = pV P (m + 1) (4 + p) j) ∧ (∀ p, (p < 28 * j + q ∨ 28 * j + 28 ≤ p) → υ'.2.2.1 44 p = υ.2.2.1 44 p) ∧ υ'.2.2.1 40 = υ.2.2.1 40 ∧ υ'.2.2.1 41 = υ.2.2.1 41 ∧ υ'.2.2.1 42 = υ.2.2.1 42 ∧ υ'.2.2.1 43 = υ.2.2.1 43 := by
    intro d
    induction d with
    | zero =>
      intro q j f υ rc hq hj hf F hv
      refine ⟨υ, ?_, F, fun p hp => hv p (by omega), fun p _ => rfl, rfl, rfl, rfl, rfl⟩
      rw [show f = (f - 1) + 1 by omega, L_Mod_triangle_58, if_pos (show (28 : Int32) ≤ Int32.ofNat q from (n_le 28 q (by omega) (by omega)).mpr (by omega)), lt_def, n_succ]
    | succ d ih =>
      intro q j f υ rc hq hj hf F hv
      have hc := ci_len _ m j hm hj
      rw [show f = (f - 1) + 1 by omega, L_Mod_triangle_58, if_neg (show ¬ (28 : Int32) ≤ Int32.ofNat q from fun e => absurd ((n_le 28 q (by omega) (by omega)).mp e) (by omega)), show (4 + Int32.ofNat q : Int32) = Int32.ofNat (4 + q) from n_add 4 q,
        e_got P m j (4 + q) υ hl hm hj (by omega) (by rw [F.1 26 rfl]; exact a.made), bd_def, if_neg (by omega), e_Erm_value _ j q _ hj (by omega), bd_def, lt_def, n_succ]
      have ev : υ.2.2.1 37 (32 * ci (m + 1) j + (4 + q)) = pV P (m + 1) (4 + q) j := by
        rw [F.2.2.1 37 rfl, a.rowM _ hc _ (by omega)]; rfl
      rw [ev]
      obtain ⟨υ', u1, u2, u3, u4, u5, u6, u7, u8⟩ := ih (q + 1) j (f - 1) (sA (sI (sI υ 21 0) 27 0) 44 (upd (υ.2.2.1 44) (28 * j + q) (pV P (m + 1) (4 + q) j))) rc (by omega) hj (by omega) (fr_sA (fr_sI (fr_sI F 21 0 rfl) 27 0 rfl) 44 _ rfl) (fun p hp => by
        show upd (υ.2.2.1 44) (28 * j + q) _ (28 * j + p) = _
        by_cases c : p = q
        · subst c; rw [upd_eq]
        · rw [upd_ne _ _ _ _ (by omega)]; exact hv p (by omega))
      refine ⟨υ', u1, u2, u3, fun p hp => ?_, u5, u6, u7, u8⟩
      rw [u4 p (by omega)]
      show upd (υ.2.2.1 44) (28 * j + q) _ p = _
      rw [upd_ne _ _ _ _ (by omega)]
  have crn : ∀ (d j f : Nat) (υ : Sg), j + d = 3 → d < f → Fr pTl τ υ → (∀ i, i < j → υ.2.2.1 40 i = pX (σ.2.2.1 1) P (m + 1) i ∧ υ.2.2.1 41 i = pY (σ.2.2.1 1) P (m + 1) i ∧ υ.2.2.1 42 i = pD (σ.2.2.1 1) P (m + 1) i ∧ υ.2.2.1 43 i = pQ P (m + 1) i ∧ ∀ p, p < 28 → υ.2.2.1 44 (28 * i + p) = pV P (m + 1) (4 + p) i) →
      ∃ υ', L_Mod_triangle_2 f υ (Int32.ofNat m) v2 (Int32.ofNat j) = bd (F_Mod_edge υ' 41 0) (fun o38 => bd (F_Mod_greatest 0 o38) (fun o39 => L_Mod_triangle_116 100000 υ' v2 o39)) ∧ Fr pTl τ υ' ∧ (∀ i, i < 3 → υ'.2.2.1 40 i = pX (σ.2.2.1 1) P (m + 1) i ∧ υ'.2.2.1 41 i = pY (σ.2.2.1 1) P (m + 1) i ∧ υ'.2.2.1 42 i = pD (σ.2.2.1 1) P (m + 1) i ∧ υ'.2.2.1 43 i = pQ P (m + 1) i ∧ ∀ p, p < 28 → υ'.2.2.1 44 (28 * i + p) = pV P (m + 1) (4 + p) i) := by
    intro d
    induction d with
    | zero =>
      intro j f υ hj hf F hv
      refine ⟨υ, ?_, F, fun i hi => hv i (by omega)⟩
      rw [show f = (f - 1) + 1 by omega, L_Mod_triangle_2, if_pos (show (3 : Int32) ≤ Int32.ofNat j from (n_le 3 j (by omega) (by omega)).mpr (by omega))]
    | succ d ih =>
      intro j f υ hj hf F hv
      have hc := ci_len _ m j hm (show j < 3 by omega)
      obtain ⟨y1, y2, y3, y4⟩ := a.layM _ hc
      have hqr := lnv_rng (P.getD (ci (m + 1) j) (fun _ => 0) 3) (a.pw _ hc)
      have g26 : ∀ ρ : Sg, Fr pTl τ ρ → ρ.1 26 = Int32.ofNat (P.length - 2) := fun ρ h => by rw [h.1 26 rfl]; exact a.made
      have g39 : ∀ ρ : Sg, Fr pTl τ ρ → ρ.2.2.1 39 = τ.2.2.1 39 := fun ρ h => h.2.2.1 39 rfl
      have G1 : Fr pTl τ (sI υ 21 0) := fr_sI F 21 0 rfl
      have G2 : Fr pTl τ (sI (sI υ 21 0) 21 0) := fr_sI G1 21 0 rfl
      have G3 : Fr pTl τ (sI (sI (sI υ 21 0) 21 0) 21 0) := fr_sI G2 21 0 rfl
      have G4 : Fr pTl τ (sI (sI (sI (sI υ 21 0) 21 0) 21 0) 21 0) := fr_sI G3 21 0 rfl
      have eq : L_Mod_triangle_2 (f - 1 + 1) υ (Int32.ofNat m) v2 (Int32.ofNat j) = bd (F_Erm_corner (sI (sI (sI (sI υ 21 0) 21 0) 21 0) 21 0) (Int32.ofNat j) (pX (σ.2.2.1 1) P (m + 1) j) (pY (σ.2.2.1 1) P (m + 1) j) (pD (σ.2.2.1 1) P (m + 1) j) (pQ P (m + 1) j)) (fun o44 => L_Mod_triangle_58 (L_Mod_triangle_2 (f - 1)) 100000 o44 (Int32.ofNat m) v2 (Int32.ofNat j) 0) := by
       rw [L_Mod_triangle_2, if_neg (show ¬ (3 : Int32) ≤ Int32.ofNat j from fun e => absurd ((n_le 3 j (by omega) (by omega)).mp e) (by omega)),
        show F_Vwm_got υ (Int32.ofNat m) (Int32.ofNat j) 0 = _ from e_got P m j 0 υ hl hm (by omega) (by omega) (g26 _ F), bd_def, show F_Vwm_got (sI υ 21 0) (Int32.ofNat m) (Int32.ofNat j) 1 = _ from e_got P m j 1 _ hl hm (by omega) (by omega) (g26 _ G1), bd_def, show F_Vwm_got (sI (sI υ 21 0) 21 0) (Int32.ofNat m) (Int32.ofNat j) 2 = _ from e_got P m j 2 _ hl hm (by omega) (by omega) (g26 _ G2), bd_def, show F_Vwm_got (sI (sI (sI υ 21 0) 21 0) 21 0) (Int32.ofNat m) (Int32.ofNat j) 3 = _ from e_got P m j 3 _ hl hm (by omega) (by omega) (g26 _ G3), bd_def, if_pos (by omega), if_pos (by omega), if_pos (by omega), if_pos (by omega)]
       rw [g39 _ F, g39 _ G1, g39 _ G2, g39 _ G3, show 4 * ci (m + 1) j + 0 = 4 * ci (m + 1) j from rfl, y1, y2, y3, y4]
       rfl
      rw [show f = (f - 1) + 1 by omega, eq, e_Erm_corner _ j _ _ _ _ (by omega) (okX j (by omega)) (okY j (by omega)) (okD j) (show rg (pQ P (m + 1) j) 1 8388608 from ⟨hqr.1, by have := hqr.2; show (lnv _).toInt ≤ _; omega⟩), bd_def]
      simp only [sI_2]
      obtain ⟨υ1, s1, s2, s3, s4, s5, s6, s7, s8⟩ := vals 28 0 j 100000 (sA (sA (sA (sA (sI (sI (sI (sI (sI υ 21 0) 21 0) 21 0) 21 0) 27 0) 40 (upd (υ.2.2.1 40) j (pX (σ.2.2.1 1) P (m + 1) j))) 41 (upd (υ.2.2.1 41) j (pY (σ.2.2.1 1) P (m + 1) j))) 42 (upd (υ.2.2.1 42) j (pD (σ.2.2.1 1) P (m + 1) j))) 43 (upd (υ.2.2.1 43) j (pQ P (m + 1) j))) (L_Mod_triangle_2 (f - 1)) (by omega) (by omega) (by omega)
        (fr_sA (fr_sA (fr_sA (fr_sA (fr_sI G4 27 0 rfl) 40 _ rfl) 41 _ rfl) 42 _ rfl) 43 _ rfl) (fun p hp => by omega)
      rw [show L_Mod_triangle_58 (L_Mod_triangle_2 (f - 1)) 100000 _ (Int32.ofNat m) v2 (Int32.ofNat j) 0 = _ from s1]
      refine ih (j + 1) (f - 1) υ1 (by omega) (by omega) s2 (fun i hi => ?_)
      rw [s5, s6, s7, s8]
      by_cases c : i = j
      · subst c
        exact ⟨upd_eq _ _ _, upd_eq _ _ _, upd_eq _ _ _, upd_eq _ _ _, s3⟩
      · obtain ⟨h1, h2, h3, h4, h5⟩ := hv i (by omega)
        refine ⟨(upd_ne _ _ _ _ c).trans h1, (upd_ne _ _ _ _ c).trans h2, (upd_ne _ _ _ _ c).trans h3, (upd_ne _ _ _ _ c).trans h4, fun p hp => ?_⟩
        rw [s4 _ (by omega)]
        exact h5 p hp
  obtain ⟨τ', u1, u2, u3⟩ := crn 3 0 100000 τ (by omega) (by omega) Fr.rfl (fun i hi => by omega)
  refine ⟨τ', ?_, u2, fun j hj => ⟨(u3 j hj).1, (u3 j hj).2.1⟩, fun j hj => (u3 j hj).2.2.1, fun j hj => (u3 j hj).2.2.2.1, fun q hq j hj => (u3 j hj).2.2.2.2 q hq⟩
  unfold F_Mod_triangle
  exact u1
