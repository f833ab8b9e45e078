/-! both cuts -/
def pSh : Nat → Nat → Bool := fun c k => (c == 0 && k == 16) || (c == 2 && (31 ≤ k && k < 47)) || (c == 4 && (k == 5 || k == 6))
theorem e_cutBy (P : List (Nat → Int32)) (nr : Bool) (σ : Sg) (c s : Nat) (hm : P.length = 0 ∨ P.length = 3 ∨ P.length = 4) (h16 : σ.1 16 = Int32.ofNat P.length) (h5 : σ.2.2.2.2 5 = c) (h6 : σ.2.2.2.2 6 = s) (hc : c < 2) (hs : s < 2) (hcs : c ≠ s) (hP : RowsC σ (31 + 8 * c) P) :
    ∃ σ', F_Sha_cutBy σ (bI nr) = some σ' ∧ Fr pSh σ σ' ∧ σ'.1 16 = Int32.ofNat (cutL P nr).length ∧ σ'.2.2.2.2 5 = s ∧ σ'.2.2.2.2 6 = c ∧ RowsC σ' (31 + 8 * s) (cutL P nr) := by
  have hb := (cut_le P nr hm).1
  have wS : ∀ a k, pSh a k = false → pSp s a k = false := by intro a k h; simp [pSh] at h; simp [pSp]; omega
  have key : ∀ d i, P.length = i + d → ∀ n, d < n → ∀ τ, Fr (pSp s) σ τ → RowsC τ (31 + 8 * s) (cutN P nr i) → ∃ σ', L_Sha_cutBy_4 n τ (bI nr) (Int32.ofNat (cutN P nr i).length) (Int32.ofNat i) = some σ' ∧ Fr pSh σ σ' ∧ σ'.1 16 = Int32.ofNat (cutL P nr).length ∧ σ'.2.2.2.2 5 = s ∧ σ'.2.2.2.2 6 = c ∧ RowsC σ' (31 + 8 * s) (cutL P nr) := by
    intro d
    induction d with
    | zero =>
      intro i hi n hn τ hF hQ
      obtain ⟨n, rfl⟩ : ∃ x, n = x + 1 := ⟨n - 1, by omega⟩
      have hiP : i = P.length := by omega
      subst hiP
      have t16 : τ.1 16 = Int32.ofNat P.length := by rw [hF.1 _ (by simp [pSp])]; exact h16
      have fin : ∀ x : Nat, F_Sha_cutBy_191 τ (Int32.ofNat x) = some (sN (sN (sI τ 16 (Int32.ofNat x)) 5 s) 6 c) := by
        intro x
        unfold F_Sha_cutBy_191
        have t5 : (sI τ 16 (Int32.ofNat x)).2.2.2.2 5 = c := by show τ.2.2.2.2 5 = c; rw [hF.2.2.2.2 _ (by simp [pSp])]; exact h5
        have t6 : (sI τ 16 (Int32.ofNat x)).2.2.2.2 6 = s := by show τ.2.2.2.2 6 = s; rw [hF.2.2.2.2 _ (by simp [pSp])]; exact h6
        simp only [lt, t5, t6, ck_pos hc, ck_pos hs]
      rw [L_Sha_cutBy_4, t16, if_pos (Int32.le_refl _)]
      have l3 : (3 : Int32) ≤ Int32.ofNat (cutN P nr P.length).length ↔ 3 ≤ (cutN P nr P.length).length := n_le 3 _ (by omega) (by omega)
      by_cases e : (cutN P nr P.length).length < 3
      · have hL : cutL P nr = [] := by unfold cutL; rw [if_pos e]
        rw [if_neg (fun h => by have := l3.mp h; omega), show (0 : Int32) = Int32.ofNat 0 from rfl, fin 0, hL]
        refine ⟨_, rfl, fr_sN (fr_sN (fr_sI (hF.weak wS) _ _ (by decide)) _ _ (by decide)) _ _ (by decide), rfl, rfl, rfl, fun j hj => by simp at hj⟩
      · have hL : cutL P nr = cutN P nr P.length := by unfold cutL; rw [if_neg e]
        rw [if_pos (l3.mpr (by omega)), fin, hL]
        exact ⟨_, rfl, fr_sN (fr_sN (fr_sI (hF.weak wS) _ _ (by decide)) _ _ (by decide)) _ _ (by decide), rfl, rfl, rfl, hQ⟩
    | succ d ih =>
      intro i hi n hn τ hF hQ
      obtain ⟨n, rfl⟩ : ∃ x, n = x + 1 := ⟨n - 1, by omega⟩
      have hmono := cutN_mono P nr (i + 1) P.length (by omega)
      have hlen : (cutN P nr (i + 1)).length = (cutN P nr i).length + (nwc (P.getD i (fun _ => 0)) (P.getD (if i + 1 = P.length then 0 else i + 1) (fun _ => 0)) nr).length := by
        simp only [cutN, List.length_append]
      obtain ⟨σ', s1, s2, s3⟩ := e_cutstep P (cutN P nr i) nr τ c s i P.length (cutN P nr i).length n (by omega) (by omega) rfl rfl (by rw [hF.1 _ (by simp [pSp])]; exact h16) (by rw [hF.2.2.2.2 _ (by simp [pSp])]; exact h5) (by rw [hF.2.2.2.2 _ (by simp [pSp])]; exact h6) hc hs hcs (fun j hj k hk => by rw [hF.2.2.1 _ (by simp [pSp]; omega)]; exact hP j hj k hk) hQ (by omega)
      rw [s1, ← hlen]
      exact ih (i + 1) (by omega) n (by omega) σ' (hF.trans s2) s3
  unfold F_Sha_cutBy
  exact key P.length 0 (by omega) 100000 (by omega) σ Fr.rfl (fun j hj => by simp [cutN] at hj)
def pVc : Nat → Nat → Bool := fun c k => (c == 0 && (k == 24 || k == 25)) || (c == 2 && (k == 37 || k == 38))
theorem e_Vcut (P : List (Nat → Int32)) (nr : Bool) (σ : Sg) (hm : P.length = 0 ∨ P.length = 3 ∨ P.length = 4) (h24 : σ.1 24 = Int32.ofNat P.length) (hP : RowsM σ 37 P) :
    ∃ σ', F_Vwm_cut σ (bI (!nr)) = some σ' ∧ Fr pVc σ σ' ∧ σ'.1 24 = Int32.ofNat (cutL P nr).length ∧ RowsM σ' 37 (cutL P nr) := by
  have hb := (cut_le P nr hm).1
  have wS : ∀ a k, pVc a k = false → pCt a k = false := by intro a k; simp only [pVc, pCt]; grind
  have key : ∀ d i, P.length = i + d → ∀ n, d < n → ∀ τ, Fr pCt σ τ → τ.1 25 = Int32.ofNat (cutN P nr i).length → RowsM τ 38 (cutN P nr i) → ∃ σ', L_Vwm_cut_7 n τ (bI (!nr)) (Int32.ofNat i) = some σ' ∧ Fr pVc σ σ' ∧ σ'.1 24 = Int32.ofNat (cutL P nr).length ∧ RowsM σ' 37 (cutL P nr) := by
    intro d
    induction d with
    | zero =>
      intro i hi n hn τ hF h25 hQ
      obtain ⟨n, rfl⟩ : ∃ x, n = x + 1 := ⟨n - 1, by omega⟩
      have hiP : i = P.length := by omega
      subst hiP
      have t24 : τ.1 24 = Int32.ofNat P.length := by rw [hF.1 _ (by decide)]; exact h24
      have fin : ∀ x : Nat, x ≤ 6 → F_Vwm_cut_184 τ (Int32.ofNat x) = some (sA (sI τ 24 (Int32.ofNat x)) 37 (rowset (τ.2.2.1 37) 0 (32 * x) (τ.2.2.1 38))) := by
        intro x hx
        unfold F_Vwm_cut_184
        rw [lt_def]
        refine fill_loop' (fun n σ v => L_Vwm_cut_189 n σ v) (sI τ 24 (Int32.ofNat x)) 37 0 (32 * x) (τ.2.2.1 38) _ (fun n k hk => ?_) (fun n => ?_) 100000 (by omega)
        · have q : ∀ X, (sA (sI τ 24 (Int32.ofNat x)) 37 X).1 24 = Int32.ofNat x := fun X => rfl
          have t38 : ∀ X, (sA (sI τ 24 (Int32.ofNat x)) 37 X).2.2.1 38 = τ.2.2.1 38 := fun X => rfl
          rw [L_Vwm_cut_189, q, show (32 : Int32) = Int32.ofNat 32 from rfl, n_mul, if_neg (by rw [n_le _ _ (by omega) (by omega)]; omega), ck_pos (n_inb _ 256 (by omega) (by omega)), ck_pos (n_inb _ 256 (by omega) (by omega)), n_nat k (by omega), t38, lt_def, lt_def, n_succ, sA_sA, sA_3, if_pos rfl, Nat.zero_add]
        · have q : ∀ X, (sA (sI τ 24 (Int32.ofNat x)) 37 X).1 24 = Int32.ofNat x := fun X => rfl
          rw [L_Vwm_cut_189, q, show (32 : Int32) = Int32.ofNat 32 from rfl, n_mul, if_pos (Int32.le_refl _)]
          rfl
      rw [L_Vwm_cut_7, t24, if_pos (Int32.le_refl _), h25]
      have l3 : (3 : Int32) ≤ Int32.ofNat (cutN P nr P.length).length ↔ 3 ≤ (cutN P nr P.length).length := n_le 3 _ (by omega) (by omega)
      have fr : ∀ x X, Fr pVc σ (sA (sI τ 24 x) 37 X) := fun x X => fr_sA (fr_sI (hF.weak wS) _ _ (by decide)) _ _ (by decide)
      by_cases e : (cutN P nr P.length).length < 3
      · have hL : cutL P nr = [] := by unfold cutL; rw [if_pos e]
        rw [if_neg (fun h => by have := l3.mp h; omega), show (0 : Int32) = Int32.ofNat 0 from rfl, fin 0 (by omega), hL]
        exact ⟨_, rfl, fr _ _, rfl, fun j hj => by simp at hj⟩
      · have hL : cutL P nr = cutN P nr P.length := by unfold cutL; rw [if_neg e]
        rw [if_pos (l3.mpr (by omega)), fin _ hb, hL]
        refine ⟨_, rfl, fr _ _, rfl, fun j hj k hk => ?_⟩
        rw [sA_3, if_pos rfl, rowset_get0 _ _ _ _ (by omega)]
        exact hQ j hj k hk
    | succ d ih =>
      intro i hi n hn τ hF h25 hQ
      obtain ⟨n, rfl⟩ : ∃ x, n = x + 1 := ⟨n - 1, by omega⟩
      have hmono := cutN_mono P nr (i + 1) P.length (by omega)
      have hlen : (cutN P nr (i + 1)).length = (cutN P nr i).length + (nwc (P.getD i (fun _ => 0)) (P.getD (if i + 1 = P.length then 0 else i + 1) (fun _ => 0)) nr).length := by
        simp only [cutN, List.length_append]
      obtain ⟨σ', s1, s2, s3, s4⟩ := e_Vcutstep P (cutN P nr i) nr τ i P.length (cutN P nr i).length n (by omega) (by omega) rfl rfl (by rw [hF.1 _ (by decide)]; exact h24) h25 (fun j hj k hk => by rw [hF.2.2.1 _ (by decide)]; exact hP j hj k hk) hQ (by omega)
      rw [s1]
      rw [← hlen] at s3
      exact ih (i + 1) (by omega) n (by omega) σ' (hF.trans s2) s3 s4
  unfold F_Vwm_cut
  rw [lt_def]
  exact key P.length 0 (by omega) 100000 (by omega) (sI σ 25 0) (fr_sI Fr.rfl _ _ (by decide)) rfl (fun j hj => by simp [cutN] at hj)
theorem cutL_len (P : List (Nat → Int32)) (nr : Bool) (h : P.length = 3) : (cutL P nr).length = 0 ∨ (cutL P nr).length = 3 ∨ (cutL P nr).length = 4 := by
  have := (cut_le P nr (Or.inr (Or.inl h))).2 (by omega)
  unfold cutL
  split
  · left; rfl
  · right; omega
theorem cutL_len6 (P : List (Nat → Int32)) (nr : Bool) (h : P.length = 0 ∨ P.length = 3 ∨ P.length = 4) : (cutL P nr).length = 0 ∨ (3 ≤ (cutL P nr).length ∧ (cutL P nr).length ≤ 6) := by
  have := (cut_le P nr h).1
  unfold cutL
  split
  · left; rfl
  · right; omega
/-- after the second cut every corner lies before the eye -/
theorem btw_w (A B : Nat → Int32) (ha : 0 ≤ insP A false) (hb : insP B false < 0) : 256 ≤ (btw A B (btf (insP A false) (insP B false)) 3).toInt := by
  have rA := i_rng (A 3)
  have rB := i_rng (B 3)
  obtain ⟨e1, -, -, e4⟩ := l_sub_pos _ _ ha hb (insP_rng _ _) (insP_rng _ _)
  have iA : (insP A false).toInt = (A 3).toInt - 256 := insP_int A false
  have iB : (insP B false).toInt = (B 3).toInt - 256 := insP_int B false
  have z0 : (0 : Int64).toInt = 0 := rfl
  rw [Int64.le_iff_toInt_le, z0, iA] at ha
  rw [Int64.lt_iff_toInt_lt, z0, iB] at hb
  generalize hw : (A 3).toInt = w at *
  generalize hv : (B 3).toInt = v at *
  have m1 : ((65536 : Int64) * insP A false).toInt = 65536 * (w - 256) := by
    rw [l_mul, iA, show (65536 : Int64).toInt = 65536 from rfl]
    · rw [iA, show (65536 : Int64).toInt = 65536 from rfl]; omega
    · rw [iA, show (65536 : Int64).toInt = 65536 from rfl]; omega
  have hd : (insP A false - insP B false).toInt = w - v := by rw [e1, iA, iB]; omega
  have f1 : (btf (insP A false) (insP B false)).toInt = 65536 * (w - 256) / (w - v) := by
    unfold btf; rw [fd_pos _ _ e4, m1, hd]
  generalize hF : btf (insP A false) (insP B false) = F at f1
  have hpos : 0 < w - v := by omega
  have f0 : 0 ≤ F.toInt := by rw [f1]; exact Int.ediv_nonneg (by omega) (by omega)
  have f2 : F.toInt * (w - v) ≤ 65536 * (w - 256) := by rw [f1]; exact Int.ediv_mul_le _ (by omega)
  have f3 : F.toInt ≤ 65536 := by
    have : F.toInt * (w - v) ≤ 65536 * (w - v) := by omega
    exact Int.le_of_mul_le_mul_right this hpos
  have d1 : ((B 3).toInt64 - (A 3).toInt64).toInt = v - w := by
    rw [l_sub, l_ext, l_ext, hw, hv]
    · rw [l_ext, l_ext, hw, hv]; omega
    · rw [l_ext, l_ext, hw, hv]; omega
  have e5 : (v - w) * F.toInt = -(F.toInt * (w - v)) := by rw [Int.mul_comm, ← Int.mul_neg]; congr 1; omega
  have g0 : 0 ≤ F.toInt * (w - v) := Int.mul_nonneg f0 (by omega)
  have m2 : (((B 3).toInt64 - (A 3).toInt64) * F).toInt = -(F.toInt * (w - v)) := by
    rw [l_mul, d1, e5]
    · rw [d1, e5]; omega
    · rw [d1, e5]; omega
  have s1 : (lshr (((B 3).toInt64 - (A 3).toInt64) * F) 16).toInt = -(F.toInt * (w - v)) / 65536 := by
    rw [show (16 : Int32) = Int32.ofNat 16 from rfl, l_sar _ 16 (by omega), m2]; rfl
  generalize F.toInt * (w - v) = G at *
  unfold btw
  have a1 : ((A 3).toInt64 + lshr (((B 3).toInt64 - (A 3).toInt64) * F) 16).toInt = w + -G / 65536 := by
    rw [l_add, l_ext, s1, hw]
    · rw [l_ext, s1, hw]; omega
    · rw [l_ext, s1, hw]; omega
  rw [l_cut' _ (by rw [a1]; omega) (by rw [a1]; omega), a1]
  omega
theorem nwc_w (A B : Nat → Int32) : ∀ C, C ∈ nwc A B false → 256 ≤ (C 3).toInt := by
  intro C hC
  have iA : (insP A false).toInt = (A 3).toInt - 256 := insP_int A false
  have z0 : (0 : Int64).toInt = 0 := rfl
  unfold nwc at hC
  split at hC
  · rename_i h1
    have h1' := h1
    rw [Int64.le_iff_toInt_le, z0, iA] at h1'
    split at hC
    · rename_i h2
      rcases List.mem_cons.mp hC with h | h
      · subst h; omega
      · have := List.mem_singleton.mp h
        subst this; exact btw_w A B h1 h2
    · have := List.mem_singleton.mp hC
      subst this; omega
  · rename_i h1
    split at hC
    · rename_i h2
      have := List.mem_singleton.mp hC
      subst this; exact btw_w B A h2 (by grind)
    · cases hC
theorem cutN_w (P : List (Nat → Int32)) (i : Nat) : ∀ C, C ∈ cutN P false i → 256 ≤ (C 3).toInt := by
  induction i with
  | zero => intro C h; cases h
  | succ i ih =>
    intro C h
    simp only [cutN] at h
    rcases List.mem_append.mp h with h | h
    · exact ih C h
    · exact nwc_w _ _ C h
theorem cutL_w (P : List (Nat → Int32)) : ∀ j, j < (cutL P false).length → 256 ≤ ((cutL P false).getD j (fun _ => 0) 3).toInt := by
  intro j hj
  have hm : (cutL P false).getD j (fun _ => 0) ∈ cutL P false := by
    rw [List.getD_eq_getElem?_getD, List.getElem?_eq_getElem hj]; exact List.getElem_mem hj
  revert hm
  unfold cutL
  split
  · intro h; cases h
  · intro h; exact cutN_w P _ _ h
