/-! the reference's cut -/
theorem e_Vwm_down (x y : Int64) (hy : 0 < y.toInt) : F_Vwm_down x y = some (fdiv x y) := by
  have hz : ¬ y = 0 := by intro h; rw [h] at hy; exact absurd hy (by decide)
  unfold F_Vwm_down F_Vwm_down_23
  rw [ck_pos hz, lt_def, ← dn_pos x y hy]
  by_cases c : x / y * y ≤ x
  · rw [if_pos c, if_neg (show ¬ x < x / y * y by grind)]
  · rw [if_neg c, if_pos (show x < x / y * y by grind)]
theorem sar16 (x : Int64) : fdiv x 65536 = lshr x 16 := by
  apply l_inj
  rw [fd_pos x 65536 (by decide), show (16 : Int32) = Int32.ofNat 16 from rfl, l_sar x 16 (by omega)]
  rfl
/-- a ring that holds corners -/
def RowsM (σ : Sg) (a : Nat) (L : List (Nat → Int32)) : Prop := ∀ j, j < L.length → ∀ k, k < 32 → σ.2.2.1 a (32 * j + k) = L.getD j (fun _ => 0) k
theorem RowsM_snoc (σ σ' : Sg) (a : Nat) (L : List (Nat → Int32)) (A : Nat → Int32) (h : RowsM σ a L) (h1 : ∀ j, j < 32 * L.length → σ'.2.2.1 a j = σ.2.2.1 a j) (h2 : ∀ k, k < 32 → σ'.2.2.1 a (32 * L.length + k) = A k) : RowsM σ' a (L ++ [A]) := by
  intro j hj k hk
  by_cases c : j < L.length
  · rw [h1 _ (by omega), h j c k hk]
    simp [List.getD_eq_getElem?_getD, List.getElem?_append_left c]
  · have : j = L.length := by simp at hj; omega
    subst this
    rw [h2 k hk]
    simp [List.getD_eq_getElem?_getD]
theorem c32 (c k : Nat) : (32 * Int32.ofNat c) + Int32.ofNat k = Int32.ofNat (32 * c + k) := by
  rw [show (32 : Int32) = Int32.ofNat 32 from rfl, n_mul, n_add]
theorem e_Vwm_inside (σ : Sg) (P : List (Nat → Int32)) (c : Nat) (nr : Bool) (hP : RowsM σ 37 P) (hc : c < P.length) (h8 : P.length ≤ 8) : F_Vwm_inside σ (Int32.ofNat c) (bI (!nr)) = some (insP (P.getD c (fun _ => 0)) nr) := by
  have q2 : (32 * Int32.ofNat c) + 2 = Int32.ofNat (32 * c + 2) := c32 c 2
  have q3 : (32 * Int32.ofNat c) + 3 = Int32.ofNat (32 * c + 3) := c32 c 3
  unfold F_Vwm_inside F_Vwm_inside_48 insP
  rw [q2, q3]
  simp only [ck_pos (n_inb (32 * c + 2) 256 (by omega) (by omega)), ck_pos (n_inb (32 * c + 3) 256 (by omega) (by omega)), n_nat (32 * c + 2) (by omega), n_nat (32 * c + 3) (by omega), hP c hc 2 (by omega), hP c hc 3 (by omega)]
  cases nr
  · rw [if_neg (show ¬ bI (!false) = 0 by decide)]; rfl
  · rw [if_pos (show bI (!true) = 0 from rfl)]; rfl
/-- what a cut changes in the reference while it goes round -/
def pCt : Nat → Nat → Bool := fun c k => (c == 0 && k == 25) || (c == 2 && k == 38)
theorem e_Vwm_between (σ : Sg) (P : List (Nat → Int32)) (x y n : Nat) (nr : Bool) (hP : RowsM σ 37 P) (hx : x < P.length) (hy : y < P.length) (h8 : P.length ≤ 8) (h25 : σ.1 25 = Int32.ofNat n) (hn : n < 8) (ha : 0 ≤ insP (P.getD x (fun _ => 0)) nr) (hb : insP (P.getD y (fun _ => 0)) nr < 0) :
    F_Vwm_between σ (Int32.ofNat x) (Int32.ofNat y) (bI (!nr)) = some (sI (sA σ 38 (rowset (σ.2.2.1 38) (32 * n) 32 (btw (P.getD x (fun _ => 0)) (P.getD y (fun _ => 0)) (btf (insP (P.getD x (fun _ => 0)) nr) (insP (P.getD y (fun _ => 0)) nr))))) 25 (Int32.ofNat (n + 1))) := by
  obtain ⟨e1, e2, e3, e4⟩ := l_sub_pos _ _ ha hb (insP_rng _ nr) (insP_rng _ nr)
  unfold F_Vwm_between
  rw [e_Vwm_inside σ P x nr hP hx h8, bd_def, e_Vwm_inside σ P y nr hP hy h8, bd_def, e_Vwm_down _ _ e4, bd_def]
  show L_Vwm_between_35 100000 σ (Int32.ofNat x) (Int32.ofNat y) (btf _ _) 0 = _
  refine fill_loop' (fun m σ v => L_Vwm_between_35 m σ (Int32.ofNat x) (Int32.ofNat y) (btf (insP (P.getD x (fun _ => 0)) nr) (insP (P.getD y (fun _ => 0)) nr)) v) σ 38 (32 * n) 32 (btw (P.getD x (fun _ => 0)) (P.getD y (fun _ => 0)) (btf (insP (P.getD x (fun _ => 0)) nr) (insP (P.getD y (fun _ => 0)) nr))) _ (fun m k hk => ?_) (fun m => ?_) 100000 (by decide)
  · generalize hX : rowset (σ.2.2.1 38) (32 * n) k (btw (P.getD x (fun _ => 0)) (P.getD y (fun _ => 0)) (btf (insP (P.getD x (fun _ => 0)) nr) (insP (P.getD y (fun _ => 0)) nr))) = X
    have t37 : (sA σ 38 X).2.2.1 37 = σ.2.2.1 37 := rfl
    have t38 : (sA σ 38 X).2.2.1 38 = X := by rw [sA_3, if_pos rfl]
    have t25 : (sA σ 38 X).1 25 = Int32.ofNat n := h25
    rw [L_Vwm_between_35, if_neg (by rw [show (32 : Int32) = Int32.ofNat 32 from rfl, n_le _ _ (by omega) (by omega)]; omega), c32, c32, ck_pos (n_inb _ 256 (by omega) (by omega)), n_nat (32 * x + k) (by omega), t37, hP x hx k hk, lt_def, ck_pos (n_inb _ 256 (by omega) (by omega)), n_nat (32 * y + k) (by omega), hP y hy k hk, lt_def, e_Vwm_down _ _ (by decide), bd_def, t25, c32, ck_pos (n_inb _ 256 (by omega) (by omega)), n_nat (32 * n + k) (by omega), lt_def, lt_def, n_succ, sA_sA, t38, sar16]
    rfl
  · rw [L_Vwm_between_35, if_pos (by decide), lt_def, show (sA σ 38 (rowset (σ.2.2.1 38) (32 * n) 32 (btw (P.getD x (fun _ => 0)) (P.getD y (fun _ => 0)) (btf (insP (P.getD x (fun _ => 0)) nr) (insP (P.getD y (fun _ => 0)) nr))))).1 25 = Int32.ofNat n from h25, n_succ]
theorem e_Vcutstep (P Q : List (Nat → Int32)) (nr : Bool) (σ : Sg) (i m n f : Nat) (hm : m ≤ 8) (hi : i < m) (hPm : P.length = m) (hn : Q.length = n) (h24 : σ.1 24 = Int32.ofNat m) (h25 : σ.1 25 = Int32.ofNat n) (hP : RowsM σ 37 P) (hQ : RowsM σ 38 Q)
    (h8 : n + (nwc (P.getD i (fun _ => 0)) (P.getD (if i + 1 = m then 0 else i + 1) (fun _ => 0)) nr).length ≤ 8) :
    ∃ σ', L_Vwm_cut_7 (f + 1) σ (bI (!nr)) (Int32.ofNat i) = L_Vwm_cut_7 f σ' (bI (!nr)) (Int32.ofNat (i + 1)) ∧ Fr pCt σ σ' ∧ σ'.1 25 = Int32.ofNat (n + (nwc (P.getD i (fun _ => 0)) (P.getD (if i + 1 = m then 0 else i + 1) (fun _ => 0)) nr).length) ∧ RowsM σ' 38 (Q ++ nwc (P.getD i (fun _ => 0)) (P.getD (if i + 1 = m then 0 else i + 1) (fun _ => 0)) nr) := by
  generalize hd : (if i + 1 = m then 0 else i + 1) = d at *
  have hdm : d < m := by rw [← hd]; split <;> omega
  have f161 : ∀ τ : Sg, F_Vwm_cut_161 (L_Vwm_cut_7 f) τ (bI (!nr)) (Int32.ofNat i) = L_Vwm_cut_7 f τ (bI (!nr)) (Int32.ofNat (i + 1)) := fun τ => by
    unfold F_Vwm_cut_161; rw [lt_def, n_succ]
  have start : L_Vwm_cut_7 (f + 1) σ (bI (!nr)) (Int32.ofNat i) = F_Vwm_cut_32 (L_Vwm_cut_7 f) σ (bI (!nr)) (Int32.ofNat i) (Int32.ofNat d) := by
    rw [L_Vwm_cut_7, h24, if_neg (by rw [n_le _ _ (by omega) (by omega)]; omega), n_succ]
    by_cases e : i + 1 = m
    · rw [if_pos (by rw [e]), ← hd, if_pos e]; rfl
    · rw [if_neg (fun h => e ((n_inj _ _ (by omega) (by omega)).mp h)), ← hd, if_neg e]
  rw [start]
  unfold F_Vwm_cut_32 F_Vwm_cut_49 F_Vwm_cut_67
  rw [e_Vwm_inside σ P i nr hP (by omega) (by omega), bd_def, e_Vwm_inside σ P d nr hP (by omega) (by omega), bd_def, bd_def]
  -- the copy of a corner
  have copy : ∀ s : Int32, n < 8 → L_Vwm_cut_77 (L_Vwm_cut_7 f) 100000 σ (bI (!nr)) (Int32.ofNat i) (Int32.ofNat d) 1 s 0 = F_Vwm_cut_127 (L_Vwm_cut_7 f) (sI (sA σ 38 (rowset (σ.2.2.1 38) (32 * n) 32 (P.getD i (fun _ => 0)))) 25 (Int32.ofNat (n + 1))) (bI (!nr)) (Int32.ofNat i) (Int32.ofNat d) 1 s := by
    intro s hn8
    refine fill_loop' (fun m σ v => L_Vwm_cut_77 (L_Vwm_cut_7 f) m σ (bI (!nr)) (Int32.ofNat i) (Int32.ofNat d) 1 s v) σ 38 (32 * n) 32 (P.getD i (fun _ => 0)) _ (fun m' k hk => ?_) (fun m' => ?_) 100000 (by decide)
    · rw [L_Vwm_cut_77, if_neg (by rw [show (32 : Int32) = Int32.ofNat 32 from rfl, n_le _ _ (by omega) (by omega)]; omega), c32, ck_pos (n_inb _ 256 (by omega) (by omega)), n_nat _ (by omega), show (sA σ 38 (rowset (σ.2.2.1 38) (32 * n) k (P.getD i (fun _ => 0)))).1 25 = Int32.ofNat n from h25, c32, ck_pos (n_inb _ 256 (by omega) (by omega)), n_nat _ (by omega), lt_def, lt_def, n_succ, sA_sA, sA_3, if_pos rfl, sA_3, if_neg (by decide), hP i (by omega) k hk]
    · rw [L_Vwm_cut_77, if_pos (by decide), lt_def, show (sA σ 38 (rowset (σ.2.2.1 38) (32 * n) 32 (P.getD i (fun _ => 0)))).1 25 = Int32.ofNat n from h25, n_succ]
  have snoc : ∀ (τ : Sg) (R : List (Nat → Int32)) (A : Nat → Int32) (x : Nat), R.length = x → RowsM τ 38 R → RowsM (sI (sA τ 38 (rowset (τ.2.2.1 38) (32 * x) 32 A)) 25 (Int32.ofNat (x + 1))) 38 (R ++ [A]) := by
    intro τ R A x hR h
    refine RowsM_snoc τ _ 38 R A h (fun j hj => ?_) (fun k hk => ?_)
    · show (sA _ _ _).2.2.1 38 j = _
      rw [sA_3, if_pos rfl, rowset_out _ _ _ _ _ (by omega)]
    · show (sA _ _ _).2.2.1 38 _ = _
      rw [sA_3, if_pos rfl, hR, rowset_get _ _ _ _ _ hk]
  generalize hA : P.getD i (fun _ => 0) = A at *
  generalize hB : P.getD d (fun _ => 0) = B at *
  by_cases hin : 0 ≤ insP A nr
  · have hlen1 : n < 8 := by
      unfold nwc at h8; rw [if_pos hin] at h8
      split at h8 <;> simp at h8 <;> omega
    rw [if_neg (show ¬ insP A nr < 0 by grind)]
    simp only [if_neg (show ¬ (1 : Int32) = 0 by decide), copy _ hlen1]
    generalize hσ1 : sI (sA σ 38 (rowset (σ.2.2.1 38) (32 * n) 32 A)) 25 (Int32.ofNat (n + 1)) = σ1
    have F1 : Fr pCt σ σ1 := by rw [← hσ1]; exact fr_sI (fr_sA Fr.rfl _ _ (by decide)) _ _ (by decide)
    have R1 : RowsM σ1 38 (Q ++ [A]) := by rw [← hσ1]; exact snoc σ Q A n hn hQ
    have P1 : RowsM σ1 37 P := fun j hj k hk => by rw [F1.2.2.1 37 (by decide)]; exact hP j hj k hk
    have c1 : σ1.1 25 = Int32.ofNat (n + 1) := by rw [← hσ1]; rfl
    unfold F_Vwm_cut_127 F_Vwm_cut_144
    simp only [if_neg (show ¬ (1 : Int32) = 0 by decide), f161]
    by_cases hout : insP B nr < 0
    · have hw : nwc A B nr = [A, btw A B (btf (insP A nr) (insP B nr))] := by unfold nwc; rw [if_pos hin, if_pos hout]
      rw [hw] at h8 ⊢
      have hlen2 : n + 1 < 8 := by simp at h8; omega
      simp only [if_pos hout, if_true]
      have hbt := e_Vwm_between σ1 P i d (n + 1) nr P1 (by omega) (by omega) (by omega) c1 hlen2 (by rw [hA]; exact hin) (by rw [hB]; exact hout)
      rw [hbt, bd_def, hA, hB]
      refine ⟨_, rfl, fr_sI (fr_sA F1 _ _ (by decide)) _ _ (by decide), rfl, ?_⟩
      rw [show (Q ++ [A, btw A B (btf (insP A nr) (insP B nr))]) = (Q ++ [A]) ++ [btw A B (btf (insP A nr) (insP B nr))] by simp]
      exact snoc σ1 (Q ++ [A]) _ (n + 1) (by simp [hn]) R1
    · have hw : nwc A B nr = [A] := by unfold nwc; rw [if_pos hin, if_neg hout]
      rw [hw]
      simp only [if_neg hout]
      exact ⟨σ1, rfl, F1, c1, R1⟩
  · rw [if_pos (show insP A nr < 0 by grind)]
    simp only [if_true]
    unfold F_Vwm_cut_127 F_Vwm_cut_144
    simp only [if_true, f161]
    by_cases hout : insP B nr < 0
    · have hw : nwc A B nr = [] := by unfold nwc; rw [if_neg hin, if_neg (show ¬ 0 ≤ insP B nr by grind)]
      rw [hw]
      simp only [if_pos hout, if_true]
      refine ⟨σ, rfl, Fr.rfl, h25, ?_⟩
      rw [List.append_nil]; exact hQ
    · have hw : nwc A B nr = [btw B A (btf (insP B nr) (insP A nr))] := by unfold nwc; rw [if_neg hin, if_pos (show 0 ≤ insP B nr by grind)]
      rw [hw] at h8 ⊢
      have hlen1 : n < 8 := by simp at h8; omega
      simp only [if_neg hout, if_neg (show ¬ (1 : Int32) = 0 by decide)]
      have hbt := e_Vwm_between σ P d i n nr hP (by omega) (by omega) (by omega) h25 hlen1 (by rw [hB]; grind) (by rw [hA]; grind)
      rw [hbt, bd_def, hA, hB]
      refine ⟨_, rfl, fr_sI (fr_sA Fr.rfl _ _ (by decide)) _ _ (by decide), rfl, ?_⟩
      exact snoc σ Q _ n hn hQ
/-! the whole cut -/
/-- the corners that come of the first i corners -/
def cutN (P : List (Nat → Int32)) (nr : Bool) : Nat → List (Nat → Int32)
  | 0 => []
  | i + 1 => cutN P nr i ++ nwc (P.getD i (fun _ => 0)) (P.getD (if i + 1 = P.length then 0 else i + 1) (fun _ => 0)) nr
def cutL (P : List (Nat → Int32)) (nr : Bool) : List (Nat → Int32) := if (cutN P nr P.length).length < 3 then [] else cutN P nr P.length
theorem nwc_len (A B : Nat → Int32) (nr : Bool) : (nwc A B nr).length = (if 0 ≤ insP A nr then 1 else 0) + (if (0 ≤ insP A nr) = (0 ≤ insP B nr) then 0 else 1) := by
  unfold nwc
  by_cases h1 : 0 ≤ insP A nr
  · by_cases h2 : 0 ≤ insP B nr
    · rw [if_pos h1, if_neg (show ¬ insP B nr < 0 by grind), if_pos h1, if_pos (by simp [h1, h2])]; rfl
    · rw [if_pos h1, if_pos (show insP B nr < 0 by grind), if_pos h1, if_neg (by simp [h1, h2])]; rfl
  · by_cases h2 : 0 ≤ insP B nr
    · rw [if_neg h1, if_pos h2, if_neg h1, if_neg (by simp [h1, h2])]; rfl
    · rw [if_neg h1, if_neg h2, if_neg h1, if_pos (by simp [h1, h2])]; rfl
theorem cutN_mono (P : List (Nat → Int32)) (nr : Bool) (i j : Nat) (h : i ≤ j) : (cutN P nr i).length ≤ (cutN P nr j).length := by
  induction j with
  | zero => have : i = 0 := by omega
            subst this; exact Nat.le_refl _
  | succ j ih =>
    by_cases c : i = j + 1
    · subst c; exact Nat.le_refl _
    · have := ih (by omega)
      simp only [cutN, List.length_append]; omega
theorem cut3 (P : List (Nat → Int32)) (nr : Bool) (h : P.length = 3) : (cutN P nr 3).length ≤ 4 := by
  simp only [cutN, List.length_append, List.length_nil, nwc_len, h]
  simp only [show ¬ (0 + 1 = 3) by decide, show ¬ (0 + 1 + 1 = 3) by decide, show (0 + 1 + 1 + 1 = 3) by decide, if_true, if_false]
  generalize insP (P.getD 0 (fun _ => 0)) nr = a0
  generalize insP (P.getD (0 + 1) (fun _ => 0)) nr = a1
  generalize insP (P.getD (0 + 1 + 1) (fun _ => 0)) nr = a2
  by_cases h0 : 0 ≤ a0 <;> by_cases h1 : 0 ≤ a1 <;> by_cases h2 : 0 ≤ a2 <;> simp [h0, h1, h2]
theorem cut4 (P : List (Nat → Int32)) (nr : Bool) (h : P.length = 4) : (cutN P nr 4).length ≤ 6 := by
  simp only [cutN, List.length_append, List.length_nil, nwc_len, h]
  simp only [show ¬ (0 + 1 = 4) by decide, show ¬ (0 + 1 + 1 = 4) by decide, show ¬ (0 + 1 + 1 + 1 = 4) by decide, show (0 + 1 + 1 + 1 + 1 = 4) by decide, if_true, if_false]
  generalize insP (P.getD 0 (fun _ => 0)) nr = a0
  generalize insP (P.getD (0 + 1) (fun _ => 0)) nr = a1
  generalize insP (P.getD (0 + 1 + 1) (fun _ => 0)) nr = a2
  generalize insP (P.getD (0 + 1 + 1 + 1) (fun _ => 0)) nr = a3
  by_cases h0 : 0 ≤ a0 <;> by_cases h1 : 0 ≤ a1 <;> by_cases h2 : 0 ≤ a2 <;> by_cases h3 : 0 ≤ a3 <;> simp [h0, h1, h2, h3]
theorem cut_le (P : List (Nat → Int32)) (nr : Bool) (h : P.length = 0 ∨ P.length = 3 ∨ P.length = 4) : (cutN P nr P.length).length ≤ 6 ∧ (P.length ≤ 3 → (cutN P nr P.length).length ≤ 4) := by
  rcases h with h | h | h
  · rw [h]; simp [cutN]
  · have := cut3 P nr h
    rw [h]; omega
  · have := cut4 P nr h
    rw [h]; omega
