/-! triangles are cut off -/
def insP (P : Nat → Int32) (nr : Bool) : Int64 := if nr then (P 2).toInt64 + (P 3).toInt64 else (P 3).toInt64 - 256
theorem insP_int (P : Nat → Int32) (nr : Bool) : (insP P nr).toInt = if nr then (P 2).toInt + (P 3).toInt else (P 3).toInt - 256 := by
  have h2 := i_rng (P 2)
  have h3 := i_rng (P 3)
  have z : (256 : Int64).toInt = 256 := rfl
  unfold insP
  cases nr
  · show ((P 3).toInt64 - 256).toInt = (P 3).toInt - 256
    rw [l_sub, l_ext, z]
    · rw [l_ext, z]; omega
    · rw [l_ext, z]; omega
  · show ((P 2).toInt64 + (P 3).toInt64).toInt = (P 2).toInt + (P 3).toInt
    rw [l_add, l_ext, l_ext]
    · rw [l_ext, l_ext]; omega
    · rw [l_ext, l_ext]; omega
theorem insP_rng (P : Nat → Int32) (nr : Bool) : -4294967296 ≤ (insP P nr).toInt ∧ (insP P nr).toInt < 4294967296 := by
  have h2 := i_rng (P 2)
  have h3 := i_rng (P 3)
  rw [insP_int]
  cases nr
  · show _ ≤ (P 3).toInt - 256 ∧ (P 3).toInt - 256 < _; omega
  · show _ ≤ (P 2).toInt + (P 3).toInt ∧ (P 2).toInt + (P 3).toInt < _; omega
theorem insP_ext (P Q : Nat → Int32) (nr : Bool) (h : ∀ k, k < 32 → P k = Q k) : insP P nr = insP Q nr := by
  unfold insP; rw [h 2 (by omega), h 3 (by omega)]
def btf (a b : Int64) : Int64 := fdiv (65536 * a) (a - b)
def btw (I O : Nat → Int32) (f : Int64) (k : Nat) : Int32 := ((I k).toInt64 + (lshr (((O k).toInt64 - (I k).toInt64) * f) 16)).toInt32
/-- the corners that come of one corner and the next -/
def nwc (A B : Nat → Int32) (nr : Bool) : List (Nat → Int32) :=
  if 0 ≤ insP A nr then (if insP B nr < 0 then [A, btw A B (btf (insP A nr) (insP B nr))] else [A]) else (if 0 ≤ insP B nr then [btw B A (btf (insP B nr) (insP A nr))] else [])
theorem lenC32 (σ : Sg) (k : Nat) (h1 : 31 ≤ k) (h2 : k < 47) : lenC σ k = 32 := by
  have : k = 31 ∨ k = 32 ∨ k = 33 ∨ k = 34 ∨ k = 35 ∨ k = 36 ∨ k = 37 ∨ k = 38 ∨ k = 39 ∨ k = 40 ∨ k = 41 ∨ k = 42 ∨ k = 43 ∨ k = 44 ∨ k = 45 ∨ k = 46 := by omega
  rcases this with rfl | rfl | rfl | rfl | rfl | rfl | rfl | rfl | rfl | rfl | rfl | rfl | rfl | rfl | rfl | rfl <;> rfl
theorem e_inside (σ : Sg) (ar : Nat) (nr : Bool) (h1 : 31 ≤ ar) (h2 : ar < 47) : F_Sha_inside σ ar (bI nr) = some (insP (σ.2.2.1 ar) nr) := by
  unfold F_Sha_inside F_Sha_inside_24 insP
  rw [ck_pos h2, lenC32 σ ar h1 h2]
  cases nr
  · rw [if_pos (show bI false = 0 from rfl), ck_pos (by decide)]; rfl
  · rw [if_neg (show ¬ bI true = 0 by decide), ck_pos (by decide), ck_pos (by decide)]; rfl
theorem l_sub_pos (a b : Int64) (ha : 0 ≤ a) (hb : b < 0) (ra : -4294967296 ≤ a.toInt ∧ a.toInt < 4294967296) (rb : -4294967296 ≤ b.toInt ∧ b.toInt < 4294967296) : (a - b).toInt = a.toInt - b.toInt ∧ 0 < a - b ∧ ¬ a - b = 0 ∧ 0 < (a - b).toInt := by
  have z : (0 : Int64).toInt = 0 := rfl
  rw [Int64.le_iff_toInt_le, z] at ha
  rw [Int64.lt_iff_toInt_lt, z] at hb
  have e : (a - b).toInt = a.toInt - b.toInt := by rw [l_sub] <;> omega
  refine ⟨e, ?_, ?_, by omega⟩
  · rw [Int64.lt_iff_toInt_lt, e, z]; omega
  · intro h
    rw [h, z] at e; omega
theorem e_between (σ : Sg) (r0 r1 r2 : Nat) (a b : Int64) (h0 : 31 ≤ r0 ∧ r0 < 47) (h1 : 31 ≤ r1 ∧ r1 < 47) (h2 : 31 ≤ r2 ∧ r2 < 47) (n0 : r0 ≠ r2) (n1 : r1 ≠ r2) (hp : 0 < a - b) (hz : ¬ a - b = 0) :
    F_Sha_between σ r0 r1 a b r2 = some (sA σ r2 (rowset (σ.2.2.1 r2) 0 32 (btw (σ.2.2.1 r0) (σ.2.2.1 r1) (btf a b)))) := by
  unfold F_Sha_between
  rw [ck_pos h0.2, ck_pos h1.2, ck_pos h2.2, if_pos hp, ck_pos hz, lt_def]
  refine fill_loop' (fun n σ v => L_Sha_between_27 n σ r0 r1 r2 (btf a b) v) σ r2 0 32 (btw (σ.2.2.1 r0) (σ.2.2.1 r1) (btf a b)) _ (fun n k hk => ?_) (fun n => ?_) 100000 (by decide)
  · rw [L_Sha_between_27, ck_pos h0.2, ck_pos h1.2, ck_pos h2.2, if_neg (by rw [show (32 : Int32) = Int32.ofNat 32 from rfl, n_le _ _ (by omega) (by omega)]; omega), lenC32 _ r0 h0.1 h0.2, lenC32 _ r1 h1.1 h1.2, lenC32 _ r2 h2.1 h2.2]
    simp only [ck_pos (n_inb k 32 hk (by omega)), n_nat k (by omega), lt, n_succ, sA_sA, sA_3, if_true, if_neg n0, if_neg n1, Nat.zero_add]
    rfl
  · rw [L_Sha_between_27, ck_pos h0.2, ck_pos h1.2, ck_pos h2.2, if_pos (by decide)]
/-- rows that hold corners -/
def RowsC (σ : Sg) (base : Nat) (L : List (Nat → Int32)) : Prop := ∀ j, j < L.length → ∀ k, k < 32 → σ.2.2.1 (base + j) k = L.getD j (fun _ => 0) k
theorem RowsC_snoc (σ σ' : Sg) (base : Nat) (L : List (Nat → Int32)) (A : Nat → Int32) (h : RowsC σ base L) (h1 : ∀ j, j < L.length → σ'.2.2.1 (base + j) = σ.2.2.1 (base + j)) (h2 : ∀ k, k < 32 → σ'.2.2.1 (base + L.length) k = A k) : RowsC σ' base (L ++ [A]) := by
  intro j hj k hk
  by_cases c : j < L.length
  · rw [h1 j c, h j c k hk]
    simp [List.getD_eq_getElem?_getD, List.getElem?_append_left c]
  · have : j = L.length := by simp at hj; omega
    subst this
    rw [h2 k hk]
    simp [List.getD_eq_getElem?_getD]
/-- what a cut changes in the class: the rows that are not those it reads -/
def pSp (s : Nat) : Nat → Nat → Bool := fun c k => c == 2 && (31 + 8 * s ≤ k && k < 39 + 8 * s)
theorem cpk (σ : Sg) (a b : Nat) (ha : lenC σ a = 32) (hb : lenC σ b = 32) : cpok 0 0 32 (lenC σ a) (lenC σ b) := by
  rw [ha, hb]; decide
theorem e_cutstep (P Q : List (Nat → Int32)) (nr : Bool) (σ : Sg) (c s i m n f : Nat) (hm : m ≤ 8) (hi : i < m) (hPm : P.length = m) (hn : Q.length = n) (h16 : σ.1 16 = Int32.ofNat m) (h5 : σ.2.2.2.2 5 = c) (h6 : σ.2.2.2.2 6 = s) (hc : c < 2) (hs : s < 2) (hcs : c ≠ s) (hP : RowsC σ (31 + 8 * c) P) (hQ : RowsC σ (31 + 8 * s) Q)
    (h8 : n + (nwc (P.getD i (fun _ => 0)) (P.getD (if i + 1 = m then 0 else i + 1) (fun _ => 0)) nr).length ≤ 8) :
    ∃ σ', L_Sha_cutBy_4 (f + 1) σ (bI nr) (Int32.ofNat n) (Int32.ofNat i) = L_Sha_cutBy_4 f σ' (bI nr) (Int32.ofNat (n + (nwc (P.getD i (fun _ => 0)) (P.getD (if i + 1 = m then 0 else i + 1) (fun _ => 0)) nr).length)) (Int32.ofNat (i + 1)) ∧ Fr (pSp s) σ σ' ∧ RowsC σ' (31 + 8 * s) (Q ++ nwc (P.getD i (fun _ => 0)) (P.getD (if i + 1 = m then 0 else i + 1) (fun _ => 0)) nr) := by
  generalize hd : (if i + 1 = m then 0 else i + 1) = d at *
  have hdm : d < m := by rw [← hd]; split <;> omega
  generalize hA : P.getD i (fun _ => 0) = A at *
  generalize hB : P.getD d (fun _ => 0) = B at *
  have rA : ∀ k, k < 32 → σ.2.2.1 (31 + 8 * c + i) k = A k := fun k hk => by rw [← hA]; exact hP i (by omega) k hk
  have rB : ∀ k, k < 32 → σ.2.2.1 (31 + 8 * c + d) k = B k := fun k hk => by rw [← hB]; exact hP d (by omega) k hk
  have f174 : ∀ (τ : Sg) (x : Nat), F_Sha_cutBy_174 (L_Sha_cutBy_4 f) τ (bI nr) (Int32.ofNat x) (Int32.ofNat i) = L_Sha_cutBy_4 f τ (bI nr) (Int32.ofNat x) (Int32.ofNat (i + 1)) := fun τ x => by
    unfold F_Sha_cutBy_174; rw [lt_def, n_succ]
  have le8 : ∀ x : Nat, x < 8 → ¬ (8 ≤ Int32.ofNat x) := fun x hx h => by have := (n_le 8 x (by omega) (by omega)).mp h; omega
  have iA : insP (σ.2.2.1 (31 + 8 * c + i)) nr = insP A nr := insP_ext _ _ _ rA
  have iB : insP (σ.2.2.1 (31 + 8 * c + d)) nr = insP B nr := insP_ext _ _ _ rB
  have raA := insP_rng A nr
  have raB := insP_rng B nr
  have start : L_Sha_cutBy_4 (f + 1) σ (bI nr) (Int32.ofNat n) (Int32.ofNat i) = F_Sha_cutBy_41 (L_Sha_cutBy_4 f) σ (bI nr) (Int32.ofNat n) (Int32.ofNat i) (31 + 8 * c + i) c (Int32.ofNat d) := by
    rw [L_Sha_cutBy_4, h16, if_neg (by rw [n_le _ _ (by omega) (by omega)]; omega)]
    simp only [lt, h5, ck_pos hc, ck_pos (n_inb i 8 (by omega) (by omega)), n_nat i (by omega), ck_pos (show 31 + 8 * c + i < 47 by omega), n_succ]
    by_cases e : i + 1 = m
    · rw [if_pos (by rw [n_le _ _ (by omega) (by omega)]; omega), ← hd, if_pos e]; rfl
    · rw [if_neg (by rw [n_le _ _ (by omega) (by omega)]; omega), ← hd, if_neg e]
  rw [start]
  unfold F_Sha_cutBy_41
  simp only [lt, h6, ck_pos hs, ck_pos hc, ck_pos (show 31 + 8 * c + i < 47 by omega), ck_pos (n_inb d 8 (by omega) (by omega)), n_nat d (by omega), ck_pos (show 31 + 8 * c + d < 47 by omega), e_inside σ (31 + 8 * c + i) nr (by omega) (by omega), e_inside σ (31 + 8 * c + d) nr (by omega) (by omega), bd_def, iA, iB]
  by_cases hin : 0 ≤ insP A nr
  · have hlen1 : n < 8 := by
      unfold nwc at h8; rw [if_pos hin] at h8
      split at h8 <;> simp at h8 <;> omega
    rw [if_neg (show ¬ insP A nr < 0 by grind), if_neg (le8 n hlen1)]
    simp only [ck_pos (n_inb n 8 hlen1 (by omega)), n_nat n (by omega), ck_pos (show 31 + 8 * s + n < 47 by omega), ck_pos (cpk σ _ _ (lenC32 σ (31 + 8 * c + i) (by omega) (by omega)) (lenC32 σ (31 + 8 * s + n) (by omega) (by omega))), n_succ]
    generalize hσ1 : sA σ (31 + 8 * s + n) (va_cpy (σ.2.2.1 (31 + 8 * c + i)) (σ.2.2.1 (31 + 8 * s + n)) (0 : Int32).toNatClampNeg (0 : Int32).toNatClampNeg (32 : Int32).toNatClampNeg) = σ1
    have F1 : Fr (pSp s) σ σ1 := by rw [← hσ1]; exact fr_sA Fr.rfl _ _ (by simp [pSp]; omega)
    have ne1 : ∀ k, k ≠ 31 + 8 * s + n → σ1.2.2.1 k = σ.2.2.1 k := fun k hk => by rw [← hσ1, sA_3, if_neg hk]
    have row1 : ∀ k, k < 32 → σ1.2.2.1 (31 + 8 * s + n) k = A k := fun k hk => by
      rw [← hσ1, sA_3, if_pos rfl]
      show (if 0 ≤ k ∧ k < 0 + 32 then σ.2.2.1 (31 + 8 * c + i) (0 + (k - 0)) else _) = _
      rw [if_pos (by omega), show 0 + (k - 0) = k by omega]; exact rA k hk
    have R1 : RowsC σ1 (31 + 8 * s) (Q ++ [A]) := RowsC_snoc σ σ1 _ Q A hQ (fun j hj => ne1 _ (by omega)) (fun k hk => by rw [hn]; exact row1 k hk)
    unfold F_Sha_cutBy_91
    rw [ck_pos (show 31 + 8 * c + i < 47 by omega), ck_pos (show 31 + 8 * c + d < 47 by omega), if_neg (show ¬ insP A nr < 0 by grind)]
    by_cases hout : insP B nr < 0
    · have hw : nwc A B nr = [A, btw A B (btf (insP A nr) (insP B nr))] := by unfold nwc; rw [if_pos hin, if_pos hout]
      rw [hw] at h8 ⊢
      have hlen2 : n + 1 < 8 := by simp at h8; omega
      obtain ⟨e1, e2, e3, e4⟩ := l_sub_pos (insP A nr) (insP B nr) hin hout raA raB
      rw [if_neg (show ¬ 0 ≤ insP B nr by grind), if_neg (le8 (n + 1) hlen2)]
      have h6' : σ1.2.2.2.2 6 = s := by rw [← hσ1]; exact h6
      simp only [lt, h6', ck_pos hs, ck_pos (n_inb (n + 1) 8 hlen2 (by omega)), n_nat (n + 1) (by omega), ck_pos (show 31 + 8 * s + (n + 1) < 47 by omega), n_succ]
      rw [e_between σ1 _ _ _ _ _ ⟨by omega, by omega⟩ ⟨by omega, by omega⟩ ⟨by omega, by omega⟩ (by omega) (by omega) e2 e3, bd_def, f174]
      refine ⟨_, rfl, fr_sA F1 _ _ (by simp [pSp]; omega), ?_⟩
      rw [show (Q ++ [A, btw A B (btf (insP A nr) (insP B nr))]) = (Q ++ [A]) ++ [btw A B (btf (insP A nr) (insP B nr))] by simp]
      refine RowsC_snoc σ1 _ _ (Q ++ [A]) _ R1 (fun j hj => ?_) (fun k hk => ?_)
      · rw [sA_3, if_neg (by simp at hj; omega)]
      · have hl : (Q ++ [A]).length = n + 1 := by simp [hn]
        rw [hl, sA_3, if_pos rfl, rowset_get0 _ _ _ _ hk]
        unfold btw
        rw [ne1 _ (by omega), ne1 _ (by omega), rA k hk, rB k hk]
    · have hw : nwc A B nr = [A] := by unfold nwc; rw [if_pos hin, if_neg hout]
      rw [hw]
      rw [if_pos (show 0 ≤ insP B nr by grind)]
      unfold F_Sha_cutBy_134
      rw [ck_pos (show 31 + 8 * c + i < 47 by omega), ck_pos (show 31 + 8 * c + d < 47 by omega), if_pos hin, f174]
      exact ⟨σ1, rfl, F1, R1⟩
  · rw [if_pos (show insP A nr < 0 by grind)]
    unfold F_Sha_cutBy_91
    rw [ck_pos (show 31 + 8 * c + i < 47 by omega), ck_pos (show 31 + 8 * c + d < 47 by omega), if_pos (show insP A nr < 0 by grind)]
    unfold F_Sha_cutBy_134
    rw [ck_pos (show 31 + 8 * c + i < 47 by omega), ck_pos (show 31 + 8 * c + d < 47 by omega), if_neg hin]
    by_cases hout : insP B nr < 0
    · have hw : nwc A B nr = [] := by unfold nwc; rw [if_neg hin, if_neg (show ¬ 0 ≤ insP B nr by grind)]
      rw [hw]
      rw [if_pos hout, f174]
      refine ⟨σ, rfl, Fr.rfl, ?_⟩
      rw [List.append_nil]; exact hQ
    · have hw : nwc A B nr = [btw B A (btf (insP B nr) (insP A nr))] := by unfold nwc; rw [if_neg hin, if_pos (show 0 ≤ insP B nr by grind)]
      rw [hw] at h8 ⊢
      have hlen1 : n < 8 := by simp at h8; omega
      obtain ⟨e1, e2, e3, e4⟩ := l_sub_pos (insP B nr) (insP A nr) (by grind) (by grind) raB raA
      rw [if_neg hout, if_neg (le8 n hlen1)]
      simp only [lt, h6, ck_pos hs, ck_pos (n_inb n 8 hlen1 (by omega)), n_nat n (by omega), ck_pos (show 31 + 8 * s + n < 47 by omega), n_succ]
      rw [e_between σ _ _ _ _ _ ⟨by omega, by omega⟩ ⟨by omega, by omega⟩ ⟨by omega, by omega⟩ (by omega) (by omega) e2 e3, bd_def, f174]
      refine ⟨_, rfl, fr_sA Fr.rfl _ _ (by simp [pSp]; omega), ?_⟩
      refine RowsC_snoc σ _ _ Q _ hQ (fun j hj => ?_) (fun k hk => ?_)
      · rw [sA_3, if_neg (by omega)]
      · rw [hn, sA_3, if_pos rfl, rowset_get0 _ _ _ _ hk]
        unfold btw
        rw [rA k hk, rB k hk]
