/-! beginning anew, on both sides -/
def pNe : Nat → Nat → Bool := fun c k => (c == 0 && ((2 ≤ k && k ≤ 11) || k == 15 || 22 ≤ k)) || (c == 1 && k == 0) || (c == 2 && (k == 1 || k == 6 || k == 7)) || (c == 4 && k == 1)
def qNe : Nat → Nat → Bool := fun c k => (c == 0 && (k == 0 || k == 7 || (10 ≤ k && k ≤ 19))) || (c == 1 && k == 0) || (c == 2 && (k == 1 || k == 2 || k == 4))
theorem Bas.neu {σ σ' τ τ' : Sg} {w h : Nat} (a : Bas σ τ w h) (hs : Fr pNe σ σ') (ht : Fr qNe τ τ') (kok : KOK (σ'.2.2.1 1)) (kep : KepR (σ'.2.2.1 1) τ') (oq : τ'.1 18 = σ'.1 15) (oqr : rg (σ'.1 15) (-1) 7) (pr1 : PrR σ' τ' 0 (σ.2.2.2.2 2) 1120 5) (pr2 : PrR σ' τ' 1 (σ.2.2.2.2 3) 1280 6) (wrk : τ'.2.1 0 = σ'.2.1 0) : Bas σ' τ' w h := by
  refine ⟨a.pic.tr hs ht (by decide) (by decide), ?_, kok, kep, ?_, ?_, ?_, ?_, oq, oqr, ?_, ?_, ?_, ?_, ?_, ?_, ?_, ?_, ?_, wrk⟩
  · rw [ht.2.2.1 0 rfl, hs.2.2.1 0 rfl]; exact a.mem
  · rw [ht.1 1 rfl]; exact a.mw
  · rw [ht.1 2 rfl]; exact a.mh
  · rw [ht.1 8 rfl]; exact a.cw
  · rw [ht.1 9 rfl]; exact a.ch
  · rw [hs.2.2.1 10 rfl]; exact a.zer
  · rw [ht.2.2.1 56 rfl, hs.2.2.1 29 rfl]; exact a.cnt
  · rw [ht.2.2.1 55 rfl, hs.2.2.1 30 rfl]; exact a.qry
  · rw [hs.2.2.2.2 5 rfl, hs.2.2.2.2 6 rfl]; exact a.n56
  · rw [hs.2.2.2.2 2 rfl, hs.2.2.2.2 3 rfl, hs.2.2.2.2 4 rfl]; exact a.ids
  · rw [hs.2.2.2.2 2 rfl]; exact pr1
  · rw [hs.2.2.2.2 3 rfl]; exact pr2
  · rw [ht.1 3 rfl, hs.1 12 rfl]; exact a.fau
  · rw [ht.1 4 rfl, hs.1 13 rfl]; exact a.fap
/-- the programs that stand stay -/
theorem Bas.prs {σ σ' τ τ' : Sg} {w h : Nat} (a : Bas σ τ w h) (hs : Fr pNe σ σ') (ht : Fr qNe τ τ') (h0 : ∀ k, 22 ≤ k → σ'.1 k = σ.1 k) (h4 : τ'.2.2.1 4 = τ.2.2.1 4) : PrR σ' τ' 0 (σ.2.2.2.2 2) 1120 5 ∧ PrR σ' τ' 1 (σ.2.2.2.2 3) 1280 6 := by
  have I0 : ∀ i, i < 3 → σ'.1 (22 + 3 * i) = σ.1 (22 + 3 * i) ∧ σ'.1 (24 + 3 * i) = σ.1 (24 + 3 * i) ∧ σ'.2.2.1 (21 + i) = σ.2.2.1 (21 + i) ∧ σ'.1 (23 + 3 * i) = σ.1 (23 + 3 * i) := by
    intro i hi
    have : i = 0 ∨ i = 1 ∨ i = 2 := by omega
    rcases this with rfl | rfl | rfl <;> exact ⟨h0 _ (by omega), h0 _ (by omega), hs.2.2.1 _ rfl, h0 _ (by omega)⟩
  have b1 := I0 _ a.ids.1.1
  have b2 := I0 _ a.ids.1.2.1
  exact ⟨a.pr1.tr b1.1 b1.2.1 b1.2.2.1 b1.2.2.2 (ht.2.2.1 _ rfl) (ht.2.2.1 _ rfl) (ht.1 _ rfl) (by rw [h4]) (ht.1 _ rfl), a.pr2.tr b2.1 b2.2.1 b2.2.2.1 b2.2.2.2 (ht.2.2.1 _ rfl) (ht.2.2.1 _ rfl) (ht.1 _ rfl) (by rw [h4]) (ht.1 _ rfl)⟩
/-- what is kept when nothing is told -/
def ktold (h : Nat → Int32) : Nat → Int32 := upd (upd (upd (upd (upd (upd (upd (upd (upd (upd (upd (upd (upd (upd h 2 1) 3 1) 5 16777215) 8 (-1)) 173 1) 178 1) 183 1) 188 1) 190 (-1)) 192 (-1)) 199 (-1)) 210 (-1)) 213 (-1)) 214 15
def Ag (n : Nat) (f g : Nat → Int32) : Prop := ∀ q, q < n → f q = g q
theorem Ag.up {n : Nat} {f g : Nat → Int32} (h : Ag n f g) (k : Nat) (v : Int32) : Ag n (upd f k v) (upd g k v) := by
  intro q hq
  by_cases c : q = k
  · subst c; rw [upd_eq, upd_eq]
  · rw [upd_ne _ _ _ _ c, upd_ne _ _ _ _ c]; exact h q hq
theorem Ag.zero (n : Nat) (f : Nat → Int32) : Ag n (rowset f 0 n (fun _ => 0)) (fun _ => 0) := fun q hq => rowset_get0 f n _ q hq
theorem ktold_ag {n : Nat} {f g : Nat → Int32} (h : Ag n f g) : Ag n (ktold f) (ktold g) := by
  unfold ktold
  exact ((((((((((((((h.up 2 1).up 3 1).up 5 16777215).up 8 (-1)).up 173 1).up 178 1).up 183 1).up 188 1).up 190 (-1)).up 192 (-1)).up 199 (-1)).up 210 (-1)).up 213 (-1)).up 214 15)
theorem e_forget (σ : Sg) : F_Told_forget σ = some (sA σ 1 (ktold (rowset (σ.2.2.1 1) 0 245 (fun _ => 0)))) := by
  have h : L_Arr_fill_5 100000 σ 1 0 0 (Int32.ofNat 245) = some (sA σ 1 (rowset (σ.2.2.1 1) 0 245 (fun _ => 0))) := by
    refine fill_loop (fun n σ w => L_Arr_fill_5 n σ 1 0 w (Int32.ofNat 245)) σ 1 0 245 0 (fun _ => 0) _ (fun n k hk => ?_) (fun n => ?_) 100000 (by decide)
    · show L_Arr_fill_5 (n + 1) _ 1 0 (Int32.ofNat (0 + k)) (Int32.ofNat 245) = L_Arr_fill_5 n _ 1 0 (Int32.ofNat (0 + (k + 1))) (Int32.ofNat 245)
      rw [Nat.zero_add, Nat.zero_add, L_Arr_fill_5, ck_pos (by decide), if_neg (fun e => absurd ((n_le 245 k (by omega) (by omega)).mp e) (by omega)), lenC_sA, show lenC σ 1 = 245 from rfl, ck_pos (n_inb k 245 hk (by omega)), lt_def, lt_def, n_nat k (by omega), n_succ, sA_3, if_pos rfl, sA_sA]
    · show L_Arr_fill_5 (n + 1) _ 1 0 (Int32.ofNat (0 + 245)) (Int32.ofNat 245) = _
      rw [L_Arr_fill_5, ck_pos (by decide), if_pos (by decide)]
  unfold F_Told_forget F_Arr_fill
  rw [ck_pos (by decide), lt_def, show lenC σ 1 = 245 from rfl, h, bd_def, lt_def, lt_def, lt_def, lt_def, show (100000 : Nat) = 99995 + 1 + 1 + 1 + 1 + 1 from rfl]
  rw [L_Told_forget_40, if_neg (by decide), ck_pos (by decide), lt_def, lt_def]
  rw [L_Told_forget_40, if_neg (by decide), ck_pos (by decide), lt_def, lt_def]
  rw [L_Told_forget_40, if_neg (by decide), ck_pos (by decide), lt_def, lt_def]
  rw [L_Told_forget_40, if_neg (by decide), ck_pos (by decide), lt_def, lt_def]
  rw [L_Told_forget_40, if_pos (by decide), lt_def, lt_def, lt_def, lt_def, lt_def, lt_def]
  simp only [sA_3, if_true, sA_sA]
  rfl
/-! the reference's rows when nothing is told -/
def mnL : List Nat := [0, 0, 1, 1, 8, 32, 0, 1, 1, 4, 1, 2, 1, 1, 1, 1, 1, 0, 0, 0, 0, 0, 0, 0, 4, 4]
def cnL : List Nat := [0, 4, 6, 4, 5, 5, 3, 2, 2, 6, 2, 8, 6, 1, 1, 1, 2, 3, 5, 2, 6, 2, 0, 1, 4, 5]
theorem t_mny : ∀ k, k < 26 → F_Cmd_many (Int32.ofNat k) = some (Int32.ofNat (mnL.getD k 0)) ∧ mnL.getD k 0 ≤ 32 := by decide +kernel
theorem t_rwn : ∀ k, k < 26 → ∀ n, n < 32 → F_Cmd_rowOf (Int32.ofNat k) (Int32.ofNat n) = some (Int32.ofNat (160 * k + n * cnL.getD k 0)) := by decide +kernel
theorem t_rwb : ∀ k, k < 26 → ∀ n, n < 32 → n < mnL.getD k 0 → 160 * k + n * cnL.getD k 0 < 4160 := by decide +kernel
def rapp (kind : Nat) : Nat → Nat → (Nat → Int32) → (Nat → Int32)
  | 0, _, h => h
  | r + 1, n, h => rapp kind r (n + 1) (upd h (160 * kind + n * cnL.getD kind 0) (Int32.ofNat n))
def rfin : Nat → Nat → (Nat → Int32) → (Nat → Int32)
  | 0, _, h => h
  | r + 1, kind, h => rfin r (kind + 1) (if mnL.getD kind 0 ≤ 1 then h else rapp kind (mnL.getD kind 0) 0 h)
theorem rapp_ag (kind : Nat) : ∀ (r n : Nat) (f g : Nat → Int32), Ag 4160 f g → Ag 4160 (rapp kind r n f) (rapp kind r n g) := by
  intro r
  induction r with
  | zero => intro n f g h; exact h
  | succ r ih => intro n f g h; exact ih _ _ _ (h.up _ _)
theorem rfin_ag : ∀ (r kind : Nat) (f g : Nat → Int32), Ag 4160 f g → Ag 4160 (rfin r kind f) (rfin r kind g) := by
  intro r
  induction r with
  | zero => intro n f g h; exact h
  | succ r ih =>
    intro kind f g h
    unfold rfin
    by_cases c : mnL.getD kind 0 ≤ 1
    · rw [if_pos c, if_pos c]; exact ih _ _ _ h
    · rw [if_neg c, if_neg c]; exact ih _ _ _ (rapp_ag _ _ _ _ _ h)
theorem e_in32 (rc : Sg → Int32 → Option Sg) (σ : Sg) (kind : Nat) (hk : kind < 26) (h1 : ¬ mnL.getD kind 0 ≤ 1) : ∀ (r n fuel : Nat) (h : Nat → Int32), n + r = mnL.getD kind 0 → r < fuel → L_Cmd_nothingTold_32 rc fuel (sA σ 4 h) (Int32.ofNat kind) (Int32.ofNat n) = rc (sA σ 4 (rapp kind r n h)) (Int32.ofNat (kind + 1)) := by
  have t1 := t_mny kind hk
  intro r
  induction r with
  | zero =>
    intro n fuel h hn hf
    obtain ⟨f, rfl⟩ : ∃ f, fuel = f + 1 := ⟨fuel - 1, by omega⟩
    rw [L_Cmd_nothingTold_32, t1.1, bd_def, if_pos ((n_le _ _ (by omega) (by omega)).mpr (by omega))]
    unfold F_Cmd_nothingTold_65 rapp
    rw [lt_def, n_succ]
  | succ r ih =>
    intro n fuel h hn hf
    obtain ⟨f, rfl⟩ : ∃ f, fuel = f + 1 := ⟨fuel - 1, by omega⟩
    rw [L_Cmd_nothingTold_32, t1.1, bd_def, if_neg (fun e => absurd ((n_le _ _ (by omega) (by omega)).mp e) (by omega)), bd_def, if_neg (show ¬ Int32.ofNat (mnL.getD kind 0) ≤ 1 from fun e => absurd ((n_le _ 1 (by omega) (by omega)).mp e) h1), t_rwn kind hk n (by omega), bd_def, ck_pos (n_inb _ _ (t_rwb kind hk n (by omega) (by omega)) (by have := t_rwb kind hk n (by omega) (by omega); omega)), lt_def, lt_def, n_nat _ (by have := t_rwb kind hk n (by omega) (by omega); omega), n_succ, sA_3, if_pos rfl, sA_sA, ih (n + 1) f _ (by omega) (by omega)]
    rfl
theorem e_24 (σ : Sg) : ∀ (r kind fuel : Nat) (h : Nat → Int32), kind + r = 26 → L_Cmd_nothingTold_24 (fuel + 1 + r) (sA σ 4 h) (Int32.ofNat kind) = L_Cmd_nothingTold_24 (fuel + 1) (sA σ 4 (rfin r kind h)) (Int32.ofNat 26) := by
  intro r
  induction r with
  | zero =>
    intro kind fuel h hk
    have : kind = 26 := by omega
    subst this
    rfl
  | succ r ih =>
    intro kind fuel h hk
    have t1 := t_mny kind (by omega)
    rw [show fuel + 1 + (r + 1) = (fuel + 1 + r) + 1 by omega, L_Cmd_nothingTold_24, if_neg (show ¬ (26 : Int32) ≤ Int32.ofNat kind from fun e => absurd ((n_le 26 kind (by omega) (by omega)).mp e) (by omega))]
    by_cases c : mnL.getD kind 0 ≤ 1
    · have : L_Cmd_nothingTold_32 (L_Cmd_nothingTold_24 (fuel + 1 + r)) 100000 (sA σ 4 h) (Int32.ofNat kind) 0 = L_Cmd_nothingTold_24 (fuel + 1 + r) (sA σ 4 h) (Int32.ofNat (kind + 1)) := by
        rw [show (100000 : Nat) = 99999 + 1 from rfl, L_Cmd_nothingTold_32, t1.1, bd_def]
        by_cases c0 : mnL.getD kind 0 = 0
        · rw [c0, if_pos (by decide)]
          unfold F_Cmd_nothingTold_65
          rw [lt_def, n_succ]
        · have c1 : mnL.getD kind 0 = 1 := by omega
          rw [c1, if_neg (by decide), bd_def, if_pos (by decide)]
          unfold F_Cmd_nothingTold_65
          rw [lt_def, n_succ]
      rw [this, ih (kind + 1) fuel h (by omega)]
      show _ = L_Cmd_nothingTold_24 (fuel + 1) (sA σ 4 (rfin r (kind + 1) (if mnL.getD kind 0 ≤ 1 then h else rapp kind (mnL.getD kind 0) 0 h))) (Int32.ofNat 26)
      rw [if_pos c]
    · rw [show (0 : Int32) = Int32.ofNat 0 from rfl, e_in32 (L_Cmd_nothingTold_24 (fuel + 1 + r)) σ kind (by omega) c (mnL.getD kind 0) 0 100000 h (by omega) (by omega), ih (kind + 1) fuel _ (by omega)]
      show _ = L_Cmd_nothingTold_24 (fuel + 1) (sA σ 4 (rfin r (kind + 1) (if mnL.getD kind 0 ≤ 1 then h else rapp kind (mnL.getD kind 0) 0 h))) (Int32.ofNat 26)
      rw [if_neg c]
def mtold (f : Nat → Int32) : Nat → Int32 := upd (upd (upd (upd (upd (upd (upd (upd (upd (upd (upd (upd (upd (upd (upd (upd (rfin 26 0 f) 322 1) 323 1) 325 16777215) 482 (-1)) 1120 (-1)) 1280 (-1)) 1600 (-1)) 1924 (-1)) 2240 (-1)) 2400 15) 1444 1) 1450 1) 1456 1) 1462 1) 1761 (-1)) 1769 (-1)
theorem mtold_ag {f g : Nat → Int32} (h : Ag 4160 f g) : Ag 4160 (mtold f) (mtold g) := by
  unfold mtold
  exact ((((((((((((((((rfin_ag 26 0 _ _ h).up 322 1).up 323 1).up 325 16777215).up 482 (-1)).up 1120 (-1)).up 1280 (-1)).up 1600 (-1)).up 1924 (-1)).up 2240 (-1)).up 2400 15).up 1444 1).up 1450 1).up 1456 1).up 1462 1).up 1761 (-1)).up 1769 (-1)
theorem e_told (σ : Sg) : F_Cmd_nothingTold σ = some (sA σ 4 (mtold (rowset (σ.2.2.1 4) 0 4160 (fun _ => 0)))) := by
  unfold F_Cmd_nothingTold
  refine fill_loop (fun n σ w => L_Cmd_nothingTold_2 n σ w) σ 4 0 4160 0 (fun _ => 0) _ (fun n k hk => ?_) (fun n => ?_) 100000 (by decide)
  · show L_Cmd_nothingTold_2 (n + 1) _ (Int32.ofNat (0 + k)) = L_Cmd_nothingTold_2 n _ (Int32.ofNat (0 + (k + 1)))
    rw [Nat.zero_add, Nat.zero_add, L_Cmd_nothingTold_2, if_neg (show ¬ (4160 : Int32) ≤ Int32.ofNat k from fun e => absurd ((n_le 4160 k (by omega) (by omega)).mp e) (by omega)), ck_pos (n_inb k 4160 hk (by omega)), lt_def, lt_def, n_nat k (by omega), n_succ, sA_3, if_pos rfl, sA_sA]
  · show L_Cmd_nothingTold_2 (n + 1) _ (Int32.ofNat (0 + 4160)) = _
    generalize rowset (σ.2.2.1 4) 0 4160 (fun _ => 0) = hh
    rw [L_Cmd_nothingTold_2, if_pos (by decide), show (100000 : Nat) = 99973 + 1 + 26 from rfl, show (0 : Int32) = Int32.ofNat 0 from rfl, e_24 σ 26 0 99973 hh (by omega)]
    generalize hz : rfin 26 0 hh = zz
    rw [L_Cmd_nothingTold_24, if_pos (by decide)]
    have r2 : F_Cmd_rowOf 2 0 = some 320 := by decide
    have r3 : F_Cmd_rowOf 3 0 = some 480 := by decide
    have r7 : F_Cmd_rowOf 7 0 = some 1120 := by decide
    have r8 : F_Cmd_rowOf 8 0 = some 1280 := by decide
    have r10 : F_Cmd_rowOf 10 0 = some 1600 := by decide
    have r12 : F_Cmd_rowOf 12 0 = some 1920 := by decide
    have r14 : F_Cmd_rowOf 14 0 = some 2240 := by decide
    have r15 : F_Cmd_rowOf 15 0 = some 2400 := by decide
    rw [r2, bd_def, ck_pos (by decide), lt_def, bd_def, ck_pos (by decide), lt_def, bd_def, ck_pos (by decide), lt_def, r3, bd_def, ck_pos (by decide), lt_def, r7, bd_def, ck_pos (by decide), lt_def, r8, bd_def, ck_pos (by decide), lt_def, r10, bd_def, ck_pos (by decide), lt_def, r12, bd_def, ck_pos (by decide), lt_def, r14, bd_def, ck_pos (by decide), lt_def, r15, bd_def, ck_pos (by decide), lt_def]
    have q0 : F_Cmd_rowOf 9 0 = some 1440 := by decide
    have q1 : F_Cmd_rowOf 9 (0 + 1) = some 1446 := by decide
    have q2 : F_Cmd_rowOf 9 (0 + 1 + 1) = some 1452 := by decide
    have q3 : F_Cmd_rowOf 9 (0 + 1 + 1 + 1) = some 1458 := by decide
    have p0 : F_Cmd_rowOf 11 0 = some 1760 := by decide
    have p1 : F_Cmd_rowOf 11 (0 + 1) = some 1768 := by decide
    rw [show (100000 : Nat) = 99995 + 1 + 1 + 1 + 1 + 1 from rfl]
    rw [L_Cmd_nothingTold_201, if_neg (by decide), q0, bd_def, ck_pos (by decide), lt_def, lt_def]
    rw [L_Cmd_nothingTold_201, if_neg (by decide), q1, bd_def, ck_pos (by decide), lt_def, lt_def]
    rw [L_Cmd_nothingTold_201, if_neg (by decide), q2, bd_def, ck_pos (by decide), lt_def, lt_def]
    rw [L_Cmd_nothingTold_201, if_neg (by decide), q3, bd_def, ck_pos (by decide), lt_def, lt_def]
    rw [L_Cmd_nothingTold_201, if_pos (by decide), show (100000 : Nat) = 99997 + 1 + 1 + 1 from rfl]
    rw [L_Cmd_nothingTold_228, if_neg (by decide), p0, bd_def, ck_pos (by decide), lt_def, lt_def]
    rw [L_Cmd_nothingTold_228, if_neg (by decide), p1, bd_def, ck_pos (by decide), lt_def, lt_def]
    rw [L_Cmd_nothingTold_228, if_pos (by decide)]
    simp only [sA_3, if_true, sA_sA]
    subst hz
    rfl
theorem km_lt : ∀ j, j < 245 → km j < 4160 := by decide +kernel
theorem t_told : ∀ j, j < 245 → mtold (fun _ => 0) (km j) = ktold (fun _ => 0) j := by decide +kernel
theorem t_told2 : mtold (fun _ => 0) 1120 = -1 ∧ mtold (fun _ => 0) 1280 = -1 := by decide +kernel
theorem t_kok0 : ∀ j, j < 245 → klo j ≤ (ktold (fun _ => 0) j).toInt ∧ (ktold (fun _ => 0) j).toInt ≤ khi j := by decide +kernel
theorem told_kok (f : Nat → Int32) : KOK (ktold (rowset f 0 245 (fun _ => 0))) := fun j hj => by
  rw [ktold_ag (Ag.zero 245 f) j hj]; exact t_kok0 j hj
theorem told_kep (f g : Nat → Int32) (j : Nat) (hj : j < 245) : mtold (rowset g 0 4160 (fun _ => 0)) (km j) = ktold (rowset f 0 245 (fun _ => 0)) j := by
  rw [mtold_ag (Ag.zero 4160 g) _ (km_lt j hj), ktold_ag (Ag.zero 245 f) j hj]; exact t_told j hj
theorem told_pr (g : Nat → Int32) : mtold (rowset g 0 4160 (fun _ => 0)) 1120 = -1 ∧ mtold (rowset g 0 4160 (fun _ => 0)) 1280 = -1 := by
  rw [mtold_ag (Ag.zero 4160 g) _ (by decide), mtold_ag (Ag.zero 4160 g) _ (by decide)]; exact t_told2
