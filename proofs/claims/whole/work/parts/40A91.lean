/-! clearing all, showing, summing, copying back -/
theorem e_clear (σ τ : Sg) (w h : Nat) (a : PicR σ τ w h) (t : TesR σ τ) (wh col dep ste : Int32) (hw : rg wh 0 7) (hd : rg dep 0 16777215) (hs : rg ste 0 255) :
    ∃ σ' τ' mm, F_Pic_clear σ wh col dep ste = some σ' ∧ F_Ptm_clear τ wh col dep ste = some (τ', mm) ∧ PicR σ' τ' w h ∧ Fr pDC σ σ' ∧ Fr pDM τ τ' := by
  obtain ⟨wn, hwn, rfl⟩ := rg_n (b := 7) hw (by omega)
  obtain ⟨m, m1, m2⟩ := rg_n (b := 15) t.mar (by omega)
  obtain ⟨b, b1, b2⟩ := e_channelBits m (by omega)
  have w1 := a.w1
  have h1 := a.h1
  have eC : F_Pic_clear σ (Int32.ofNat wn) col dep ste = L_Pic_clear_79 100000 σ (Int32.ofNat wn) col dep ste b (cldC σ (Int32.ofNat wn)) (clsC σ) 0 := by
    unfold F_Pic_clear F_Pic_clear_46 F_Pic_clear_42 F_Pic_clear_47 F_Pic_clear_74 cldC clsC
    rw [m2, b1, bd_def]
    by_cases d0 : (0 : Int32) ≤ σ.2.2.1 1 192
    · simp only [if_pos d0]
      by_cases d : (Int32.ofNat wn &&& 2) = 0
      · simp only [if_pos d]
      · simp only [if_neg d]
        by_cases d1 : σ.2.2.1 1 190 < 0
        · simp only [if_pos d1]
        · simp only [if_neg d1]
          by_cases d2 : σ.2.2.1 1 191 = 1
          · simp only [if_pos d2]
          · simp only [if_neg d2]
    · simp only [if_neg d0]
      by_cases d : (Int32.ofNat wn &&& 2) = 0
      · simp only [if_pos d]
      · simp only [if_neg d]
        by_cases d1 : σ.2.2.1 1 190 < 0
        · simp only [if_pos d1]
        · simp only [if_neg d1]
          by_cases d2 : σ.2.2.1 1 191 = 1
          · simp only [if_pos d2]
          · simp only [if_neg d2]
  have fz : Fr pDM τ (sI τ 28 0) := fr_sI Fr.rfl 28 0 rfl
  have a0 : PicR σ (sI τ 28 0) w h := a.tr (p := fun _ _ => false) (q := fun c k => c == 0 && k == 28) Fr.rfl (fr_sI Fr.rfl 28 0 rfl) (by decide) (by decide)
  have t0 : TesR σ (sI τ 28 0) := t.tr (p := fun _ _ => false) (q := fun c k => c == 0 && k == 28) Fr.rfl (fr_sI Fr.rfl 28 0 rfl) rfl (by decide)
  have eM : F_Ptm_clear τ (Int32.ofNat wn) col dep ste = L_Ptm_clear_56 100000 (sI τ 28 0) (Int32.ofNat wn) col dep ste 0 0 := by
    unfold F_Ptm_clear
    rw [e_Ptm_in _ 0 7 hw, bd_def, if_neg (by decide), e_Ptm_in _ 0 16777215 hd, bd_def, if_neg (by decide), e_Ptm_in _ 0 255 hs, bd_def, if_neg (by decide)]
    unfold F_Ptm_clear_38
    rw [e_Ptm_ok, bd_def, if_pos rfl, lt_def]
    show L_Ptm_clear_56 100000 (sI τ 28 0) _ _ _ _ 0 ((sI τ 28 0).1 30) = _
    rw [a0.y0]
  rw [eC, eM]
  generalize sI τ 28 0 = υ at fz a0 t0
  -- a row from x on
  have row : ∀ (r x y n n' : Nat) (σ1 τ1 : Sg) (mm : Int32) (rc : Sg → Int32 → Int32 → Int32 → Int32 → Int32 → Int32 → Int32 → Int32 → Option (Sg)) (rc' : Sg → Int32 → Int32 → Int32 → Int32 → Int32 → Int32 → Option (Sg × Int32)), x + r = w → y < h → r < n → r < n' → PicR σ1 τ1 w h → TesR σ1 τ1 → Fr pDC σ σ1 → Fr pDM τ τ1 →
      ∃ σ2 τ2 mm', L_Pic_clear_91 rc n σ1 (Int32.ofNat wn) col dep ste b (cldC σ (Int32.ofNat wn)) (clsC σ) (Int32.ofNat y) (Int32.ofNat x) = rc σ2 (Int32.ofNat wn) col dep ste b (cldC σ (Int32.ofNat wn)) (clsC σ) (Int32.ofNat (y + 1)) ∧
        L_Ptm_clear_76 rc' n' τ1 (Int32.ofNat wn) col dep ste mm (Int32.ofNat y) (Int32.ofNat x) = rc' τ2 (Int32.ofNat wn) col dep ste mm' (Int32.ofNat (y + 1)) ∧ PicR σ2 τ2 w h ∧ TesR σ2 τ2 ∧ Fr pDC σ σ2 ∧ Fr pDM τ τ2 := by
    intro r
    induction r with
    | zero =>
      intro x y n n' σ1 τ1 mm rc rc' hx hy hn hn' A T F G
      obtain ⟨k, rfl⟩ : ∃ k, n = k + 1 := ⟨n - 1, by omega⟩
      obtain ⟨k', rfl⟩ : ∃ k, n' = k + 1 := ⟨n' - 1, by omega⟩
      refine ⟨σ1, τ1, mm, ?_, ?_, A, T, F, G⟩
      · rw [L_Pic_clear_91, A.cw, if_pos ((n_le w x (by omega) (by omega)).mpr (by omega)), lt_def, n_succ]
      · rw [L_Ptm_clear_76, A.x0, A.mw, show (0 + Int32.ofNat w : Int32) = Int32.ofNat w from by rw [show (0 : Int32) = Int32.ofNat 0 from rfl, n_add, Nat.zero_add], if_pos ((n_le w x (by omega) (by omega)).mpr (by omega)), lt_def, n_succ]
    | succ r ih =>
      intro x y n n' σ1 τ1 mm rc rc' hx hy hn hn' A T F G
      obtain ⟨k, rfl⟩ : ∃ k, n = k + 1 := ⟨n - 1, by omega⟩
      obtain ⟨k', rfl⟩ : ∃ k, n' = k + 1 := ⟨n' - 1, by omega⟩
      have e1 : cldC σ (Int32.ofNat wn) = cldC σ1 (Int32.ofNat wn) := by unfold cldC; rw [F.2.2.1 1 rfl]
      have e2 : clsC σ = clsC σ1 := by unfold clsC; rw [F.2.2.1 1 rfl]
      obtain ⟨σ2, τ2, mm2, s1, s2, A2, F2, G2⟩ := e_clearPx σ1 τ1 w h x y wn m 0 k k' A T (by omega) hy (by omega) b col dep ste mm hs (by rw [F.2.2.1 1 rfl]; exact m2) (by omega) b2 rc rc'
      have T2 : TesR σ2 τ2 := T.tr F2 G2 rfl (by decide)
      rw [e1, e2, s1, s2, ← e1, ← e2]
      exact ih (x + 1) y k k' σ2 τ2 mm2 rc rc' (by omega) hy (by omega) (by omega) A2 T2 (F.trans F2) (G.trans G2)
  have all : ∀ (r y n n' : Nat) (σ1 τ1 : Sg) (mm : Int32), y + r = h → r < n → r < n' → PicR σ1 τ1 w h → TesR σ1 τ1 → Fr pDC σ σ1 → Fr pDM τ τ1 →
      ∃ σ2 τ2 mm', L_Pic_clear_79 n σ1 (Int32.ofNat wn) col dep ste b (cldC σ (Int32.ofNat wn)) (clsC σ) (Int32.ofNat y) = some σ2 ∧
        L_Ptm_clear_56 n' τ1 (Int32.ofNat wn) col dep ste mm (Int32.ofNat y) = some (τ2, mm') ∧ PicR σ2 τ2 w h ∧ Fr pDC σ σ2 ∧ Fr pDM τ τ2 := by
    intro r
    induction r with
    | zero =>
      intro y n n' σ1 τ1 mm hy hn hn' A T F G
      obtain ⟨k, rfl⟩ : ∃ k, n = k + 1 := ⟨n - 1, by omega⟩
      obtain ⟨k', rfl⟩ : ∃ k, n' = k + 1 := ⟨n' - 1, by omega⟩
      refine ⟨σ1, τ1, mm, ?_, ?_, A, F, G⟩
      · rw [L_Pic_clear_79, A.ch, if_pos ((n_le h y (by omega) (by omega)).mpr (by omega))]
      · rw [L_Ptm_clear_56, A.y0, A.mh, show (0 + Int32.ofNat h : Int32) = Int32.ofNat h from by rw [show (0 : Int32) = Int32.ofNat 0 from rfl, n_add, Nat.zero_add], if_pos ((n_le h y (by omega) (by omega)).mpr (by omega))]
    | succ r ih =>
      intro y n n' σ1 τ1 mm hy hn hn' A T F G
      obtain ⟨k, rfl⟩ : ∃ k, n = k + 1 := ⟨n - 1, by omega⟩
      obtain ⟨k', rfl⟩ : ∃ k, n' = k + 1 := ⟨n' - 1, by omega⟩
      rw [L_Pic_clear_79, A.ch, if_neg (fun e => absurd ((n_le h y (by omega) (by omega)).mp e) (by omega)), L_Ptm_clear_56, A.y0, A.mh, show (0 + Int32.ofNat h : Int32) = Int32.ofNat h from by rw [show (0 : Int32) = Int32.ofNat 0 from rfl, n_add, Nat.zero_add], if_neg (fun e => absurd ((n_le h y (by omega) (by omega)).mp e) (by omega)), lt_def, A.x0]
      obtain ⟨σ2, τ2, mm2, s1, s2, A2, T2, F2, G2⟩ := row w 0 y 100000 100000 σ1 τ1 mm (L_Pic_clear_79 k) (L_Ptm_clear_56 k') (by omega) (by omega) (by omega) (by omega) A T F G
      rw [show (0 : Int32) = Int32.ofNat 0 from rfl, s1, s2]
      exact ih (y + 1) k k' σ2 τ2 mm2 (by omega) (by omega) (by omega) A2 T2 F2 G2
  exact all h 0 100000 100000 σ υ 0 (by omega) (by omega) (by omega) a0 t0 Fr.rfl fz
/-- which row of the class a thing of a place stands in -/
def prow (d : Nat) : Nat := 2 + d
theorem e_rowOf (σ : Sg) (d : Nat) (hd : d < 3) : F_Pic_rowOf σ (Int32.ofNat d) = some (prow d) := by
  have : d = 0 ∨ d = 1 ∨ d = 2 := by omega
  rcases this with rfl | rfl | rfl <;> rfl
theorem e_show (σ τ : Sg) (w h i d : Nat) (a : PicR σ τ w h) (hi : i < w * h) (hd : d < 3) : F_Ptm_show τ (Int32.ofNat i) (Int32.ofNat d) = some (σ.2.2.1 (prow d) i) := by
  have hcap := a.cap
  have hcap2 := a.cap2
  have hm' : inb (Int32.ofNat i) 16384 := n_inb i _ (by omega) (by omega)
  have hin := n_nat i (by omega)
  have : d = 0 ∨ d = 1 ∨ d = 2 := by omega
  rcases this with rfl | rfl | rfl
  · unfold F_Ptm_show
    rw [if_pos (by decide), show prow 0 = 2 from rfl]
    have st : ∀ (n k : Nat) (v : Int32), k < 4 → L_Ptm_show_30 (n + 1) τ (Int32.ofNat i) v (Int32.ofNat k) = L_Ptm_show_30 n τ (Int32.ofNat i) (v ||| (Int32.ofNat (bn (σ.2.2.1 2 i) k) <<< Int32.ofNat (8 * k))) (Int32.ofNat (k + 1)) := by
      intro n k v hk
      rw [L_Ptm_show_30, if_neg (show ¬ (4 : Int32) ≤ Int32.ofNat k from fun e => absurd ((n_le 4 k (by omega) (by omega)).mp e) (by omega)), show (4 * Int32.ofNat i : Int32) = Int32.ofNat (4 * i) from n_mul 4 i, n_add, ck_pos (n_inb _ 65536 (by omega) (by omega)), lt_def, lt_def, ix8 k hk, n_succ, n_nat _ (by omega), a.col i hi k hk, byt_eq]
    rw [show L_Ptm_show_30 100000 τ (Int32.ofNat i) 0 0 = L_Ptm_show_30 (99995 + 1 + 1 + 1 + 1 + 1) τ (Int32.ofNat i) 0 (Int32.ofNat 0) from rfl, st _ 0 _ (by omega), st _ 1 _ (by omega), st _ 2 _ (by omega), st _ 3 _ (by omega), L_Ptm_show_30, if_pos (by decide)]
    rw [show (8 * 0 : Nat) = 0 from rfl, show (8 * 1 : Nat) = 8 from rfl, show (8 * 2 : Nat) = 16 from rfl, show (8 * 3 : Nat) = 24 from rfl, pkw_loop (bn (σ.2.2.1 2 i)) (fun j _ => bn_lt _ _), pkw_bn]
  · unfold F_Ptm_show F_Ptm_show_24
    rw [if_neg (by decide), if_pos (by decide), show prow 1 = 3 from rfl, ck_pos hm', hin, a.dep i hi]
  · unfold F_Ptm_show F_Ptm_show_24
    rw [if_neg (by decide), if_neg (by decide), show prow 2 = 4 from rfl, ck_pos hm', hin, (a.ste i hi).1]
theorem e_sum (σ τ : Sg) (w h d : Nat) (a : PicR σ τ w h) (hd : d < 3) : ∃ v, F_DM_sum σ (Int32.ofNat d) = some v ∧ F_Ptm_sum τ (Int32.ofNat d) = some (sI τ 28 0, v) := by
  have hcap := a.cap
  have hcap2 := a.cap2
  have a0 : PicR σ (sI τ 28 0) w h := a.tr (p := fun _ _ => false) (q := fun c k => c == 0 && k == 28) Fr.rfl (fr_sI Fr.rfl 28 0 rfl) (by decide) (by decide)
  have hl : lenC σ (prow d) = σ.2.2.2.2 0 := by
    have : d = 0 ∨ d = 1 ∨ d = 2 := by omega
    rcases this with rfl | rfl | rfl <;> rfl
  have hp : prow d < 47 := by unfold prow; omega
  have rgd : rg (Int32.ofNat d) 0 2 := ⟨by rw [n_int d (by omega)]; omega, by rw [n_int d (by omega)]; omega⟩
  have eC : F_DM_sum σ (Int32.ofNat d) = L_DM_sum_50 100000 σ (prow d) (Int32.ofNat (w * h)) 0 0 := by
    unfold F_DM_sum
    rw [if_neg (show ¬ Int32.ofNat d < 0 from fun e => absurd ((n_lt d 0 (by omega) (by omega)).mp e) (by omega)), if_pos (show Int32.ofNat d ≤ 2 from (n_le d 2 (by omega) (by omega)).mpr (by omega)), e_rowOf σ d hd, bd_def, lt_def, ck_pos hp, lt_def, a.cw, a.ch, n_mul]
  have eM : F_Ptm_sum τ (Int32.ofNat d) = L_Ptm_sum_28 100000 (sI τ 28 0) (Int32.ofNat d) 0 0 := by
    unfold F_Ptm_sum
    rw [e_Ptm_in _ 0 2 rgd, bd_def, if_neg (by decide)]
    unfold F_Ptm_sum_15
    rw [e_Ptm_ok, bd_def, if_pos rfl]
  rw [eC, eM]
  generalize sI τ 28 0 = υ at a0
  have lp : ∀ (r i n n' : Nat) (v : Int32), i + r = w * h → r < n → r < n' → ∃ u, L_DM_sum_50 n σ (prow d) (Int32.ofNat (w * h)) v (Int32.ofNat i) = some u ∧ L_Ptm_sum_28 n' υ (Int32.ofNat d) v (Int32.ofNat i) = some (υ, u) := by
    intro r
    induction r with
    | zero =>
      intro i n n' v hi hn hn'
      obtain ⟨k, rfl⟩ : ∃ k, n = k + 1 := ⟨n - 1, by omega⟩
      obtain ⟨k', rfl⟩ : ∃ k, n' = k + 1 := ⟨n' - 1, by omega⟩
      rw [L_DM_sum_50, L_Ptm_sum_28, ck_pos hp, a0.mw, a0.mh, n_mul, if_pos ((n_le _ _ (by omega) (by omega)).mpr (by omega)), if_pos ((n_le _ _ (by omega) (by omega)).mpr (by omega))]
      exact ⟨v, rfl, rfl⟩
    | succ r ih =>
      intro i n n' v hi hn hn'
      obtain ⟨k, rfl⟩ : ∃ k, n = k + 1 := ⟨n - 1, by omega⟩
      obtain ⟨k', rfl⟩ : ∃ k, n' = k + 1 := ⟨n' - 1, by omega⟩
      rw [L_DM_sum_50, L_Ptm_sum_28, ck_pos hp, a0.mw, a0.mh, n_mul, if_neg (fun e => absurd ((n_le _ _ (by omega) (by omega)).mp e) (by omega)), if_neg (fun e => absurd ((n_le _ _ (by omega) (by omega)).mp e) (by omega)), e_show σ υ w h i d a0 (by omega) hd, bd_def, hl, ck_pos (n_inb i _ (by omega) (by omega)), n_nat i (by omega)]
      simp only [lt_def, n_succ]
      exact ih (i + 1) k k' _ (by omega) (by omega) (by omega)
  exact lp (w * h) 0 100000 100000 0 (by omega) (by omega) (by omega)
