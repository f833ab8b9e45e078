/-! drawing a place -/
theorem e_Ptm_in (x a b : Int32) (h : rg x a.toInt b.toInt) : F_Ptm_in x a b = some 1 := by
  unfold F_Ptm_in F_Ptm_in_15
  rw [if_neg (fun e => absurd (Int32.lt_iff_toInt_lt.mp e) (by have := h.1; omega)), if_neg (fun e => absurd (Int32.lt_iff_toInt_lt.mp e) (by have := h.2; omega))]
  rfl
theorem e_Ptm_ok (τ : Sg) : F_Ptm_refuse τ 0 0 = some (sI τ 28 0, 0) := by
  rfl
theorem pl_ix (w x y : Nat) : (Int32.ofNat y * Int32.ofNat w + Int32.ofNat x : Int32) = Int32.ofNat (y * w + x) := by rw [n_mul, n_add]
theorem pl_lt {w h x y : Nat} (hx : x < w) (hy : y < h) : y * w + x < w * h := by
  have : (y + 1) * w ≤ h * w := Nat.mul_le_mul_right _ (by omega)
  rw [Nat.add_mul, Nat.one_mul] at this
  rw [Nat.mul_comm w h]; omega
/-- the stencil's test of both sides -/
theorem e_test (u a b : Int32) (hu : rg u (-1) 7) : ∃ v, F_Pic_holds u a b = some v ∧ ((u < 0 ∧ v ≠ 0) ∨ (¬ u < 0 ∧ F_Ptm_holds u a b = some v)) := by
  by_cases c : u < 0
  · have : u = -1 := i_inj _ _ (by have := Int32.lt_iff_toInt_lt.mp c; have h := hu.1; show u.toInt = -1; have e0 : (0 : Int32).toInt = 0 := rfl; omega)
    subst this
    exact ⟨1, rfl, Or.inl ⟨c, by decide⟩⟩
  · have h0 : 0 ≤ u.toInt := by
      refine Classical.byContradiction fun e => c (Int32.lt_iff_toInt_lt.mpr ?_)
      show u.toInt < 0
      omega
    obtain ⟨v, v1, v2⟩ := e_holds u a b h0 hu.2
    exact ⟨v, v1, Or.inr ⟨c, v2⟩⟩
theorem e_drawPlace (σ τ : Sg) (w h x y n : Nat) (a : PicR σ τ w h) (t : TesR σ τ) (hx : x < w) (hy : y < h) (hn : n < 2) (dep s : Int32) (hd : rg dep 0 16777215) (o : Nat → Int32) (ho : ∀ k, k < 4 → F_Ptm_byteOf (o k) = some (byt s k)) :
    ∃ σ' τ' r, r < 4 ∧ F_Pic_drawPlace σ (Int32.ofNat x) (Int32.ofNat y) dep (Int32.ofNat n) s = some (σ', Int32.ofNat r) ∧ F_Ptm_draw τ (Int32.ofNat x) (Int32.ofNat y) dep (Int32.ofNat n) (o 0) (o 1) (o 2) (o 3) = some (τ', Int32.ofNat r) ∧ PicR σ' τ' w h ∧ Fr pDC σ σ' ∧ Fr pDM τ τ' := by
  have hcap := a.cap
  have hcap2 := a.cap2
  have hi := pl_lt hx hy
  have fz : Fr pDM τ (sI τ 28 0) := fr_sI Fr.rfl 28 0 rfl
  have a0 : PicR σ (sI τ 28 0) w h := a.tr (p := fun _ _ => false) (q := fun c k => c == 0 && k == 28) Fr.rfl (fr_sI Fr.rfl 28 0 rfl) (by decide) (by decide)
  have t0 : TesR σ (sI τ 28 0) := t.tr (p := fun _ _ => false) (q := fun c k => c == 0 && k == 28) Fr.rfl (fr_sI Fr.rfl 28 0 rfl) rfl (by decide)
  generalize hz : sI τ 28 0 = υ at fz a0 t0
  have eM : F_Ptm_draw τ (Int32.ofNat x) (Int32.ofNat y) dep (Int32.ofNat n) (o 0) (o 1) (o 2) (o 3) = bd (F_Ptm_isOpen υ (Int32.ofNat x) (Int32.ofNat y)) (fun o64 => if o64 = 0 then (bd (F_Ptm_answer υ 0) (fun o76 => some (o76.1, o76.2))) else (bd (F_Ptm_placeOf υ (Int32.ofNat x) (Int32.ofNat y)) (fun o65 => lt (7 * Int32.ofNat n) (fun y66 => ck (inb y66 14) (if (υ.2.2.1 49 y66.toNatClampNeg) < 0 then (F_Ptm_draw_139 υ dep (Int32.ofNat n) (o 0) (o 1) (o 2) (o 3) o65) else (ck (inb y66 14) (ck (inb (y66 + 1) 14) (ck (inb (y66 + 2) 14) (ck (inb o65 16384) (ck (inb (y66 + 2) 14) (bd (F_Ptm_holds (υ.2.2.1 49 y66.toNatClampNeg) ((υ.2.2.1 49 (y66 + 1).toNatClampNeg) &&& (υ.2.2.1 49 (y66 + 2).toNatClampNeg)) ((υ.2.2.1 47 o65.toNatClampNeg) &&& (υ.2.2.1 49 (y66 + 2).toNatClampNeg))) (fun o73 => if o73 = 0 then (bd (F_Ptm_act υ o65 (Int32.ofNat n) 4) (fun o74 => bd (F_Ptm_answer o74 1) (fun o75 => some (o75.1, o75.2)))) else (F_Ptm_draw_139 υ dep (Int32.ofNat n) (o 0) (o 1) (o 2) (o 3) o65))))))))))))) := by
    unfold F_Ptm_draw
    rw [e_Ptm_in dep 0 16777215 hd, bd_def, if_neg (by decide), e_Ptm_in (Int32.ofNat n) 0 1 ⟨by rw [n_int n (by omega)]; show (0 : Int) ≤ n; omega, by rw [n_int n (by omega)]; show (n : Int) ≤ 1; omega⟩, bd_def, if_neg (by decide)]
    unfold F_Ptm_draw_26
    rw [e_Ptm_ok, bd_def, if_pos rfl, hz]
  rw [eM]
  unfold F_Pic_drawPlace
  obtain ⟨op, o1, o2⟩ := e_open σ υ w h x y a0 t0 hx hy
  rw [o1, o2, bd_def, bd_def]
  by_cases c : op = 0
  · rw [if_pos c, if_pos c]
    obtain ⟨τ', z1, z2⟩ := e_answer υ 0 (by omega)
    refine ⟨σ, τ', 0, by omega, rfl, by rw [show (0 : Int32) = Int32.ofNat 0 from rfl, z1, bd_def], a0.tr (p := fun _ _ => false) Fr.rfl z2 (by decide) (by decide), Fr.rfl, fz.trans (z2.weak ?_)⟩
    intro c k; unfold pDM; grind
  · rw [if_neg c, if_neg c]
    have ePl : F_Ptm_placeOf υ (Int32.ofNat x) (Int32.ofNat y) = some (Int32.ofNat (y * w + x)) := by
      unfold F_Ptm_placeOf
      rw [a0.x0, a0.y0, a0.mw, show (Int32.ofNat y - 0 : Int32) = Int32.ofNat y by grind, pl_ix, show (Int32.ofNat (y * w + x) - 0 : Int32) = Int32.ofNat (y * w + x) by grind]
    rw [ePl, bd_def, a0.cw, pl_ix]
    simp only [lt_def]
    generalize hI : y * w + x = i at hi
    have e0 : υ.2.2.1 49 (7 * n) = σ.2.2.1 1 (192 + 7 * n) := t0.st _ (by omega)
    have e1 : υ.2.2.1 49 (7 * n + 1) = σ.2.2.1 1 (193 + 7 * n) := by rw [t0.st _ (by omega), show 192 + (7 * n + 1) = 193 + 7 * n by omega]
    have e2 : υ.2.2.1 49 (7 * n + 2) = σ.2.2.1 1 (194 + 7 * n) := by rw [t0.st _ (by omega), show 192 + (7 * n + 2) = 194 + 7 * n by omega]
    have s1 := (a0.ste i hi).1
    have hl3 : inb (Int32.ofNat i) (lenC σ 3) := n_inb i _ (show i < σ.2.2.2.2 0 by omega) (by omega)
    have hl4 : inb (Int32.ofNat i) (lenC σ 4) := n_inb i _ (show i < σ.2.2.2.2 0 by omega) (by omega)
    have hm : inb (Int32.ofNat i) 16384 := n_inb i _ (by omega) (by omega)
    rw [show (7 * Int32.ofNat n : Int32) = Int32.ofNat (7 * n) from n_mul 7 n, show (192 + Int32.ofNat (7 * n) : Int32) = Int32.ofNat (192 + 7 * n) from n_add 192 _,
      show (Int32.ofNat (192 + 7 * n) + 1 : Int32) = Int32.ofNat (193 + 7 * n) by rw [show (1 : Int32) = Int32.ofNat 1 from rfl, n_add]; congr 1; omega,
      show (Int32.ofNat (192 + 7 * n) + 2 : Int32) = Int32.ofNat (194 + 7 * n) by rw [show (2 : Int32) = Int32.ofNat 2 from rfl, n_add]; congr 1; omega,
      show (Int32.ofNat (192 + 7 * n) + 4 : Int32) = Int32.ofNat (192 + 7 * n + 4) from n_add _ 4, show (Int32.ofNat (192 + 7 * n) + 5 : Int32) = Int32.ofNat (192 + 7 * n + 5) from n_add _ 5, show (Int32.ofNat (192 + 7 * n) + 6 : Int32) = Int32.ofNat (192 + 7 * n + 6) from n_add _ 6,
      show (Int32.ofNat (7 * n) + 1 : Int32) = Int32.ofNat (7 * n + 1) from n_succ _, show (Int32.ofNat (7 * n) + 2 : Int32) = Int32.ofNat (7 * n + 2) from n_add _ 2]
    have b0 := n_inb (192 + 7 * n) 245 (by omega) (by omega)
    have b1 := n_inb (193 + 7 * n) 245 (by omega) (by omega)
    have b2 := n_inb (194 + 7 * n) 245 (by omega) (by omega)
    have b4 := n_inb (192 + 7 * n + 4) 245 (by omega) (by omega)
    have b5 := n_inb (192 + 7 * n + 5) 245 (by omega) (by omega)
    have b6 := n_inb (192 + 7 * n + 6) 245 (by omega) (by omega)
    have d0 := n_inb (7 * n) 14 (by omega) (by omega)
    have d1 := n_inb (7 * n + 1) 14 (by omega) (by omega)
    have d2 := n_inb (7 * n + 2) 14 (by omega) (by omega)
    simp only [ck_pos b0, ck_pos b1, ck_pos b2, ck_pos b4, ck_pos b5, ck_pos b6, ck_pos d0, ck_pos d1, ck_pos d2, ck_pos hl3, ck_pos hl4, ck_pos hm, n_nat (192 + 7 * n) (by omega), n_nat (193 + 7 * n) (by omega), n_nat (194 + 7 * n) (by omega), n_nat (192 + 7 * n + 4) (by omega), n_nat (192 + 7 * n + 5) (by omega), n_nat (192 + 7 * n + 6) (by omega), n_nat (7 * n) (by omega), n_nat (7 * n + 1) (by omega), n_nat (7 * n + 2) (by omega), n_nat i (by omega), e0, e1, e2, s1]
    -- what comes behind the stencil's test
    have rest : ∃ σ' τ' r, r < 4 ∧ (bd (F_Pic_holds (σ.2.2.1 1 190) dep (σ.2.2.1 3 i)) (fun o42 => if o42 = 0 then (bd (F_Pic_doDeed σ (Int32.ofNat i) (Int32.ofNat (192 + 7 * n)) (σ.2.2.1 1 (192 + 7 * n + 5))) (fun o48 => some (o48, 2))) else (bd (F_Pic_doDeed σ (Int32.ofNat i) (Int32.ofNat (192 + 7 * n)) (σ.2.2.1 1 (192 + 7 * n + 6))) (fun o44 => if (o44.2.2.1 1 190) < 0 then (F_Pic_drawPlace_190 o44 s (Int32.ofNat i)) else (if (o44.2.2.1 1 191) = 1 then (ck (inb (Int32.ofNat i) (lenC o44 3)) (F_Pic_drawPlace_190 (sA o44 3 (upd (o44.2.2.1 3) i dep)) s (Int32.ofNat i))) else (F_Pic_drawPlace_190 o44 s (Int32.ofNat i))))))) = some (σ', Int32.ofNat r) ∧
        F_Ptm_draw_139 υ dep (Int32.ofNat n) (o 0) (o 1) (o 2) (o 3) (Int32.ofNat i) = some (τ', Int32.ofNat r) ∧ PicR σ' τ' w h ∧ Fr pDC σ σ' ∧ Fr pDM τ τ' := by
      obtain ⟨v, v1, v2⟩ := e_test (σ.2.2.1 1 190) dep (σ.2.2.1 3 i) t0.dtr
      rw [v1, bd_def]
      have back : ¬ v = 0 → ∃ σ' τ' r, r < 4 ∧ (bd (F_Pic_doDeed σ (Int32.ofNat i) (Int32.ofNat (192 + 7 * n)) (σ.2.2.1 1 (192 + 7 * n + 6))) (fun o44 => if (o44.2.2.1 1 190) < 0 then (F_Pic_drawPlace_190 o44 s (Int32.ofNat i)) else (if (o44.2.2.1 1 191) = 1 then (ck (inb (Int32.ofNat i) (lenC o44 3)) (F_Pic_drawPlace_190 (sA o44 3 (upd (o44.2.2.1 3) i dep)) s (Int32.ofNat i))) else (F_Pic_drawPlace_190 o44 s (Int32.ofNat i))))) = some (σ', Int32.ofNat r) ∧
          F_Ptm_draw_179 υ dep (Int32.ofNat n) (o 0) (o 1) (o 2) (o 3) (Int32.ofNat i) = some (τ', Int32.ofNat r) ∧ PicR σ' τ' w h ∧ Fr pDC σ σ' ∧ Fr pDM τ τ' := by
        intro _
        obtain ⟨x6, g1, g2, g3⟩ := e_act σ υ w h i n 6 a0 t0 hi hn (by omega)
        unfold F_Ptm_draw_179
        rw [g2, bd_def, show (6 : Int32) = Int32.ofNat 6 from rfl, g3, bd_def]
        have A1 := a0.set4 i x6 g1
        have fs : Fr pDC σ (sA σ 4 (upd (σ.2.2.1 4) i x6)) := fr_sA Fr.rfl 4 _ rfl
        have ft : Fr pDM τ (sA υ 47 (upd (υ.2.2.1 47) i x6)) := fr_sA fz 47 _ rfl
        have T1 : TesR (sA σ 4 (upd (σ.2.2.1 4) i x6)) (sA υ 47 (upd (υ.2.2.1 47) i x6)) := t0.tr (p := fun c k => c == 2 && k == 4) (q := fun c k => c == 2 && k == 47) (fr_sA Fr.rfl 4 _ rfl) (fr_sA Fr.rfl 47 _ rfl) rfl (by decide)
        generalize sA σ 4 (upd (σ.2.2.1 4) i x6) = σ1 at A1 T1 fs
        generalize sA υ 47 (upd (υ.2.2.1 47) i x6) = τ1 at A1 T1 ft
        have hcap' := A1.cap
        have hcap2' := A1.cap2
        have keep : ∃ σ' τ' r, r < 4 ∧ F_Pic_drawPlace_190 σ1 s (Int32.ofNat i) = some (σ', Int32.ofNat r) ∧ F_Ptm_draw_213 τ1 (o 0) (o 1) (o 2) (o 3) (Int32.ofNat i) (Int32.ofNat i) = some (τ', Int32.ofNat r) ∧ PicR σ' τ' w h ∧ Fr pDC σ σ' ∧ Fr pDM τ τ' := by
          unfold F_Ptm_draw_213 F_Ptm_draw_220
          rw [ck_pos hm, ck_pos hm, lt_def, n_nat i (by omega), upd_self, sA_self]
          obtain ⟨σ', τ', y1, y2, y3, y4, y5⟩ := e_fin σ1 τ1 w h i A1 T1 hi s o ho
          exact ⟨σ', τ', 3, by omega, y1, y2, y3, fs.trans y4, ft.trans y5⟩
        rw [T1.dt]
        by_cases c1 : σ1.2.2.1 1 190 < 0
        · rw [if_pos c1, if_pos c1]; exact keep
        · rw [if_neg c1, if_neg c1, T1.dw]
          by_cases c2 : σ1.2.2.1 1 191 = 1
          · rw [if_pos c2, if_pos c2, if_neg (by decide), ck_pos (show inb (Int32.ofNat i) (lenC σ1 3) from n_inb i _ (show i < σ1.2.2.2.2 0 by omega) (by omega))]
            unfold F_Ptm_draw_220
            rw [ck_pos hm, lt_def, n_nat i (by omega)]
            have A2 := A1.set3 i dep
            have T2 : TesR (sA σ1 3 (upd (σ1.2.2.1 3) i dep)) (sA τ1 46 (upd (τ1.2.2.1 46) i dep)) := T1.tr (p := fun c k => c == 2 && k == 3) (q := fun c k => c == 2 && k == 46) (fr_sA Fr.rfl 3 _ rfl) (fr_sA Fr.rfl 46 _ rfl) rfl (by decide)
            obtain ⟨σ', τ', y1, y2, y3, y4, y5⟩ := e_fin _ _ w h i A2 T2 hi s o ho
            exact ⟨σ', τ', 3, by omega, y1, y2, y3, (fr_sA fs 3 _ rfl).trans y4, (fr_sA ft 46 _ rfl).trans y5⟩
          · rw [if_neg c2, if_neg c2, if_pos rfl]; exact keep
      unfold F_Ptm_draw_139
      rw [t0.dt]
      rcases v2 with ⟨n1, n2⟩ | ⟨n1, n2⟩
      · rw [if_neg n2, if_pos n1]; exact back n2
      · rw [if_neg n1, ck_pos hm, n_nat i (by omega), a0.dep i hi, n2, bd_def]
        by_cases c1 : v = 0
        · rw [if_pos c1, if_pos c1]
          obtain ⟨x5, g1, g2, g3⟩ := e_act σ υ w h i n 5 a0 t0 hi hn (by omega)
          obtain ⟨τ', z1, z2⟩ := e_answer (sA υ 47 (upd (υ.2.2.1 47) i x5)) 2 (by omega)
          refine ⟨_, τ', 2, by omega, by rw [g2, bd_def]; rfl, by rw [show (5 : Int32) = Int32.ofNat 5 from rfl, g3, bd_def, show (2 : Int32) = Int32.ofNat 2 from rfl, z1, bd_def], (a0.set4 i x5 g1).tr (p := fun _ _ => false) Fr.rfl z2 (by decide) (by decide), fr_sA Fr.rfl 4 _ rfl, (fr_sA fz 47 _ rfl).trans (z2.weak ?_)⟩
          intro c k; unfold pDM; grind
        · rw [if_neg c1, if_neg c1]; exact back c1
    obtain ⟨v, v1, v2⟩ := e_test (σ.2.2.1 1 (192 + 7 * n)) (σ.2.2.1 1 (193 + 7 * n) &&& σ.2.2.1 1 (194 + 7 * n)) (σ.2.2.1 4 i &&& σ.2.2.1 1 (194 + 7 * n)) (t0.str n hn).1
    rw [v1, bd_def]
    rcases v2 with ⟨n1, n2⟩ | ⟨n1, n2⟩
    · rw [if_neg n2, if_pos n1]; exact rest
    · rw [if_neg n1, n2, bd_def]
      by_cases c1 : v = 0
      · rw [if_pos c1, if_pos c1]
        obtain ⟨x4, g1, g2, g3⟩ := e_act σ υ w h i n 4 a0 t0 hi hn (by omega)
        obtain ⟨τ', z1, z2⟩ := e_answer (sA υ 47 (upd (υ.2.2.1 47) i x4)) 1 (by omega)
        refine ⟨_, τ', 1, by omega, by rw [g2, bd_def]; rfl, by rw [show (4 : Int32) = Int32.ofNat 4 from rfl, g3, bd_def, show (1 : Int32) = Int32.ofNat 1 from rfl, z1, bd_def], (a0.set4 i x4 g1).tr (p := fun _ _ => false) Fr.rfl z2 (by decide) (by decide), fr_sA Fr.rfl 4 _ rfl, (fr_sA fz 47 _ rfl).trans (z2.weak ?_)⟩
        intro c k; unfold pDM; grind
      · rw [if_neg c1, if_neg c1]; exact rest
