/-! the place itself -/
theorem e_pixel (X Y D Q : Nat → Int32) (V : Nat → Nat → Int32) (k c : Nat) (σ τ : Sg) (w h : Nat) (ω1 ω2 : Nat → Int32) (N1 N2 i1 i2 x y n : Nat) (a : Drw σ τ w h ω1 ω2 N1 N2 i1 i2) (t : Tri X Y D Q V k c σ τ) (hx : x < w) (hy : y < h) (hc : cov X Y x y) (hn : n < 2) (hf : (σ.1 17 = 0) ↔ n = 1) (hb : ¬ σ.1 19 < Int32.ofNat x) :
    ∃ σ' τ', (∀ rc m, L_Drw_fill_75 rc (m + 1) σ i2 (Int32.ofNat n) (Int32.ofNat y) (Int32.ofNat x) = L_Drw_fill_75 rc m σ' i2 (Int32.ofNat n) (Int32.ofNat y) (Int32.ofNat (x + 1))) ∧
      F_Mod_place (sA τ 56 (upd (τ.2.2.1 56) 8 ((τ.2.2.1 56 8) + 1))) (Int32.ofNat x) (Int32.ofNat y) (Int32.ofNat n) = some τ' ∧ Drw σ' τ' w h ω1 ω2 N1 N2 i1 i2 ∧ Fr pPx σ σ' ∧ Fr qPx τ τ' := by
  have w1 := a.pic.w1
  have h1 := a.pic.h1
  have hi2 : i2 < 3 := a.lo2.2.1.1
  -- the class up to its ins
  obtain ⟨σ1, b, c1, c2, c3, c4⟩ := e_covers X Y x y σ (by omega) (by omega) t.hX t.hY t.ed t.ar
  have hbt : b = true := c3.mpr hc
  subst hbt
  have W1 := c4 rfl
  have F1 : Fr pPx σ σ1 := c2.weak (by intro a b; unfold pPx pWt; grind)
  have T1 := t.tr F1 (Fr.rfl (p := qPx) (σ := τ)) tP_px tQ_px
  have dC : F_Cov_depthThere (sA σ1 29 (upd (σ1.2.2.1 29) 8 ((σ1.2.2.1 29 8) + 1))) = some (dpt X Y D x y) :=
    e_depthThere X Y D k x y _ t.hk t.hX t.hY T1.ar hc.1 T1.who W1 T1.dC
  have hdr := dpt_rng X Y D x y t.hX t.hY t.hD hc
  generalize hdv : dpt X Y D x y = dv at dC hdr
  let fv : Int32 := if n = 1 then 0 else 65536
  let σ2 := sA σ1 29 (upd (σ1.2.2.1 29) 8 ((σ1.2.2.1 29 8) + 1))
  let bk := upd (upd (upd (upd (σ1.2.2.1 10) 64 ((65536 * Int32.ofNat x) + 32768)) 65 ((65536 * Int32.ofNat y) + 32768)) 66 dv) 67 fv
  let σ3 := sA σ2 10 bk
  have F3 : Fr pPx σ σ3 := fr_sA (fr_sA F1 29 _ rfl) 10 _ rfl
  have W3 : WtC X Y x y 3 σ3 := W1
  have T3 := t.tr F3 (Fr.rfl (p := qPx) (σ := τ)) tP_px tQ_px
  obtain ⟨σ4, s, l1, l2, l3, l4, l5⟩ := e_Cov_load X Y Q k x y c i2 V σ3 hi2 t.hk (by omega) (by omega) t.hX t.hY t.hQ hc T3.who W3 T3.qC T3.n5 t.c2 T3.vC
  have F4 : Fr pPx σ σ4 := F3.trans (l2.weak (by intro a b; unfold pPx pLd2; grind))
  have eC : ∀ rc m, L_Drw_fill_75 rc (m + 1) σ i2 (Int32.ofNat n) (Int32.ofNat y) (Int32.ofNat x) = bd (F_Pro_follow σ4 i2) (fun o26 => if o26.2 = 0 then (lt (sA o26.1 29 (upd (o26.1.2.2.1 29) 7 ((o26.1.2.2.1 29 7) + 1))) (fun σ27 => F_Drw_fill_230 rc (L_Drw_fill_75 rc m) σ27 i2 (Int32.ofNat n) (Int32.ofNat y) (Int32.ofNat x))) else (bd (F_Drw_colourOf o26.1 10) (fun o28 => bd (F_Pic_drawPlace o26.1 (Int32.ofNat x) (Int32.ofNat y) dv (Int32.ofNat n) o28) (fun o29 => bd (F_Drw_tally o29.1 o29.2) (fun o30 => F_Drw_fill_230 rc (L_Drw_fill_75 rc m) o30 i2 (Int32.ofNat n) (Int32.ofNat y) (Int32.ofNat x)))))) := by
    intro rc m
    have e17 : ∀ (g1 g2 g3 : Nat → Int32), (sA (sA (sA (sA σ1 29 (upd (σ1.2.2.1 29) 8 ((σ1.2.2.1 29 8) + 1))) 10 g1) 10 g2) 10 g3).1 17 = σ.1 17 := fun g1 g2 g3 => F1.1 17 rfl
    have e173 : ∀ g1 g2 g3 : Nat → Int32, ∀ v, upd g3 67 v = bk → F_Drw_fill_173 rc (L_Drw_fill_75 rc m) (sA (sA (sA σ2 10 g1) 10 g2) 10 g3) i2 (Int32.ofNat n) (Int32.ofNat y) (Int32.ofNat x) dv 67 v = bd (F_Pro_follow σ4 i2) (fun o26 => if o26.2 = 0 then (lt (sA o26.1 29 (upd (o26.1.2.2.1 29) 7 ((o26.1.2.2.1 29 7) + 1))) (fun σ27 => F_Drw_fill_230 rc (L_Drw_fill_75 rc m) σ27 i2 (Int32.ofNat n) (Int32.ofNat y) (Int32.ofNat x))) else (bd (F_Drw_colourOf o26.1 10) (fun o28 => bd (F_Pic_drawPlace o26.1 (Int32.ofNat x) (Int32.ofNat y) dv (Int32.ofNat n) o28) (fun o29 => bd (F_Drw_tally o29.1 o29.2) (fun o30 => F_Drw_fill_230 rc (L_Drw_fill_75 rc m) o30 i2 (Int32.ofNat n) (Int32.ofNat y) (Int32.ofNat x)))))) := by
      intro g1 g2 g3 v hv
      unfold F_Drw_fill_173
      rw [ck_pos hi2, ck_pos (show inb (67 : Int32) 260 by decide), lt_def, show (67 : Int32).toNatClampNeg = 67 from rfl, sA_3, if_pos rfl, sA_sA, sA_sA, sA_sA, hv, show sA σ2 10 bk = σ3 from rfl, l1, bd_def]
    rw [L_Drw_fill_75, ck_pos hi2, if_neg hb, c1, bd_def, if_neg (show ¬ bI true = 0 by decide), lt_def, dC, bd_def, lt_def, lt_def, lt_def, e17]
    by_cases d : n = 1
    · rw [if_pos (hf.mpr d)]
      refine e173 _ _ _ 0 ?_
      simp only [sA_3, if_true]
      show _ = upd _ 67 (if n = 1 then 0 else 65536)
      rw [if_pos d]
      rfl
    · rw [if_neg (fun e => d (hf.mp e))]
      refine e173 _ _ _ 65536 ?_
      simp only [sA_3, if_true]
      show _ = upd _ 67 (if n = 1 then 0 else 65536)
      rw [if_neg d]
      rfl
  -- the reference up to its ins
  let τ1 := sA τ 56 (upd (τ.2.2.1 56) 8 ((τ.2.2.1 56 8) + 1))
  have G1 : Fr qPx τ τ1 := fr_sA Fr.rfl 56 _ rfl
  have U1 := t.tr (Fr.rfl (p := pPx) (σ := σ)) G1 tP_px tQ_px
  obtain ⟨τ2, s', m1, m2, m3, m4, m5⟩ := e_share X Y D Q x y τ1 (by omega) (by omega) t.hX t.hY t.hQ hc U1.ras U1.dM U1.qM
  have hss : s' = s := shP_uniq _ _ _ m3 l3
  subst hss
  rw [hdv] at m1
  have G2 : Fr qPx τ τ2 := G1.trans (m2.weak (by intro a b; unfold qPx pSm; grind))
  let bi := upd (upd (upd (upd (τ2.2.2.1 27) 0 ((65536 * Int32.ofNat x) + 32768)) 1 ((65536 * Int32.ofNat y) + 32768)) 2 dv) 3 fv
  let τ3 := sA τ2 27 bi
  have G3 : Fr qPx τ τ3 := fr_sA G2 27 _ rfl
  have U3 := t.tr (Fr.rfl (p := pPx) (σ := σ)) G3 tP_px tQ_px
  obtain ⟨z1, z2⟩ := shT_pos X Y Q x y s' (by omega) (by omega) t.hX t.hY t.hQ hc l3
  obtain ⟨nv, v1⟩ := e_values X Y D Q V (shf X Y Q x y) s' τ3 (Int32.ofNat x) (Int32.ofNat y) (Int32.ofNat n) dv z1 z2 m5 U3.vM
  let τ4 := sA τ3 27 (rowset (τ3.2.2.1 27) 4 28 (fun k => vlv (shf X Y Q x y) s' (V (4 + k))))
  have G4 : Fr qPx τ τ4 := fr_sA G3 27 _ rfl
  have eM : F_Mod_place τ1 (Int32.ofNat x) (Int32.ofNat y) (Int32.ofNat n) = L_Mod_place_78 (nv + 1) τ4 (Int32.ofNat x) (Int32.ofNat y) (Int32.ofNat n) dv 28 := by
    unfold F_Mod_place
    rw [m1, bd_def, lt_def, lt_def, lt_def]
    have e74 : ∀ g1 g2 g3 : Nat → Int32, ∀ v, upd g3 3 v = bi → F_Mod_place_74 (sA (sA (sA τ2 27 g1) 27 g2) 27 g3) (Int32.ofNat x) (Int32.ofNat y) (Int32.ofNat n) dv 3 v = L_Mod_place_78 (nv + 1) τ4 (Int32.ofNat x) (Int32.ofNat y) (Int32.ofNat n) dv 28 := by
      intro g1 g2 g3 v hv
      unfold F_Mod_place_74
      rw [ck_pos (show inb (3 : Int32) 32 by decide), lt_def, show (3 : Int32).toNatClampNeg = 3 from rfl, sA_3, if_pos rfl, sA_sA, sA_sA, sA_sA, hv]
      exact v1
    by_cases d : n = 1
    · rw [if_neg (show ¬ Int32.ofNat n = 0 from fun e => absurd ((n_inj n 0 (by omega) (by omega)).mp e) (by omega))]
      refine e74 _ _ _ 0 ?_
      simp only [sA_3, if_true]
      show _ = upd _ 3 (if n = 1 then 0 else 65536)
      rw [if_pos d]
    · rw [if_pos (show Int32.ofNat n = 0 from (n_inj n 0 (by omega) (by omega)).mpr (by omega))]
      refine e74 _ _ _ 65536 ?_
      simp only [sA_3, if_true]
      show _ = upd _ 3 (if n = 1 then 0 else 65536)
      rw [if_neg d]
  -- the program
  have e4 : σ4.1 (24 + 3 * i2) = σ.1 (24 + 3 * i2) := F4.1 _ (by unfold pPx; simp)
  have L4 : Loaded ω2 N2 (rdb (σ.1 (24 + 3 * i2))) i2 1 σ4 τ4 := by
    have := a.lo2.tr (σ' := σ4) (τ' := τ4) (F4.1 _ (by unfold pPx; simp)) e4 (F4.2.2.1 _ (by unfold pPx; simp; omega)) (G4.2.2.1 _ (by decide)) (G4.2.2.1 _ (by decide)) (G4.1 _ (by decide))
    rw [e4] at this
    exact this
  have un4 : ∀ j, j < 128 → σ4.2.2.1 10 (96 + j) = σ.2.2.1 10 (96 + j) := fun j hj => by
    rw [l4 _ (by omega)]
    show upd (upd (upd (upd (σ1.2.2.1 10) 64 _) 65 _) 66 _) 67 _ (96 + j) = _
    rw [upd_ne _ _ _ _ (by omega), upd_ne _ _ _ _ (by omega), upd_ne _ _ _ _ (by omega), upd_ne _ _ _ _ (by omega), c2.2.2.1 10 rfl]
  have ze4 : ∀ j, j < 4 → σ4.2.2.1 10 (224 + j) = 0 := fun j hj => by
    rw [l4 _ (by omega)]
    show upd (upd (upd (upd (σ1.2.2.1 10) 64 _) 65 _) 66 _) 67 _ (224 + j) = _
    rw [upd_ne _ _ _ _ (by omega), upd_ne _ _ _ _ (by omega), upd_ne _ _ _ _ (by omega), upd_ne _ _ _ _ (by omega), c2.2.2.1 10 rfl]
    exact a.zer j hj
  have in4 : ∀ j, j < 32 → rdb (σ.1 (24 + 3 * i2)) (j / 4) → τ4.2.2.1 27 j = σ4.2.2.1 10 (64 + j) := by
    intro j hj hr
    show rowset (τ3.2.2.1 27) 4 28 (fun k => vlv (shf X Y Q x y) s' (V (4 + k))) j = _
    by_cases d : j < 4
    · rw [rowset_out _ _ _ _ _ (by omega), l4 _ (by omega)]
      show upd (upd (upd (upd (τ2.2.2.1 27) 0 _) 1 _) 2 _) 3 _ j = upd (upd (upd (upd (σ1.2.2.1 10) 64 _) 65 _) 66 _) 67 _ (64 + j)
      have : j = 0 ∨ j = 1 ∨ j = 2 ∨ j = 3 := by omega
      rcases this with rfl | rfl | rfl | rfl <;> rfl
    · have e := rowset_get (τ3.2.2.1 27) 4 28 (fun k => vlv (shf X Y Q x y) s' (V (4 + k))) (j - 4) (by omega)
      rw [show 4 + (j - 4) = j by omega] at e
      rw [e, l5 j (by omega) hj (by rw [show σ3.1 (24 + 3 * i2) = σ.1 (24 + 3 * i2) from F3.1 _ (by unfold pPx; simp)]; exact hr)]
  have k4 : σ4.2.2.1 1 = σ.2.2.1 1 := F4.2.2.1 1 rfl
  obtain ⟨oC, oM, r1, r2, r3, r4, r5, r6⟩ := e_program ω2 N2 (rdb (σ.1 (24 + 3 * i2))) (σ.2.2.1 0) (σ.2.2.1 1) i2 1 σ4 τ4 (by omega) a.txo L4 (F4.2.2.1 0 rfl) k4 (by rw [G4.2.2.1 0 rfl]; exact a.mem)
    (by have := a.txr; unfold TxRel at this ⊢; rw [G4.2.2.1 5 rfl, G4.2.2.1 6 rfl]; exact this) in4 (fun j hj => by rw [G4.2.2.1 (19 + 10 * 1) rfl, un4 j hj]; exact a.un2 j hj) ze4
  have F5 : Fr pPx σ oC.1 := F4.trans (r3.weak (by intro a b; unfold pPx pFol; grind))
  have G5 : Fr qPx τ oM.1 := G4.trans (r4.weak (by intro a b; unfold qPx pRn; grind))
  have un5 : ∀ j, j < 128 → oC.1.2.2.1 10 (96 + j) = σ.2.2.1 10 (96 + j) := fun j hj => by
    rw [← r5.2.2.1 j hj, G5.2.2.1 (19 + 10 * 1) rfl]; exact a.un2 j hj
  have cn5 : ∀ j, j < 9 → oM.1.2.2.1 56 j = oC.1.2.2.1 29 j := by
    have e1 : oC.1.2.2.1 29 = upd (σ.2.2.1 29) 8 (σ.2.2.1 29 8 + 1) := by
      rw [r3.2.2.1 29 rfl, l2.2.2.1 29 rfl]
      show upd (σ1.2.2.1 29) 8 (σ1.2.2.1 29 8 + 1) = _
      rw [c2.2.2.1 29 rfl]
    have e2 : oM.1.2.2.1 56 = upd (τ.2.2.1 56) 8 (τ.2.2.1 56 8 + 1) := by
      rw [r4.2.2.1 56 rfl]
      show τ2.2.2.1 56 = _
      rw [m2.2.2.1 56 rfl]
      rfl
    rw [e1, e2]
    exact cnt_up' 8 (by omega) a.cnt
  have qr5 : ∀ j, j < 8 → oM.1.2.2.1 55 j = oC.1.2.2.1 30 j := by
    have e1 : oC.1.2.2.1 30 = σ.2.2.1 30 := by
      rw [r3.2.2.1 30 rfl, l2.2.2.1 30 rfl]
      show σ1.2.2.1 30 = _
      rw [c2.2.2.1 30 rfl]
    have e2 : oM.1.2.2.1 55 = τ.2.2.1 55 := by
      rw [r4.2.2.1 55 rfl]
      show τ2.2.2.1 55 = _
      rw [m2.2.2.1 55 rfl]
      rfl
    rw [e1, e2]
    exact a.qry
  have pc5 : PicR oC.1 oM.1 w h := by
    have f : Fr (fun c k => (c == 1 && k == 3) || (c == 2 && ((10 ≤ k && k ≤ 20) || k == 29)) || (c == 3 && (k == 5 || k == 6))) σ oC.1 := by
      have f1 : Fr (fun c k => (c == 1 && k == 3) || (c == 2 && ((10 ≤ k && k ≤ 20) || k == 29)) || (c == 3 && (k == 5 || k == 6))) σ σ3 := fr_sA (fr_sA (c2.weak (by intro a b; unfold pWt; grind)) 29 _ rfl) 10 _ rfl
      exact (f1.trans (l2.weak (by intro a b; unfold pLd2; grind))).trans (r3.weak (by intro a b; unfold pFol; grind))
    have g : Fr (fun c k => (c == 0 && (k == 20 || k == 46 || k == 50 || k == 51)) || (c == 2 && ((7 ≤ k && k ≤ 13) || (26 ≤ k && k ≤ 28) || (30 ≤ k && k ≤ 32) || k == 56)) || (c == 3 && k == 0)) τ oM.1 := by
      have g1 : Fr (fun c k => (c == 0 && (k == 20 || k == 46 || k == 50 || k == 51)) || (c == 2 && ((7 ≤ k && k ≤ 13) || (26 ≤ k && k ≤ 28) || (30 ≤ k && k ≤ 32) || k == 56)) || (c == 3 && k == 0)) τ τ4 := fr_sA (fr_sA ((fr_sA Fr.rfl 56 _ rfl).trans (m2.weak (by intro a b; unfold pSm; grind))) 27 _ rfl) 27 _ rfl
      exact g1.trans (r4.weak (by intro a b; unfold pRn; grind))
    exact a.pic.tr f g (by decide) (by decide)
  have A5 : Drw oC.1 oM.1 w h ω1 ω2 N1 N2 i1 i2 := a.tr F5 G5 rfl rfl pc5 un5 r5.2.2.2.1 cn5 qr5
  have e230 : ∀ (rc : Sg → Nat → Int32 → Int32 → Option Sg) m υ, F_Drw_fill_230 rc (L_Drw_fill_75 rc m) υ i2 (Int32.ofNat n) (Int32.ofNat y) (Int32.ofNat x) = L_Drw_fill_75 rc m υ i2 (Int32.ofNat n) (Int32.ofNat y) (Int32.ofNat (x + 1)) := by
    intro rc m υ
    unfold F_Drw_fill_230
    rw [ck_pos hi2, lt_def, n_succ]
  rw [show sA τ 56 (upd (τ.2.2.1 56) 8 ((τ.2.2.1 56 8) + 1)) = τ1 from rfl, eM, L_Mod_place_78, if_pos (by decide), r2, bd_def]
  rcases r6 with ⟨k1, k2⟩ | ⟨k1, k2⟩
  · rw [if_pos (show oM.1.1 51 = 0 from k2)]
    have hl10 : lenC oC.1 10 = 260 := rfl
    obtain ⟨col, q1, q2⟩ := e_colourOf oC.1 10 (by omega) hl10
    have oo : ∀ j, j < 4 → F_Ptm_byteOf (oM.1.2.2.1 28 j) = some (byt col j) := fun j hj => by
      rw [show oM.1.2.2.1 28 j = oC.1.2.2.1 10 (228 + j) from r5.2.2.2.2 j (by omega)]; exact q2 j hj
    obtain ⟨σ6, τ6, r, d1, d2, d3, d4, d5, d6⟩ := e_drawPlace oC.1 oM.1 w h x y n A5.pic A5.tes hx hy hn dv col hdr (fun j => oM.1.2.2.1 28 j) oo
    have A6 : Drw σ6 τ6 w h ω1 ω2 N1 N2 i1 i2 := A5.tr d5 d6 rfl rfl d4 (fun j hj => by rw [d5.2.2.1 10 rfl]) (fun j hj => by rw [d5.2.2.1 10 rfl]; exact A5.zer j hj) (by rw [d5.2.2.1 29 rfl, d6.2.2.1 56 rfl]; exact A5.cnt) (by rw [d5.2.2.1 30 rfl, d6.2.2.1 55 rfl]; exact A5.qry)
    obtain ⟨σ7, τ7, t1, t2, t3, t4, t5⟩ := e_tally σ6 τ6 w h ω1 ω2 N1 N2 i1 i2 r A6 d1
    refine ⟨σ7, τ7, fun rc m => ?_, ?_, t3, (F5.trans (d5.weak ?_)).trans (t4.weak ?_), (G5.trans (d6.weak ?_)).trans (t5.weak ?_)⟩
    · rw [eC rc m, r1, bd_def, if_neg (by rw [k1]; decide), q1, bd_def, d2, bd_def, t1, bd_def, e230]
    · rw [d3, bd_def]; exact t2
    · intro a b; unfold pPx pDC; grind
    · intro a b; unfold pPx; grind
    · intro a b; unfold qPx pDM; grind
    · intro a b; unfold qPx; grind
  · rw [if_neg (show ¬ oM.1.1 51 = 0 by rw [show oM.1.1 51 = 1 from k2]; decide), lt_def]
    have f6 : Fr (fun c k => c == 2 && k == 29) oC.1 (sA oC.1 29 (upd (oC.1.2.2.1 29) 7 ((oC.1.2.2.1 29 7) + 1))) := fr_sA Fr.rfl 29 _ rfl
    have g6 : Fr (fun c k => c == 2 && k == 56) oM.1 (sA oM.1 56 (upd (oM.1.2.2.1 56) 7 ((oM.1.2.2.1 56 7) + 1))) := fr_sA Fr.rfl 56 _ rfl
    refine ⟨_, _, fun rc m => ?_, rfl, A5.tr f6 g6 rfl rfl (A5.pic.tr f6 g6 (by decide) (by decide)) (fun j hj => rfl) A5.zer (cnt_up' 7 (by omega) A5.cnt) A5.qry, fr_sA F5 29 _ rfl, fr_sA G5 56 _ rfl⟩
    rw [eC rc m, r1, bd_def, if_pos k1, lt_def, e230]
