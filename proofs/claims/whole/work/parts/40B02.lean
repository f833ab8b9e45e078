/-! a corner on both sides -/
theorem e_corner (c s mode t j : Nat) (ix : Bool) (σ τ : Sg) (w h : Nat) (ω1 ω2 : Nat → Int32) (N1 N2 i1 i2 : Nat) (d : Drw σ τ w h ω1 ω2 N1 N2 i1 i2) (a : Arg σ τ ix) (hm : mode ≤ 2) (ht : t ≤ 4096) (hj : j < 3) (hc : c < 2) (h5 : σ.2.2.2.2 5 = c)
    (hr : ∀ i, i < j → ∀ q, q < 32 → σ.2.2.1 (31 + 8 * c + i) q = τ.2.2.1 35 (32 * i + q)) :
    ∃ σ' τ', (∀ rc f v5, L_Drw_draw_131 rc (f + 1) σ i1 i2 (Int32.ofNat mode) v5 (Int32.ofNat t) (Int32.ofNat j) = L_Drw_draw_131 rc f σ' i1 i2 (Int32.ofNat mode) v5 (Int32.ofNat t) (Int32.ofNat (j + 1))) ∧
      (∀ rc f v4, L_Mod_draw_38 rc (f + 1) τ (Int32.ofNat mode) (bI ix) v4 (Int32.ofNat t) (Int32.ofNat j) = L_Mod_draw_38 rc f τ' (Int32.ofNat mode) (bI ix) v4 (Int32.ofNat t) (Int32.ofNat (j + 1))) ∧
      Drw σ' τ' w h ω1 ω2 N1 N2 i1 i2 ∧ (∀ i, i < j + 1 → ∀ q, q < 32 → σ'.2.2.1 (31 + 8 * c + i) q = τ'.2.2.1 35 (32 * i + q)) ∧ Fr pCn σ σ' ∧ Fr qCn τ τ' := by
  have hi1 : i1 < 3 := d.lo1.2.1.1
  have hi2 : i2 < 3 := d.lo2.2.1.1
  have ho : ordN mode t j ≤ 100000 := by unfold ordN; split <;> (try split) <;> (try split) <;> omega
  obtain ⟨fr, f1, f2⟩ := a.a1
  -- the vertex
  have V : ∃ (v : Int32) (τ1 : Sg), F_Drw_vertexOf σ (Int32.ofNat (ordN mode t j)) = some v ∧ F_Mod_corner (sI τ 21 0) (Int32.ofNat j) (Int32.ofNat (ordN mode t j)) (bI ix) = L_Mod_corner_48 100000 τ1 (Int32.ofNat j) v 0 ∧ Fr (fun c k => c == 0 && k == 21) τ τ1 := by
    unfold F_Drw_vertexOf F_Mod_corner F_Mod_corner_43
    cases ix with
    | false =>
      refine ⟨σ.2.2.1 5 1 + Int32.ofNat (ordN mode t j), sI τ 21 0, ?_, ?_, fr_sI Fr.rfl 21 0 rfl⟩
      · rw [if_pos (show σ.1 3 = 17 from a.k)]
      · rw [if_pos (show bI false = 0 from rfl), show (sI τ 21 0).2.2.1 3 = τ.2.2.1 3 from rfl, a.e1]
    | true =>
      obtain ⟨ty, t1, t2⟩ := a.a3 rfl
      obtain ⟨x1, -⟩ := e_index σ fr ty (ordN mode t j) f1 t1 ho
      obtain ⟨-, x2⟩ := e_index (sI τ 21 0) fr ty (ordN mode t j) f1 t1 ho
      refine ⟨σ.2.2.1 5 4 + idxv (σ.2.2.1 0) fr ty (ordN mode t j), sI (sI τ 21 0) 21 0, ?_, ?_, fr_sI (fr_sI Fr.rfl 21 0 rfl) 21 0 rfl⟩
      · rw [if_neg (by rw [a.k]; decide), f2, t2, x1, bd_def]
      · rw [if_neg (by decide), show (sI τ 21 0).2.2.1 3 = τ.2.2.1 3 from rfl, a.e1, a.e3 rfl, a.e4 rfl, f2, t2, x2, bd_def, show (sI τ 21 0).2.2.1 0 = τ.2.2.1 0 from rfl, d.mem]
  obtain ⟨v, τ1, v1, v2, v3⟩ := V
  -- the ins
  obtain ⟨g, l1, l2, l3⟩ := e_Ver_load (σ.2.2.1 0) (σ.2.2.1 1) σ v i1 hi1 rfl rfl
  obtain ⟨nf, τ2, m1, m2, m3⟩ := e_insM (σ.2.2.1 0) (σ.2.2.1 1) v (Int32.ofNat j) τ1 (by rw [v3.2.2.1 0 rfl]; exact d.mem) (by have := d.atr; unfold AtRel at this ⊢; rw [v3.2.2.1 34 rfl]; exact this)
  have F1 : Fr pCn σ (sA σ 10 g) := fr_sA Fr.rfl 10 _ rfl
  have G2 : Fr qCn τ τ2 := (v3.weak (by intro a b; unfold qCn; grind)).trans (m2.weak (by intro a b; unfold qCn; grind))
  have e1 : (sA σ 10 g).1 (24 + 3 * i1) = σ.1 (24 + 3 * i1) := rfl
  have L1 : Loaded ω1 N1 (rdb (σ.1 (24 + 3 * i1))) i1 0 (sA σ 10 g) τ2 :=
    d.lo1.tr (σ' := sA σ 10 g) (τ' := τ2) rfl rfl (F1.2.2.1 _ (by unfold pCn; simp; omega)) (G2.2.2.1 _ (by decide)) (G2.2.2.1 _ (by decide)) (G2.1 _ (by decide))
  have gA : (sA σ 10 g).2.2.1 10 = g := by rw [sA_3, if_pos rfl]
  obtain ⟨oC, oM, r1, r2, r3, r4, r5, r6⟩ := e_program ω1 N1 (rdb (σ.1 (24 + 3 * i1))) (σ.2.2.1 0) (σ.2.2.1 1) i1 0 (sA σ 10 g) τ2 (by omega) d.txo L1 rfl rfl (by rw [G2.2.2.1 0 rfl]; exact d.mem)
    (by have := d.txr; unfold TxRel at this ⊢; rw [G2.2.2.1 5 rfl, G2.2.2.1 6 rfl]; exact this) (fun k hk hrd => by rw [gA, l3 k hk hrd]; exact m3 k hk) (fun k hk => by rw [gA, l2 _ (by omega), G2.2.2.1 _ (by decide)]; exact d.un1 k hk) (fun k hk => by rw [gA, l2 _ (by omega)]; exact d.zer k hk)
  have F2 : Fr pCn σ oC.1 := F1.trans (r3.weak (by intro a b; unfold pCn pFol; grind))
  have G3 : Fr qCn τ oM.1 := G2.trans (r4.weak (by intro a b; unfold qCn pRn; grind))
  -- the outs
  have n5 : oC.1.2.2.2.2 5 = c := by rw [F2.2.2.2.2 5 rfl]; exact h5
  have lnr : lenC oC.1 (31 + 8 * c + j) = 32 := by
    have : c = 0 ∨ c = 1 := by omega
    have : j = 0 ∨ j = 1 ∨ j = 2 := by omega
    rcases ‹c = 0 ∨ c = 1› with rfl | rfl <;> rcases ‹j = 0 ∨ j = 1 ∨ j = 2› with rfl | rfl | rfl <;> rfl
  have eT : F_Sha_take oC.1 (Int32.ofNat j) 10 = some (sA oC.1 (31 + 8 * c + j) (va_cpy (oC.1.2.2.1 10) (oC.1.2.2.1 (31 + 8 * c + j)) 228 0 32)) := by
    unfold F_Sha_take
    rw [ck_pos (by decide), lt_def, n5, ck_pos hc, ck_pos (n_inb j 8 (by omega) (by omega)), lt_def, n_nat j (by omega), ck_pos (by omega), lnr, show lenC oC.1 10 = 260 from rfl, ck_pos (show cpok 228 0 32 260 32 by decide), lt_def]
    rfl
  obtain ⟨τ4, q1, q2, q3, q4⟩ := e_takeM oM.1 j hj
  have F3 : Fr pCn σ (sA oC.1 (31 + 8 * c + j) (va_cpy (oC.1.2.2.1 10) (oC.1.2.2.1 (31 + 8 * c + j)) 228 0 32)) := fr_sA F2 _ _ (by unfold pCn; simp; omega)
  have G4 : Fr qCn τ τ4 := G3.trans (q2.weak (by intro a b; unfold qCn; grind))
  have n10 : ¬ (10 : Nat) = 31 + 8 * c + j := by omega
  refine ⟨_, τ4, fun rc f v5 => ?_, fun rc f v4 => ?_, ?_, ?_, F3, G4⟩
  · rw [L_Drw_draw_131, ck_pos hi1, ck_pos hi2, if_neg (show ¬ (3 : Int32) ≤ Int32.ofNat j from fun e => absurd ((n_le 3 j (by omega) (by omega)).mp e) (by omega)), e_orderOf mode t j hm ht hj, bd_def, v1, bd_def, l1, bd_def, r1, bd_def, eT, bd_def, lt_def, n_succ]
  · rw [L_Mod_draw_38, if_neg (show ¬ (3 : Int32) ≤ Int32.ofNat j from fun e => absurd ((n_le 3 j (by omega) (by omega)).mp e) (by omega)), e_Vwm_corner τ mode t j hm ht hj, bd_def, v2, m1, L_Mod_corner_48, if_pos (by decide), r2, bd_def, q1, bd_def, lt_def, n_succ]
  · have un : ∀ k, k < 128 → (sA oC.1 (31 + 8 * c + j) (va_cpy (oC.1.2.2.1 10) (oC.1.2.2.1 (31 + 8 * c + j)) 228 0 32)).2.2.1 10 (96 + k) = σ.2.2.1 10 (96 + k) := fun k hk => by
      rw [sA_3, if_neg n10, ← r5.2.2.1 k hk, G3.2.2.1 _ (by decide)]; exact d.un1 k hk
    have hp : sP pCn = true := by decide
    have hq : sQ qCn = true := by decide
    refine d.tr F3 G4 hp hq (d.pic.tr F3 G4 (by decide) (by decide)) un (fun k hk => ?_) ?_ ?_
    · rw [sA_3, if_neg n10]; exact r5.2.2.2.1 k hk
    · rw [F3.2.2.1 29 rfl, G4.2.2.1 56 rfl]; exact d.cnt
    · rw [F3.2.2.1 30 rfl, G4.2.2.1 55 rfl]; exact d.qry
  · intro i hi q hq
    by_cases e : i = j
    · subst e
      rw [sA_3, if_pos rfl, q3 q hq, show oM.1.2.2.1 18 q = oC.1.2.2.1 10 (228 + q) from r5.2.2.2.2 q hq]
      unfold va_cpy
      rw [if_pos (by omega), Nat.sub_zero]
    · rw [sA_3, if_neg (by omega), r3.2.2.1 _ (by unfold pFol; simp; omega), q4 _ (by omega), r4.2.2.1 35 rfl, m2.2.2.1 35 rfl, v3.2.2.1 35 rfl, sA_3, if_neg (by omega)]
      exact hr i (by omega) q hq
def pMk : Nat → Nat → Bool := fun c k => (c == 0 && k == 16) || (c == 2 && ((24 ≤ k && k ≤ 27) || (31 ≤ k && k ≤ 46))) || (c == 4 && (k == 5 || k == 6))
def qMk : Nat → Nat → Bool := fun c k => (c == 0 && (k == 21 || k == 24 || k == 25 || k == 26)) || (c == 2 && (37 ≤ k && k ≤ 39))
/-- cut and laid -/
theorem e_polygon (c s : Nat) (σ τ : Sg) (w h : Nat) (ω1 ω2 : Nat → Int32) (N1 N2 i1 i2 : Nat) (d : Drw σ τ w h ω1 ω2 N1 N2 i1 i2) (hc : c < 2) (hs : s < 2) (hcs : c ≠ s) (h5 : σ.2.2.2.2 5 = c) (h6 : σ.2.2.2.2 6 = s)
    (hr : ∀ i, i < 3 → ∀ q, q < 32 → σ.2.2.1 (31 + 8 * c + i) q = τ.2.2.1 35 (32 * i + q)) :
    ∃ σ1 σ2 τ1 P, F_Sha_cut σ = some σ1 ∧ F_Sha_layAll σ1 = some σ2 ∧ F_Vwm_make τ = some (τ1, Int32.ofNat (P.length - 2)) ∧ Drw σ2 τ1 w h ω1 ω2 N1 N2 i1 i2 ∧ Pol P c σ2 τ1 ∧ Fr pMk σ σ2 ∧ Fr qMk τ τ1 ∧ P.length ≤ 6 := by
  let P0 : List (Nat → Int32) := [fun q => τ.2.2.1 35 (32 * 0 + q), fun q => τ.2.2.1 35 (32 * 1 + q), fun q => τ.2.2.1 35 (32 * 2 + q)]
  have gP : ∀ i, i < 3 → ∀ q, P0.getD i (fun _ => 0) q = τ.2.2.1 35 (32 * i + q) := by
    intro i hi q
    have : i = 0 ∨ i = 1 ∨ i = 2 := by omega
    rcases this with rfl | rfl | rfl <;> rfl
  have r0 : RowsC (sI σ 16 3) (31 + 8 * c) P0 := fun i hi q hq => by
    have hi' : i < 3 := hi
    rw [gP i hi' q]; exact hr i hi' q hq
  obtain ⟨σa, a1, a2, a3, a4, a5, a6⟩ := e_cutBy P0 true (sI σ 16 3) c s (Or.inr (Or.inl rfl)) rfl h5 h6 hc hs hcs r0
  have lenA := cutL_len P0 true rfl
  obtain ⟨σb, b1, b2, b3, b4, b5, b6⟩ := e_cutBy (cutL P0 true) false σa s c lenA a3 a4 a5 hs hc (Ne.symm hcs) a6
  have lenB := cutL_len6 (cutL P0 true) false lenA
  have F0 : Fr pMk σ σb := (fr_sI (p := pMk) (σ := σ) Fr.rfl 16 3 rfl).trans ((a2.weak (by intro a b; unfold pMk pSh; grind)).trans (b2.weak (by intro a b; unfold pMk pSh; grind)))
  have k1 : σb.2.2.1 1 = σ.2.2.1 1 := F0.2.2.1 1 rfl
  have pw := cutL_w (cutL P0 true)
  obtain ⟨σc, c1, c2, c3⟩ := e_layAll (σ.2.2.1 1) (cutL (cutL P0 true) false) σb c k1 b4 b3 hc b6 (by omega) pw
  have F1 : Fr pMk σ σc := F0.trans (c2.weak (by intro a b; unfold pMk pLy; grind))
  -- the reference
  have cp : ∀ (r k f : Nat) (υ : Sg), k + r = 96 → r < f → Fr (fun c k => (c == 0 && (k == 21 || k == 24)) || (c == 2 && k == 37)) τ υ → υ.1 24 = 3 → (∀ p, p < k → υ.2.2.1 37 p = τ.2.2.1 35 p) →
      ∃ υ', L_Vwm_make_12 f υ (Int32.ofNat k) = bd (F_Vwm_cut υ' 0) (fun o49 => bd (F_Vwm_cut o49 1) (fun o50 => L_Vwm_make_48 100000 o50 0)) ∧ Fr (fun c k => (c == 0 && (k == 21 || k == 24)) || (c == 2 && k == 37)) τ υ' ∧ υ'.1 24 = 3 ∧ (∀ p, p < 96 → υ'.2.2.1 37 p = τ.2.2.1 35 p) := by
    intro r
    induction r with
    | zero =>
      intro k f υ hk hf F h24 hp
      refine ⟨υ, ?_, F, h24, fun p hp' => hp p (by omega)⟩
      rw [show f = (f - 1) + 1 by omega, L_Vwm_make_12, if_pos (show (96 : Int32) ≤ Int32.ofNat k from (n_le 96 k (by omega) (by omega)).mpr (by omega))]
    | succ r ih =>
      intro k f υ hk hf F h24 hp
      rw [show f = (f - 1) + 1 by omega, L_Vwm_make_12, if_neg (show ¬ (96 : Int32) ≤ Int32.ofNat k from fun e => absurd ((n_le 96 k (by omega) (by omega)).mp e) (by omega)), ck_pos (n_inb k 96 (by omega) (by omega)), ck_pos (n_inb k 256 (by omega) (by omega)), lt_def, lt_def, n_succ, n_nat k (by omega)]
      refine ih (k + 1) (f - 1) _ (by omega) (by omega) (fr_sA F 37 _ rfl) h24 (fun p hp' => ?_)
      show upd (υ.2.2.1 37) k (υ.2.2.1 35 k) p = _
      by_cases e : p = k
      · subst e; rw [upd_eq, F.2.2.1 35 rfl]
      · rw [upd_ne _ _ _ _ e]; exact hp p (by omega)
  obtain ⟨τa, x1, x2, x3, x4⟩ := cp 96 0 100000 (sI (sI τ 21 0) 24 3) (by omega) (by omega) (fr_sI (fr_sI Fr.rfl 21 0 rfl) 24 3 rfl) (by rw [sI_1, if_pos rfl]) (fun p hp => by omega)
  have m0 : RowsM τa 37 P0 := fun i hi q hq => by
    have hi' : i < 3 := hi
    rw [gP i hi' q]; exact x4 _ (by omega)
  obtain ⟨τb, y1, y2, y3, y4⟩ := e_Vcut P0 true τa (Or.inr (Or.inl rfl)) x3 m0
  obtain ⟨τc, z1, z2, z3, z4⟩ := e_Vcut (cutL P0 true) false τb lenA y3 y4
  have G0 : Fr qMk τ τc := (x2.weak (by intro a b; unfold qMk; grind)).trans ((y2.weak (by intro a b; unfold qMk pVc; grind)).trans (z2.weak (by intro a b; unfold qMk pVc; grind)))
  obtain ⟨τd, w1, w2, w3, w4⟩ := e_make48 (σ.2.2.1 1) (cutL (cutL P0 true) false) τc (by have := d.vwr; unfold VwRel at this ⊢; rw [G0.2.2.1 36 rfl]; exact this) d.vwo z3 z4 (by omega) pw (by omega)
  have G1 : Fr qMk τ τd := G0.trans (w2.weak (by intro a b; unfold qMk; grind))
  have k2 : σc.2.2.1 1 = σ.2.2.1 1 := F1.2.2.1 1 rfl
  refine ⟨σb, σc, τd, cutL (cutL P0 true) false, ?_, c1, ?_, ?_, ?_, F1, G1, by omega⟩
  · unfold F_Sha_cut
    rw [lt_def, show F_Sha_cutBy (sI σ 16 3) 1 = some σa from a1, bd_def, show F_Sha_cutBy σa 0 = some σb from b1, bd_def]
  · unfold F_Vwm_make
    rw [lt_def, lt_def, show L_Vwm_make_12 100000 (sI (sI τ 21 0) 24 3) 0 = _ from x1, show F_Vwm_cut τa 0 = some τb from y1, bd_def, show F_Vwm_cut τb 1 = some τc from z1, bd_def, w1]
  · have hp : sP pMk = true := by decide
    have hq : sQ qMk = true := by decide
    exact d.tr F1 G1 hp hq (d.pic.tr F1 G1 (by decide) (by decide)) (fun j hj => by rw [F1.2.2.1 10 rfl]) (fun j hj => by rw [F1.2.2.1 10 rfl]; exact d.zer j hj) (by rw [F1.2.2.1 29 rfl, G1.2.2.1 56 rfl]; exact d.cnt) (by rw [F1.2.2.1 30 rfl, G1.2.2.1 55 rfl]; exact d.qry)
  · refine ⟨by rw [c2.2.2.2.2 5 rfl]; exact b4, hc, by rw [c2.2.2.2.2 6 rfl, b5]; exact ⟨hs, Ne.symm hcs⟩, by rw [c2.1 16 rfl]; exact b3, ?_, by rw [k2]; exact c3, w4, ?_, by rw [k2]; exact w3, lenB, pw⟩
    · intro j hj k hk
      rw [c2.2.2.1 _ (by unfold pLy; simp; omega)]; exact b6 j hj k hk
    · have := z4; unfold RowsM at this ⊢; rw [w2.2.2.1 37 rfl]; exact this
