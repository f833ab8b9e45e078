/-! clearing -/
theorem what_bit (w : Nat) (h : w < 8) : ((Int32.ofNat w &&& 1 = (1 : Int32)) ↔ ¬ (Int32.ofNat w &&& 1 = (0 : Int32))) ∧ ((Int32.ofNat w &&& 2 = (2 : Int32)) ↔ ¬ (Int32.ofNat w &&& 2 = (0 : Int32))) ∧ ((Int32.ofNat w &&& 4 = (4 : Int32)) ↔ ¬ (Int32.ofNat w &&& 4 = (0 : Int32))) := by
  revert w; decide +kernel
def cldC (σ : Sg) (what : Int32) : Int32 := if (what &&& 2) = 0 then 0 else if (σ.2.2.1 1 190) < 0 then 1 else if (σ.2.2.1 1 191) = 1 then 1 else 0
def clsC (σ : Sg) : Int32 := if 0 ≤ (σ.2.2.1 1 192) then σ.2.2.1 1 195 else 255
theorem rg_m1 {u : Int32} {b : Int} (hu : rg u (-1) b) : (u = -1) ↔ u < 0 := by
  constructor
  · intro h; subst h; decide
  · intro c
    exact i_inj _ _ (by have := Int32.lt_iff_toInt_lt.mp c; have h := hu.1; show u.toInt = -1; have e0 : (0 : Int32).toInt = 0 := rfl; omega)
theorem e_clearPx (σ τ : Sg) (w h x y wh m b n n' : Nat) (a : PicR σ τ w h) (t : TesR σ τ) (hx : x < w) (hy : y < h) (hw : wh < 8) (bb col dep ste mm : Int32) (hs : rg ste 0 255) (hm : σ.2.2.1 1 214 = Int32.ofNat m) (hm2 : m < 16) (hb : ∀ k, k < 4 → bn bb k = if m / 2 ^ k % 2 = 1 then 255 else 0) (rc : Sg → Int32 → Int32 → Int32 → Int32 → Int32 → Int32 → Int32 → Int32 → Option (Sg)) (rc' : Sg → Int32 → Int32 → Int32 → Int32 → Int32 → Int32 → Option (Sg × Int32)) :
    ∃ σ' τ' mm', L_Pic_clear_91 rc (n + 1) σ (Int32.ofNat wh) col dep ste bb (cldC σ (Int32.ofNat wh)) (clsC σ) (Int32.ofNat y) (Int32.ofNat x) = L_Pic_clear_91 rc n σ' (Int32.ofNat wh) col dep ste bb (cldC σ (Int32.ofNat wh)) (clsC σ) (Int32.ofNat y) (Int32.ofNat (x + 1)) ∧
      L_Ptm_clear_76 rc' (n' + 1) τ (Int32.ofNat wh) col dep ste mm (Int32.ofNat y) (Int32.ofNat x) = L_Ptm_clear_76 rc' n' τ' (Int32.ofNat wh) col dep ste mm' (Int32.ofNat y) (Int32.ofNat (x + 1)) ∧ PicR σ' τ' w h ∧ Fr pDC σ σ' ∧ Fr pDM τ τ' := by
  have hcap := a.cap
  have hcap2 := a.cap2
  have w1 := a.w1
  have hi := pl_lt hx hy
  rw [L_Pic_clear_91, L_Ptm_clear_76, a.cw, a.x0, a.mw, show (0 + Int32.ofNat w : Int32) = Int32.ofNat w from by rw [show (0 : Int32) = Int32.ofNat 0 from rfl, n_add, Nat.zero_add],
    if_neg (fun e => absurd ((n_le w x (by omega) (by omega)).mp e) (by omega)), if_neg (fun e => absurd ((n_le w x (by omega) (by omega)).mp e) (by omega)), lt_def]
  obtain ⟨op, o1, o2⟩ := e_open σ τ w h x y a t hx hy
  rw [o1, o2, bd_def, bd_def]
  by_cases c : op = 0
  · rw [if_pos c, if_pos c]
    refine ⟨σ, τ, mm, ?_, ?_, a, Fr.rfl, Fr.rfl⟩
    · unfold F_Pic_clear_203; rw [lt_def, n_succ]
    · unfold F_Ptm_clear_279; rw [lt_def, n_succ]
  · rw [if_neg c, if_neg c, show ∀ (k : Int32 → Option (Sg × Int32)), lt (mm + 1) k = k (mm + 1) from fun _ => rfl]
    have ePl : F_Ptm_placeOf τ (Int32.ofNat x) (Int32.ofNat y) = some (Int32.ofNat (y * w + x)) := by
      unfold F_Ptm_placeOf
      rw [a.x0, a.y0, a.mw, show (Int32.ofNat y - 0 : Int32) = Int32.ofNat y by grind, pl_ix, show (Int32.ofNat (y * w + x) - 0 : Int32) = Int32.ofNat (y * w + x) by grind]
    rw [ePl, bd_def, pl_ix]
    generalize hI : y * w + x = i at hi
    have hl2 : ∀ υ : Sg, υ.2.2.2.2 = σ.2.2.2.2 → inb (Int32.ofNat i) (lenC υ 2) := fun υ e => n_inb i _ (show i < υ.2.2.2.2 0 by rw [e]; omega) (by omega)
    have hl3 : ∀ υ : Sg, υ.2.2.2.2 = σ.2.2.2.2 → inb (Int32.ofNat i) (lenC υ 3) := fun υ e => n_inb i _ (show i < υ.2.2.2.2 0 by rw [e]; omega) (by omega)
    have hl4 : ∀ υ : Sg, υ.2.2.2.2 = σ.2.2.2.2 → inb (Int32.ofNat i) (lenC υ 4) := fun υ e => n_inb i _ (show i < υ.2.2.2.2 0 by rw [e]; omega) (by omega)
    have hm' : inb (Int32.ofNat i) 16384 := n_inb i _ (by omega) (by omega)
    have hin := n_nat i (by omega)
    obtain ⟨q1, q2, q4⟩ := what_bit wh hw
    -- the colour
    have C : ∃ C, (if (Int32.ofNat wh &&& 1) = 0 then F_Pic_clear_159 rc (L_Pic_clear_91 rc n) σ (Int32.ofNat wh) col dep ste bb (cldC σ (Int32.ofNat wh)) (clsC σ) (Int32.ofNat y) (Int32.ofNat x) (Int32.ofNat i) else (ck (inb (Int32.ofNat i) (lenC σ 2)) (ck (inb (Int32.ofNat i) (lenC σ 2)) (lt (sA σ 2 (upd (σ.2.2.1 2) (Int32.ofNat i).toNatClampNeg (((σ.2.2.1 2 (Int32.ofNat i).toNatClampNeg) &&& (bb ^^^ (-1))) ||| (col &&& bb)))) (fun σ25 => F_Pic_clear_159 rc (L_Pic_clear_91 rc n) σ25 (Int32.ofNat wh) col dep ste bb (cldC σ (Int32.ofNat wh)) (clsC σ) (Int32.ofNat y) (Int32.ofNat x) (Int32.ofNat i))))))
        = F_Pic_clear_159 rc (L_Pic_clear_91 rc n) (sA σ 2 (upd (σ.2.2.1 2) i C)) (Int32.ofNat wh) col dep ste bb (cldC σ (Int32.ofNat wh)) (clsC σ) (Int32.ofNat y) (Int32.ofNat x) (Int32.ofNat i) ∧
        ∀ k, k < 4 → byt C k = if (Int32.ofNat wh &&& 1) = 1 ∧ m / 2 ^ k % 2 = 1 then byt col k else byt (σ.2.2.1 2 i) k := by
      by_cases d : (Int32.ofNat wh &&& 1) = 0
      · refine ⟨σ.2.2.1 2 i, by rw [if_pos d, upd_self, sA_self], fun k hk => ?_⟩
        rw [if_neg (fun e => q1.mp e.1 d)]
      · refine ⟨(σ.2.2.1 2 i &&& (bb ^^^ (-1))) ||| (col &&& bb), by rw [if_neg d, ck_pos (hl2 σ rfl), ck_pos (hl2 σ rfl), lt_def, hin], fun k hk => ?_⟩
        rw [byt_eq, bn_mix _ _ _ k hk (by rw [hb k hk]; split <;> simp), hb k hk]
        by_cases e : m / 2 ^ k % 2 = 1
        · rw [if_pos e, if_pos rfl, if_pos ⟨q1.mpr d, e⟩]; rfl
        · rw [if_neg e, if_neg (by omega), if_neg (fun h => e h.2)]; rfl
    obtain ⟨C, C1, C2⟩ := C
    rw [C1]
    have st : ∀ (f k : Nat) (υ : Sg), k < 4 → (Fr (fun c k => c == 2 && k == 45) τ υ ∧ (∀ j, j < k → υ.2.2.1 45 (4 * i + j) = byt C j) ∧ (∀ q, (q < 4 * i ∨ 4 * i + k ≤ q) → υ.2.2.1 45 q = τ.2.2.1 45 q)) →
        ∃ υ', L_Ptm_clear_120 rc' (L_Ptm_clear_76 rc' n') (f + 1) υ (Int32.ofNat wh) col dep ste (mm + 1) (Int32.ofNat y) (Int32.ofNat x) (Int32.ofNat i) (Int32.ofNat k) = L_Ptm_clear_120 rc' (L_Ptm_clear_76 rc' n') f υ' (Int32.ofNat wh) col dep ste (mm + 1) (Int32.ofNat y) (Int32.ofNat x) (Int32.ofNat i) (Int32.ofNat (k + 1)) ∧ (Fr (fun c k => c == 2 && k == 45) τ υ' ∧ (∀ j, j < k + 1 → υ'.2.2.1 45 (4 * i + j) = byt C j) ∧ (∀ q, (q < 4 * i ∨ 4 * i + (k + 1) ≤ q) → υ'.2.2.1 45 q = τ.2.2.1 45 q)) := by
      intro f k υ hk ⟨u1, u2, u3⟩
      have g4 : inb (Int32.ofNat (4 * i + k)) 65536 := n_inb _ _ (by omega) (by omega)
      have old : υ.2.2.1 45 (4 * i + k) = byt (σ.2.2.1 2 i) k := by rw [u3 _ (by omega)]; exact a.col i hi k hk
      refine ⟨sA υ 45 (upd (υ.2.2.1 45) (4 * i + k) (byt C k)), ?_, fr_sA u1 45 _ rfl, ?_, ?_⟩
      · rw [L_Ptm_clear_120, if_neg (show ¬ (4 : Int32) ≤ Int32.ofNat k from fun e => absurd ((n_le 4 k (by omega) (by omega)).mp e) (by omega)), u1.1 39 rfl, t.ma, hm, mask_bit m k hm2 hk]
        simp only [F_Ptm_clear_150, F_Ptm_clear_151, F_Ptm_clear_195, show (4 * Int32.ofNat i : Int32) = Int32.ofNat (4 * i) from n_mul 4 i, n_add, ck_pos g4, lt_def, n_nat (4 * i + k) (by omega), if_true, if_neg (show ¬ (1 : Int32) = 0 by decide), ix8 k hk, bn_sar col k hk, n_succ, old, C2 k hk]
        by_cases d : (Int32.ofNat wh &&& 1) = 1
        · rw [if_pos d]
          by_cases e : m / 2 ^ k % 2 = 1
          · rw [if_pos (by rw [e]; rfl), if_pos ⟨d, e⟩]
          · rw [if_neg (show ¬ Int32.ofNat (m / 2 ^ k % 2) = 1 from fun h => e ((n_inj _ 1 (by omega) (by omega)).mp h)), if_neg (fun h => e h.2)]
        · rw [if_neg d, if_neg (fun h => d h.1)]
      · intro j hj
        show upd (υ.2.2.1 45) (4 * i + k) (byt C k) (4 * i + j) = _
        by_cases c : j = k
        · subst c; rw [upd_eq]
        · rw [upd_ne _ _ _ _ (by omega)]; exact u2 j (by omega)
      · intro q hq
        show upd (υ.2.2.1 45) (4 * i + k) (byt C k) q = _
        rw [upd_ne _ _ _ _ (by omega)]; exact u3 q (by omega)
    obtain ⟨τ2, s2, v2⟩ := st 99999 0 τ (by omega) ⟨Fr.rfl, fun j hj => by omega, fun q _ => rfl⟩
    obtain ⟨τ3, s3, v3⟩ := st 99998 1 τ2 (by omega) v2
    obtain ⟨τ4, s4, v4⟩ := st 99997 2 τ3 (by omega) v3
    obtain ⟨τ5, s5, v5⟩ := st 99996 3 τ4 (by omega) v4
    have A1 : PicR (sA σ 2 (upd (σ.2.2.1 2) i C)) τ5 w h := by
      have q0 := a.set2 i C (τ5.2.2.1 45) v5.2.1 v5.2.2
      refine q0.tr (p := fun _ _ => false) Fr.rfl (q := fun _ _ => false) ?_ (by decide) (by decide)
      exact ⟨fun k _ => v5.1.1 k rfl, fun k _ => v5.1.2.1 k rfl, fun k _ => by
        rw [sA_3]
        by_cases c : k = 45
        · subst c; rw [if_pos rfl]
        · rw [if_neg c]; exact v5.1.2.2.1 k (by simp [c]), fun k _ => v5.1.2.2.2.1 k rfl, fun k _ => v5.1.2.2.2.2 k rfl⟩
    have T1 : TesR (sA σ 2 (upd (σ.2.2.1 2) i C)) τ5 := t.tr (p := fun c k => c == 2 && k == 2) (fr_sA Fr.rfl 2 _ rfl) v5.1 rfl (by decide)
    have F1 : Fr pDC σ (sA σ 2 (upd (σ.2.2.1 2) i C)) := fr_sA Fr.rfl 2 _ rfl
    have G1 : Fr pDM τ τ5 := v5.1.weak (by intro c k; unfold pDM; grind)
    have ecld : cldC σ (Int32.ofNat wh) = cldC (sA σ 2 (upd (σ.2.2.1 2) i C)) (Int32.ofNat wh) := rfl
    have ecls : clsC σ = clsC (sA σ 2 (upd (σ.2.2.1 2) i C)) := rfl
    have eN : (sA σ 2 (upd (σ.2.2.1 2) i C)).2.2.2.2 = σ.2.2.2.2 := rfl
    rw [show L_Ptm_clear_120 rc' (L_Ptm_clear_76 rc' n') 100000 τ (Int32.ofNat wh) col dep ste (mm + 1) (Int32.ofNat y) (Int32.ofNat x) (Int32.ofNat i) 0 = L_Ptm_clear_120 rc' (L_Ptm_clear_76 rc' n') (99999 + 1) τ (Int32.ofNat wh) col dep ste (mm + 1) (Int32.ofNat y) (Int32.ofNat x) (Int32.ofNat i) (Int32.ofNat 0) from rfl, s2, s3, s4, s5, L_Ptm_clear_120, if_pos (by decide)]
    clear C1 s2 s3 s4 s5
    generalize sA σ 2 (upd (σ.2.2.1 2) i C) = σ1 at A1 T1 F1 ecld ecls eN
    rw [ecld, ecls]
    -- the depth
    have D : ∃ D, F_Pic_clear_159 rc (L_Pic_clear_91 rc n) σ1 (Int32.ofNat wh) col dep ste bb (cldC σ1 (Int32.ofNat wh)) (clsC σ1) (Int32.ofNat y) (Int32.ofNat x) (Int32.ofNat i) = F_Pic_clear_172 rc (L_Pic_clear_91 rc n) (sA σ1 3 (upd (σ1.2.2.1 3) i D)) (Int32.ofNat wh) col dep ste bb (cldC σ1 (Int32.ofNat wh)) (clsC σ1) (Int32.ofNat y) (Int32.ofNat x) (Int32.ofNat i) ∧
        (if (Int32.ofNat wh &&& 2) = (2 : Int32) then (if (τ5.1 34) = (-1) then (F_Ptm_clear_230 rc' (L_Ptm_clear_76 rc' n') τ5 (Int32.ofNat wh) col dep ste (mm + 1) (Int32.ofNat y) (Int32.ofNat x) (Int32.ofNat i) (Int32.ofNat i)) else (if (τ5.1 35) = (0 : Int32) then (F_Ptm_clear_234 rc' (L_Ptm_clear_76 rc' n') τ5 (Int32.ofNat wh) col dep ste (mm + 1) (Int32.ofNat y) (Int32.ofNat x) (Int32.ofNat i) (Int32.ofNat i)) else (F_Ptm_clear_230 rc' (L_Ptm_clear_76 rc' n') τ5 (Int32.ofNat wh) col dep ste (mm + 1) (Int32.ofNat y) (Int32.ofNat x) (Int32.ofNat i) (Int32.ofNat i)))) else (F_Ptm_clear_234 rc' (L_Ptm_clear_76 rc' n') τ5 (Int32.ofNat wh) col dep ste (mm + 1) (Int32.ofNat y) (Int32.ofNat x) (Int32.ofNat i) (Int32.ofNat i)))
        = F_Ptm_clear_241 rc' (L_Ptm_clear_76 rc' n') τ5 (Int32.ofNat wh) col dep ste (mm + 1) (Int32.ofNat y) (Int32.ofNat x) (Int32.ofNat i) (Int32.ofNat i) D := by
      have dn : F_Ptm_clear_234 rc' (L_Ptm_clear_76 rc' n') τ5 (Int32.ofNat wh) col dep ste (mm + 1) (Int32.ofNat y) (Int32.ofNat x) (Int32.ofNat i) (Int32.ofNat i) = F_Ptm_clear_241 rc' (L_Ptm_clear_76 rc' n') τ5 (Int32.ofNat wh) col dep ste (mm + 1) (Int32.ofNat y) (Int32.ofNat x) (Int32.ofNat i) (Int32.ofNat i) (σ1.2.2.1 3 i) := by
        unfold F_Ptm_clear_234
        rw [ck_pos hm', hin, A1.dep i hi]
      unfold F_Pic_clear_159
      rw [ck_pos (hl3 σ1 eN), lt_def, hin, dn, T1.dt, T1.dw]
      unfold cldC F_Ptm_clear_230
      by_cases d : (Int32.ofNat wh &&& 2) = 0
      · exact ⟨σ1.2.2.1 3 i, by rw [if_pos d, if_pos rfl, upd_self, sA_self], by rw [if_neg (fun e => q2.mp e d)]⟩
      · rw [if_neg d, if_pos (q2.mpr d)]
        by_cases d1 : σ1.2.2.1 1 190 < 0
        · exact ⟨dep, by rw [if_pos d1, if_neg (by decide)], by rw [if_pos ((rg_m1 T1.dtr).mpr d1)]⟩
        · rw [if_neg d1, if_neg (fun e => d1 ((rg_m1 T1.dtr).mp e))]
          by_cases d2 : σ1.2.2.1 1 191 = 1
          · exact ⟨dep, by rw [if_pos d2, if_neg (by decide)], by rw [if_pos d2, if_neg (by decide)]⟩
          · exact ⟨σ1.2.2.1 3 i, by rw [if_neg d2, if_pos rfl, upd_self, sA_self], by rw [if_neg d2, if_pos rfl]⟩
    obtain ⟨D, D1, D2⟩ := D
    rw [D1, D2]
    unfold F_Ptm_clear_241
    rw [ck_pos hm', lt_def, hin]
    have A2 := A1.set3 i D
    have T2 : TesR (sA σ1 3 (upd (σ1.2.2.1 3) i D)) (sA τ5 46 (upd (τ5.2.2.1 46) i D)) := T1.tr (p := fun c k => c == 2 && k == 3) (q := fun c k => c == 2 && k == 46) (fr_sA Fr.rfl 3 _ rfl) (fr_sA Fr.rfl 46 _ rfl) rfl (by decide)
    have F2 : Fr pDC σ (sA σ1 3 (upd (σ1.2.2.1 3) i D)) := fr_sA F1 3 _ rfl
    have G2 : Fr pDM τ (sA τ5 46 (upd (τ5.2.2.1 46) i D)) := fr_sA G1 46 _ rfl
    have ecld2 : cldC σ1 (Int32.ofNat wh) = cldC (sA σ1 3 (upd (σ1.2.2.1 3) i D)) (Int32.ofNat wh) := rfl
    have ecls2 : clsC σ1 = clsC (sA σ1 3 (upd (σ1.2.2.1 3) i D)) := rfl
    have eN2 : (sA σ1 3 (upd (σ1.2.2.1 3) i D)).2.2.2.2 = σ.2.2.2.2 := eN
    clear D1 D2
    generalize sA σ1 3 (upd (σ1.2.2.1 3) i D) = σ2 at A2 T2 F2 ecld2 ecls2 eN2
    generalize sA τ5 46 (upd (τ5.2.2.1 46) i D) = τ6 at A2 T2 G2
    rw [ecld2, ecls2]
    unfold F_Pic_clear_172 F_Ptm_clear_276 F_Ptm_clear_279 F_Pic_clear_203
    obtain ⟨z1, z2, z3⟩ := A2.ste i hi
    have es0 : τ6.2.2.1 49 0 = σ2.2.2.1 1 192 := T2.st 0 (by omega)
    have es3 : τ6.2.2.1 49 3 = σ2.2.2.1 1 195 := T2.st 3 (by omega)
    by_cases d : (Int32.ofNat wh &&& 4) = 0
    · rw [if_pos d, if_neg (fun e => q4.mp e d), lt_def, lt_def, n_succ]
      exact ⟨σ2, τ6, mm + 1, rfl, rfl, A2, F2, G2⟩
    · rw [if_neg d, if_pos (q4.mpr d), ck_pos (hl4 σ2 eN2), ck_pos (hl4 σ2 eN2), lt_def, lt_def, hin, n_succ, es0, es3]
      have E : (if σ2.2.2.1 1 192 = -1 then (bd (F_Ptm_writeStencil τ6 (Int32.ofNat i) ste 255) fun o21 => lt (Int32.ofNat (x + 1)) fun y20 => L_Ptm_clear_76 rc' n' o21 (Int32.ofNat wh) col dep ste (mm + 1) (Int32.ofNat y) y20) else (bd (F_Ptm_writeStencil τ6 (Int32.ofNat i) ste (σ2.2.2.1 1 195)) fun o21 => lt (Int32.ofNat (x + 1)) fun y20 => L_Ptm_clear_76 rc' n' o21 (Int32.ofNat wh) col dep ste (mm + 1) (Int32.ofNat y) y20)) = L_Ptm_clear_76 rc' n' (sA τ6 47 (upd (τ6.2.2.1 47) i ((σ2.2.2.1 4 i &&& (clsC σ2 ^^^ (-1))) ||| (ste &&& clsC σ2)))) (Int32.ofNat wh) col dep ste (mm + 1) (Int32.ofNat y) (Int32.ofNat (x + 1)) := by
        unfold F_Ptm_writeStencil clsC
        simp only [ck_pos hm', lt_def, bd_def, hin, n_succ, z1]
        by_cases d1 : σ2.2.2.1 1 192 < 0
        · rw [if_pos ((rg_m1 (T2.str 0 (by omega)).1).mpr d1), if_neg (show ¬ 0 ≤ σ2.2.2.1 1 192 by grind)]
        · rw [if_neg (fun e => d1 ((rg_m1 (T2.str 0 (by omega)).1).mp e)), if_pos (show 0 ≤ σ2.2.2.1 1 192 by grind)]
      rw [E]
      exact ⟨_, _, mm + 1, rfl, rfl, A2.set4 i _ (mix_rng (σ2.2.2.1 4 i) ste (clsC σ2) ⟨z2, z3⟩ hs), fr_sA F2 4 _ rfl, fr_sA G2 47 _ rfl⟩
