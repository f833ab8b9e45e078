/-! filling -/
theorem e_tri214 (rc : Sg → Int32 → Int32 → Option Sg) (m : Nat) (τ : Sg) (v2 : Int32) (x y : Nat) : F_Mod_triangle_214 rc (L_Mod_triangle_157 rc m) τ v2 (Int32.ofNat y) (Int32.ofNat x) = L_Mod_triangle_157 rc m τ v2 (Int32.ofNat y) (Int32.ofNat (x + 1)) := by
  unfold F_Mod_triangle_214; rw [lt_def, n_succ]
/-- the reference goes over places that aren't covered -/
theorem ref_skip (X Y : Nat → Int32) (w h LM RM TM BM : Nat) (τ : Sg) (v2 : Int32) (y : Nat) (hw : w ≤ 128) (hy : y < 128) (hX : XyOK X) (hY : XyOK Y) (hR : RasM X Y τ) (hb : BoxR X Y LM RM TM BM τ) (hRM : RM ≤ w) (rc : Sg → Int32 → Int32 → Option Sg) :
    ∀ (d x n : Nat), x + d ≤ RM → (∀ z, x ≤ z → z < x + d → ¬ cov X Y z y) → L_Mod_triangle_157 rc (n + d) τ v2 (Int32.ofNat y) (Int32.ofNat x) = L_Mod_triangle_157 rc n τ v2 (Int32.ofNat y) (Int32.ofNat (x + d)) := by
  intro d
  induction d with
  | zero => intro x n _ _; rfl
  | succ d ih =>
    intro x n hx hc
    obtain ⟨v, a1, z, a2, a3⟩ := hb.e2
    obtain ⟨b, c1, c2⟩ := e_isCovered X Y τ x y (by omega) hy hR hX hY
    have hbf : b = false := by
      cases b
      · rfl
      · exact absurd (c2.mp rfl) (hc x (by omega) (by omega))
    subst hbf
    rw [show n + (d + 1) = (n + d) + 1 by omega, L_Mod_triangle_157, a1, bd_def, a2, bd_def, if_neg (fun e => absurd ((a3 x (by omega)).mp e) (by omega)), c1, bd_def, if_pos (by rfl), e_tri214, ih (x + 1) n (by omega) (fun z h1 h2 => hc z (by omega) (by omega)), show x + 1 + d = x + (d + 1) by omega]
theorem ref_rowend (X Y : Nat → Int32) (w h LM RM TM BM : Nat) (τ : Sg) (v2 : Int32) (y : Nat) (hw : w ≤ 128) (hy : y < 128) (hX : XyOK X) (hY : XyOK Y) (hR : RasM X Y τ) (hb : BoxR X Y LM RM TM BM τ) (hRM : RM ≤ w) (rc : Sg → Int32 → Int32 → Option Sg) (x n : Nat) (hn : 200 < n) (hx9 : x < 5000) (hc : ∀ z, x ≤ z → z < RM → ¬ cov X Y z y) :
    L_Mod_triangle_157 rc n τ v2 (Int32.ofNat y) (Int32.ofNat x) = rc τ v2 (Int32.ofNat (y + 1)) := by
  have fin : ∀ x n, RM ≤ x → x < 5000 → L_Mod_triangle_157 rc (n + 1) τ v2 (Int32.ofNat y) (Int32.ofNat x) = rc τ v2 (Int32.ofNat (y + 1)) := by
    intro x n hx hx9
    obtain ⟨v, a1, z, a2, a3⟩ := hb.e2
    rw [L_Mod_triangle_157, a1, bd_def, a2, bd_def, if_pos ((a3 x hx9).mpr hx), lt_def, n_succ]
  by_cases c : RM ≤ x
  · rw [show n = (n - 1) + 1 by omega]; exact fin x _ c hx9
  · rw [show n = (n - (RM - x) - 1) + 1 + (RM - x) by omega, ref_skip X Y w h LM RM TM BM τ v2 y hw hy hX hY hR hb hRM rc (RM - x) x _ (by omega) (fun z h1 h2 => hc z h1 (by omega)), show x + (RM - x) = RM by omega]
    exact fin RM _ (Nat.le_refl _) (by omega)
theorem Box.tr {X Y : Nat → Int32} {w h L R T B LM RM TM BM : Nat} {σ σ' : Sg} (a : Box X Y w h L R T B LM RM TM BM σ) (hs : Fr pPx σ σ') : Box X Y w h L R T B LM RM TM BM σ' :=
  ⟨by rw [hs.1 18 rfl]; exact a.l, by rw [hs.1 19 rfl]; exact a.r, by rw [hs.1 20 rfl]; exact a.t, by rw [hs.1 21 rfl]; exact a.b, a.lm, a.rm, a.tm, a.bm, a.rw_, a.bh, a.ll, a.cv⟩
theorem e_row (X Y D Q : Nat → Int32) (V : Nat → Nat → Int32) (k c : Nat) (w h : Nat) (ω1 ω2 : Nat → Int32) (N1 N2 i1 i2 y n : Nat) (hy : y < h) (hn : n < 2) (L R T B LM RM TM BM : Nat)
    (hB : ∀ τ : Sg, RasM X Y τ → τ.1 1 = Int32.ofNat w → τ.1 2 = Int32.ofNat h → BoxR X Y LM RM TM BM τ) (rc : Sg → Nat → Int32 → Int32 → Option Sg) (rc' : Sg → Int32 → Int32 → Option Sg) :
    ∀ (d x f f' : Nat) (σ τ : Sg), R ≤ x + d → x < 5000 → d < f → d + 200 < f' → Drw σ τ w h ω1 ω2 N1 N2 i1 i2 → Tri X Y D Q V k c σ τ → ((σ.1 17 = 0) ↔ n = 1) → Box X Y w h L R T B LM RM TM BM σ →
      ∃ σ' τ', L_Drw_fill_75 rc f σ i2 (Int32.ofNat n) (Int32.ofNat y) (Int32.ofNat x) = rc σ' i2 (Int32.ofNat n) (Int32.ofNat (y + 1)) ∧ L_Mod_triangle_157 rc' f' τ (Int32.ofNat n) (Int32.ofNat y) (Int32.ofNat x) = rc' τ' (Int32.ofNat n) (Int32.ofNat (y + 1)) ∧ Drw σ' τ' w h ω1 ω2 N1 N2 i1 i2 ∧ Fr pPx σ σ' ∧ Fr qPx τ τ' := by
  have fin : ∀ (x f f' : Nat) (σ τ : Sg), R ≤ x → x < 5000 → 0 < f → 200 < f' → Drw σ τ w h ω1 ω2 N1 N2 i1 i2 → Tri X Y D Q V k c σ τ → Box X Y w h L R T B LM RM TM BM σ →
      ∃ σ' τ', L_Drw_fill_75 rc f σ i2 (Int32.ofNat n) (Int32.ofNat y) (Int32.ofNat x) = rc σ' i2 (Int32.ofNat n) (Int32.ofNat (y + 1)) ∧ L_Mod_triangle_157 rc' f' τ (Int32.ofNat n) (Int32.ofNat y) (Int32.ofNat x) = rc' τ' (Int32.ofNat n) (Int32.ofNat (y + 1)) ∧ Drw σ' τ' w h ω1 ω2 N1 N2 i1 i2 ∧ Fr pPx σ σ' ∧ Fr qPx τ τ' := by
    intro x f f' σ τ hR hx9 hf hf' a t b
    have w1 := a.pic.w1
    have h1 := a.pic.h1
    refine ⟨σ, τ, ?_, ?_, a, Fr.rfl, Fr.rfl⟩
    · rw [show f = (f - 1) + 1 by omega, L_Drw_fill_75, ck_pos a.lo2.2.1.1, if_pos ((b.r x hx9).mpr hR), lt_def, n_succ]
    · exact ref_rowend X Y w h LM RM TM BM τ (Int32.ofNat n) y (by omega) (by omega) t.hX t.hY t.ras (hB τ t.ras a.mw a.mh) b.rw_ rc' x f' hf' hx9 (fun z z1 z2 e => by have := b.cv z y (by have := b.rw_; omega) hy e; omega)
  intro d
  induction d with
  | zero => intro x f f' σ τ hR hx9 hf hf' a t _ b; exact fin x f f' σ τ (by omega) hx9 hf (by omega) a t b
  | succ d ih =>
    intro x f f' σ τ hR hx9 hf hf' a t hfr b
    by_cases c0 : R ≤ x
    · exact fin x f f' σ τ c0 hx9 (by omega) (by omega) a t b
    have w1 := a.pic.w1
    have h1 := a.pic.h1
    have hi2 : i2 < 3 := a.lo2.2.1.1
    have brm := b.rm
    have brw := b.rw_
    have hnb : ¬ σ.1 19 < Int32.ofNat x := fun e => c0 ((b.r x hx9).mp e)
    have bR := hB τ t.ras a.mw a.mh
    obtain ⟨v, q1, z, q2, q3⟩ := bR.e2
    obtain ⟨bb, c1, c2⟩ := e_isCovered X Y τ x y (by omega) (by omega) t.ras t.hX t.hY
    rw [show f = (f - 1) + 1 by omega, show f' = (f' - 1) + 1 by omega]
    have eM : L_Mod_triangle_157 rc' (f' - 1 + 1) τ (Int32.ofNat n) (Int32.ofNat y) (Int32.ofNat x) = if bI bb = 0 then L_Mod_triangle_157 rc' (f' - 1) τ (Int32.ofNat n) (Int32.ofNat y) (Int32.ofNat (x + 1)) else (bd (F_Mod_place (sA τ 56 (upd (τ.2.2.1 56) 8 ((τ.2.2.1 56 8) + 1))) (Int32.ofNat x) (Int32.ofNat y) (Int32.ofNat n)) (fun o29 => L_Mod_triangle_157 rc' (f' - 1) o29 (Int32.ofNat n) (Int32.ofNat y) (Int32.ofNat (x + 1)))) := by
      rw [L_Mod_triangle_157, q1, bd_def, q2, bd_def, if_neg (fun e => absurd ((q3 x hx9).mp e) (by omega)), c1, bd_def, lt_def]
      simp only [e_tri214]
    rw [eM]
    by_cases cc : cov X Y x y
    · have : bb = true := c2.mpr cc
      subst this
      rw [if_neg (show ¬ bI true = 0 by decide)]
      obtain ⟨σ1, τ1, s1, s2, s3, s4, s5⟩ := e_pixel X Y D Q V k c σ τ w h ω1 ω2 N1 N2 i1 i2 x y n a t (by omega) hy cc hn hfr hnb
      rw [s1, s2, bd_def]
      obtain ⟨σ2, τ2, u1, u2, u3, u4, u5⟩ := ih (x + 1) (f - 1) (f' - 1) σ1 τ1 (by omega) (by omega) (by omega) (by omega) s3 (t.tr s4 s5 tP_px tQ_px) (by rw [s4.1 17 rfl]; exact hfr) (b.tr s4)
      exact ⟨σ2, τ2, u1, u2, u3, s4.trans u4, s5.trans u5⟩
    · have : bb = false := by
        cases bb
        · rfl
        · exact absurd (c2.mp rfl) cc
      subst this
      rw [if_pos (show bI false = 0 by rfl)]
      obtain ⟨σ1, b2, d1, d2, d3, d4⟩ := e_covers X Y x y σ (by omega) (by omega) t.hX t.hY t.ed t.ar
      have : b2 = false := by
        cases b2
        · rfl
        · exact absurd (d3.mp rfl) cc
      subst this
      have F1 : Fr pPx σ σ1 := d2.weak (by intro a b; unfold pPx pWt; grind)
      have A1 : Drw σ1 τ w h ω1 ω2 N1 N2 i1 i2 := a.tr d2 (Fr.rfl (p := fun _ _ => false)) rfl rfl (a.pic.tr (q := fun _ _ => false) d2 Fr.rfl (by decide) (by decide)) (fun j hj => by rw [d2.2.2.1 10 rfl]) (fun j hj => by rw [d2.2.2.1 10 rfl]; exact a.zer j hj) (by rw [d2.2.2.1 29 rfl]; exact a.cnt) (by rw [d2.2.2.1 30 rfl]; exact a.qry)
      have eC : L_Drw_fill_75 rc (f - 1 + 1) σ i2 (Int32.ofNat n) (Int32.ofNat y) (Int32.ofNat x) = L_Drw_fill_75 rc (f - 1) σ1 i2 (Int32.ofNat n) (Int32.ofNat y) (Int32.ofNat (x + 1)) := by
        rw [L_Drw_fill_75, ck_pos hi2, if_neg hnb, d1, bd_def, if_pos (show bI false = 0 by rfl)]
        unfold F_Drw_fill_230
        rw [ck_pos hi2, lt_def, n_succ]
      rw [eC]
      obtain ⟨σ2, τ2, u1, u2, u3, u4, u5⟩ := ih (x + 1) (f - 1) (f' - 1) σ1 τ (by omega) (by omega) (by omega) (by omega) A1 (t.tr F1 (Fr.rfl (p := qPx)) tP_px tQ_px) (by rw [F1.1 17 rfl]; exact hfr) (b.tr F1)
      exact ⟨σ2, τ2, u1, u2, u3, F1.trans u4, u5⟩
theorem ref_rows (X Y : Nat → Int32) (w h LM RM TM BM : Nat) (τ : Sg) (v2 : Int32) (hw : w ≤ 128) (hh : h ≤ 128) (hX : XyOK X) (hY : XyOK Y) (hR : RasM X Y τ) (hb : BoxR X Y LM RM TM BM τ) (hRM : RM ≤ w) (hBM : BM ≤ h) (hLM : LM < 5000) :
    ∀ (d y n : Nat), y + d ≤ BM → (∀ z u, y ≤ u → u < y + d → z < RM → ¬ cov X Y z u) → L_Mod_triangle_116 (n + d) τ v2 (Int32.ofNat y) = L_Mod_triangle_116 n τ v2 (Int32.ofNat (y + d)) := by
  intro d
  induction d with
  | zero => intro y n _ _; rfl
  | succ d ih =>
    intro y n hy hc
    obtain ⟨v, a1, z, a2, a3⟩ := hb.e4
    obtain ⟨u, b1, b2⟩ := hb.e1
    rw [show n + (d + 1) = (n + d) + 1 by omega, L_Mod_triangle_116, a1, bd_def, a2, bd_def, if_neg (fun e => absurd ((a3 y (by omega)).mp e) (by omega)), b1, bd_def, b2, bd_def,
      ref_rowend X Y w h LM RM TM BM τ v2 y hw (by omega) hX hY hR hb hRM (L_Mod_triangle_116 (n + d)) LM 100000 (by omega) hLM (fun z z1 z2 => hc z y (by omega) (by omega) z2), ih (y + 1) n (by omega) (fun z u h1 h2 h3 => hc z u (by omega) (by omega) h3), show y + 1 + d = y + (d + 1) by omega]
theorem ref_end (X Y : Nat → Int32) (w h LM RM TM BM : Nat) (τ : Sg) (v2 : Int32) (hw : w ≤ 128) (hh : h ≤ 128) (hX : XyOK X) (hY : XyOK Y) (hR : RasM X Y τ) (hb : BoxR X Y LM RM TM BM τ) (hRM : RM ≤ w) (hBM : BM ≤ h) (hLM : LM < 5000) (y n : Nat) (hn : 200 < n) (hy5 : y < 5000) (hc : ∀ z u, y ≤ u → u < BM → z < RM → ¬ cov X Y z u) :
    L_Mod_triangle_116 n τ v2 (Int32.ofNat y) = some τ := by
  have fin : ∀ y n, BM ≤ y → y < 5000 → L_Mod_triangle_116 (n + 1) τ v2 (Int32.ofNat y) = some τ := by
    intro y n h1 h2
    obtain ⟨v, a1, z, a2, a3⟩ := hb.e4
    rw [L_Mod_triangle_116, a1, bd_def, a2, bd_def, if_pos ((a3 y h2).mpr h1)]
  by_cases c : BM ≤ y
  · rw [show n = (n - 1) + 1 by omega]; exact fin y _ c hy5
  · rw [show n = (n - (BM - y) - 1) + 1 + (BM - y) by omega, ref_rows X Y w h LM RM TM BM τ v2 hw hh hX hY hR hb hRM hBM hLM (BM - y) y _ (by omega) (fun z u h1 h2 h3 => hc z u h1 (by omega) h3), show y + (BM - y) = BM by omega]
    exact fin BM _ (Nat.le_refl _) (by omega)
theorem e_fullrow (X Y D Q : Nat → Int32) (V : Nat → Nat → Int32) (k c : Nat) (w h : Nat) (ω1 ω2 : Nat → Int32) (N1 N2 i1 i2 y n : Nat) (hy : y < h) (hn : n < 2) (L R T B LM RM TM BM : Nat)
    (hB : ∀ τ : Sg, RasM X Y τ → τ.1 1 = Int32.ofNat w → τ.1 2 = Int32.ofNat h → BoxR X Y LM RM TM BM τ) (rc : Sg → Nat → Int32 → Int32 → Option Sg) (rc' : Sg → Int32 → Int32 → Option Sg)
    (σ τ : Sg) (a : Drw σ τ w h ω1 ω2 N1 N2 i1 i2) (t : Tri X Y D Q V k c σ τ) (hf : (σ.1 17 = 0) ↔ n = 1) (b : Box X Y w h L R T B LM RM TM BM σ) :
      ∃ σ' τ', L_Drw_fill_75 rc 100000 σ i2 (Int32.ofNat n) (Int32.ofNat y) (σ.1 18) = rc σ' i2 (Int32.ofNat n) (Int32.ofNat (y + 1)) ∧ L_Mod_triangle_157 rc' 100000 τ (Int32.ofNat n) (Int32.ofNat y) (Int32.ofNat LM) = rc' τ' (Int32.ofNat n) (Int32.ofNat (y + 1)) ∧ Drw σ' τ' w h ω1 ω2 N1 N2 i1 i2 ∧ Fr pPx σ σ' ∧ Fr qPx τ τ' := by
  have w1 := a.pic.w1
  have h1 := a.pic.h1
  have brm := b.rm
  have brw := b.rw_
  have blm := b.lm
  have bll := b.ll
  have bR := hB τ t.ras a.mw a.mh
  rw [b.l]
  by_cases c0 : L ≤ RM
  · rw [show (100000 : Nat) = (100000 - (L - LM)) + (L - LM) by omega, ref_skip X Y w h LM RM TM BM τ (Int32.ofNat n) y (by omega) (by omega) t.hX t.hY t.ras bR brw rc' (L - LM) LM _ (by omega) (fun z h1 h2 e => by have := b.cv z y (by omega) hy e; omega), show LM + (L - LM) = L by omega, show (100000 - (L - LM)) + (L - LM) = 100000 by omega]
    exact e_row X Y D Q V k c w h ω1 ω2 N1 N2 i1 i2 y n hy hn L R T B LM RM TM BM hB rc rc' R L 100000 (100000 - (L - LM)) σ τ (by omega) (by omega) (by omega) (by omega) a t hf b
  · refine ⟨σ, τ, ?_, ?_, a, Fr.rfl, Fr.rfl⟩
    · rw [show (100000 : Nat) = 99999 + 1 from rfl, L_Drw_fill_75, ck_pos a.lo2.2.1.1, if_pos ((b.r L (by omega)).mpr (by omega)), lt_def, n_succ]
    · exact ref_rowend X Y w h LM RM TM BM τ (Int32.ofNat n) y (by omega) (by omega) t.hX t.hY t.ras bR brw rc' LM 100000 (by omega) (by omega) (fun z z1 z2 e => by have := b.cv z y (by omega) hy e; omega)
theorem e_rows (X Y D Q : Nat → Int32) (V : Nat → Nat → Int32) (k c : Nat) (w h : Nat) (ω1 ω2 : Nat → Int32) (N1 N2 i1 i2 n : Nat) (hn : n < 2) (L R T B LM RM TM BM : Nat)
    (hB : ∀ τ : Sg, RasM X Y τ → τ.1 1 = Int32.ofNat w → τ.1 2 = Int32.ofNat h → BoxR X Y LM RM TM BM τ) :
    ∀ (d y f f' : Nat) (σ τ : Sg), B ≤ y + d → y ≤ 2000 → d < f → d + 400 < f' → Drw σ τ w h ω1 ω2 N1 N2 i1 i2 → Tri X Y D Q V k c σ τ → ((σ.1 17 = 0) ↔ n = 1) → Box X Y w h L R T B LM RM TM BM σ →
      ∃ σ' τ', L_Drw_fill_54 f σ i2 (Int32.ofNat n) (Int32.ofNat y) = some σ' ∧ L_Mod_triangle_116 f' τ (Int32.ofNat n) (Int32.ofNat y) = some τ' ∧ Drw σ' τ' w h ω1 ω2 N1 N2 i1 i2 ∧ Fr pPx σ σ' ∧ Fr qPx τ τ' := by
  have fin : ∀ (y f f' : Nat) (σ τ : Sg), B ≤ y → y ≤ 2000 → 0 < f → 200 < f' → Drw σ τ w h ω1 ω2 N1 N2 i1 i2 → Tri X Y D Q V k c σ τ → Box X Y w h L R T B LM RM TM BM σ →
      ∃ σ' τ', L_Drw_fill_54 f σ i2 (Int32.ofNat n) (Int32.ofNat y) = some σ' ∧ L_Mod_triangle_116 f' τ (Int32.ofNat n) (Int32.ofNat y) = some τ' ∧ Drw σ' τ' w h ω1 ω2 N1 N2 i1 i2 ∧ Fr pPx σ σ' ∧ Fr qPx τ τ' := by
    intro y f f' σ τ hb hy hf hf' a t b
    have w1 := a.pic.w1
    have h1 := a.pic.h1
    have brw := b.rw_
    have bbh := b.bh
    have blm := b.lm
    have bll := b.ll
    refine ⟨σ, τ, ?_, ?_, a, Fr.rfl, Fr.rfl⟩
    · rw [show f = (f - 1) + 1 by omega, L_Drw_fill_54, ck_pos a.lo2.2.1.1, if_pos ((b.b y (by omega)).mpr hb)]
    · exact ref_end X Y w h LM RM TM BM τ (Int32.ofNat n) (by omega) (by omega) t.hX t.hY t.ras (hB τ t.ras a.mw a.mh) brw bbh (by omega) y f' hf' (by omega) (fun z u h1 h2 h3 e => by have := b.cv z u (by omega) (by omega) e; omega)
  intro d
  induction d with
  | zero => intro y f f' σ τ hb hy hf hf' a t _ b; exact fin y f f' σ τ (by omega) hy hf (by omega) a t b
  | succ d ih =>
    intro y f f' σ τ hb hy hf hf' a t hfr b
    by_cases c0 : B ≤ y
    · exact fin y f f' σ τ c0 hy (by omega) (by omega) a t b
    have bbm := b.bm
    have bbh := b.bh
    have h1 := a.pic.h1
    have bR := hB τ t.ras a.mw a.mh
    obtain ⟨v, a1, z, a2, a3⟩ := bR.e4
    obtain ⟨u, b1, b2⟩ := bR.e1
    obtain ⟨σ1, τ1, s1, s2, s3, s4, s5⟩ := e_fullrow X Y D Q V k c w h ω1 ω2 N1 N2 i1 i2 y n (by omega) hn L R T B LM RM TM BM hB (L_Drw_fill_54 (f - 1)) (L_Mod_triangle_116 (f' - 1)) σ τ a t hfr b
    rw [show f = (f - 1) + 1 by omega, show f' = (f' - 1) + 1 by omega, L_Drw_fill_54, ck_pos a.lo2.2.1.1, if_neg (fun e => c0 ((b.b y (by omega)).mp e)), lt_def, s1, L_Mod_triangle_116, a1, bd_def, a2, bd_def, if_neg (fun e => absurd ((a3 y (by omega)).mp e) (by omega)), b1, bd_def, b2, bd_def, s2]
    obtain ⟨σ2, τ2, u1, u2, u3, u4, u5⟩ := ih (y + 1) (f - 1) (f' - 1) σ1 τ1 (by omega) (by omega) (by omega) (by omega) s3 (t.tr s4 s5 tP_px tQ_px) (by rw [s4.1 17 rfl]; exact hfr) (b.tr s4)
    exact ⟨σ2, τ2, u1, u2, u3, s4.trans u4, s5.trans u5⟩
/-- filling, from the class's box and the reference's -/
theorem e_fill (X Y D Q : Nat → Int32) (V : Nat → Nat → Int32) (k c : Nat) (w h : Nat) (ω1 ω2 : Nat → Int32) (N1 N2 i1 i2 n : Nat) (hn : n < 2) (σ τ : Sg) (a : Drw σ τ w h ω1 ω2 N1 N2 i1 i2) (t : Tri X Y D Q V k c σ τ) (hf : (σ.1 17 = 0) ↔ n = 1) (hbx : BoxC X Y w h σ) :
    ∃ σ' τ', L_Drw_fill_54 100000 σ i2 (Int32.ofNat n) (σ.1 20) = some σ' ∧ bd (F_Mod_edge τ 41 0) (fun o38 => bd (F_Mod_greatest 0 o38) (fun o39 => L_Mod_triangle_116 100000 τ (Int32.ofNat n) o39)) = some τ' ∧ Drw σ' τ' w h ω1 ω2 N1 N2 i1 i2 ∧ Fr pPx σ σ' ∧ Fr qPx τ τ' := by
  have w1 := a.pic.w1
  have h1 := a.pic.h1
  obtain ⟨L, R, T, B, LM, RM, TM, BM, b, hB⟩ := box_all X Y w h σ w1 h1 t.hX t.hY hbx
  have brw := b.rw_
  have bbh := b.bh
  have blm := b.lm
  have btm := b.tm
  have bbm := b.bm
  have bll := b.ll
  have bR := hB τ t.ras a.mw a.mh
  obtain ⟨v, a1, a2⟩ := bR.e3
  rw [a1, bd_def, a2, bd_def, b.t]
  by_cases c0 : T ≤ BM
  · rw [show (100000 : Nat) = (100000 - (T - TM)) + (T - TM) by omega, ref_rows X Y w h LM RM TM BM τ (Int32.ofNat n) (by omega) (by omega) t.hX t.hY t.ras bR brw bbh (by omega) (T - TM) TM _ (by omega) (fun z u h1 h2 h3 e => by have := b.cv z u (by omega) (by omega) e; omega), show TM + (T - TM) = T by omega, show (100000 - (T - TM)) + (T - TM) = 100000 by omega]
    exact e_rows X Y D Q V k c w h ω1 ω2 N1 N2 i1 i2 n hn L R T B LM RM TM BM hB B T 100000 (100000 - (T - TM)) σ τ (by omega) (by omega) (by omega) (by omega) a t hf b
  · refine ⟨σ, τ, ?_, ?_, a, Fr.rfl, Fr.rfl⟩
    · rw [show (100000 : Nat) = 99999 + 1 from rfl, L_Drw_fill_54, ck_pos a.lo2.2.1.1, if_pos ((b.b T (by omega)).mpr (by omega))]
    · exact ref_end X Y w h LM RM TM BM τ (Int32.ofNat n) (by omega) (by omega) t.hX t.hY t.ras bR brw bbh (by omega) TM 100000 (by omega) (by omega) (fun z u h1 h2 h3 e => by have := b.cv z u (by omega) (by omega) e; omega)
