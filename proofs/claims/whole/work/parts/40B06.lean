/-! the triangles of a command -/
def pDl : Nat → Nat → Bool := fun c k => pTr c k || pCn c k || pMk c k
def qDl : Nat → Nat → Bool := fun c k => qTr c k || qCn c k || qMk c k || qSe c k
theorem wTr : ∀ a b, pDl a b = false → pTr a b = false := by intro a b; unfold pDl; grind
theorem wCn : ∀ a b, pDl a b = false → pCn a b = false := by intro a b; unfold pDl; grind
theorem wMk : ∀ a b, pDl a b = false → pMk a b = false := by intro a b; unfold pDl; grind
theorem vTr : ∀ a b, qDl a b = false → qTr a b = false := by intro a b; unfold qDl; grind
theorem vCn : ∀ a b, qDl a b = false → qCn a b = false := by intro a b; unfold qDl; grind
theorem vMk : ∀ a b, qDl a b = false → qMk a b = false := by intro a b; unfold qDl; grind
theorem vSe : ∀ a b, qDl a b = false → qSe a b = false := by intro a b; unfold qDl; grind
theorem e_one (mode t : Nat) (ix : Bool) (σ τ : Sg) (w h : Nat) (ω1 ω2 : Nat → Int32) (N1 N2 i1 i2 : Nat) (d : Drw σ τ w h ω1 ω2 N1 N2 i1 i2) (a : Arg σ τ ix) (hm : mode ≤ 2) (ht : t ≤ 4096) (h56 : σ.2.2.2.2 5 < 2 ∧ σ.2.2.2.2 6 < 2 ∧ σ.2.2.2.2 5 ≠ σ.2.2.2.2 6) (v5 v4 : Int32) (rc : Sg → Nat → Nat → Int32 → Int32 → Int32 → Option (Sg × Int32)) (rc' : Sg → Int32 → Int32 → Int32 → Int32 → Option Sg) :
    ∃ σ' τ', L_Drw_draw_131 rc 100000 (sA σ 29 (upd (σ.2.2.1 29) 0 ((σ.2.2.1 29 0) + 1))) i1 i2 (Int32.ofNat mode) v5 (Int32.ofNat t) 0 = rc σ' i1 i2 (Int32.ofNat mode) v5 (Int32.ofNat (t + 1)) ∧
      L_Mod_draw_38 rc' 100000 (sA τ 56 (upd (τ.2.2.1 56) 0 ((τ.2.2.1 56 0) + 1))) (Int32.ofNat mode) (bI ix) v4 (Int32.ofNat t) 0 = rc' τ' (Int32.ofNat mode) (bI ix) v4 (Int32.ofNat (t + 1)) ∧
      Drw σ' τ' w h ω1 ω2 N1 N2 i1 i2 ∧ Arg σ' τ' ix ∧ (σ'.2.2.2.2 5 < 2 ∧ σ'.2.2.2.2 6 < 2 ∧ σ'.2.2.2.2 5 ≠ σ'.2.2.2.2 6) ∧ Fr pDl σ σ' ∧ Fr qDl τ τ' := by
  have hi1 : i1 < 3 := d.lo1.2.1.1
  have hi2 : i2 < 3 := d.lo2.2.1.1
  have f0 : Fr (fun c k => c == 2 && k == 29) σ (sA σ 29 (upd (σ.2.2.1 29) 0 ((σ.2.2.1 29 0) + 1))) := fr_sA Fr.rfl 29 _ rfl
  have g0 : Fr (fun c k => c == 2 && k == 56) τ (sA τ 56 (upd (τ.2.2.1 56) 0 ((τ.2.2.1 56 0) + 1))) := fr_sA Fr.rfl 56 _ rfl
  have D0 : Drw (sA σ 29 (upd (σ.2.2.1 29) 0 ((σ.2.2.1 29 0) + 1))) (sA τ 56 (upd (τ.2.2.1 56) 0 ((τ.2.2.1 56 0) + 1))) w h ω1 ω2 N1 N2 i1 i2 :=
    d.tr f0 g0 rfl rfl (d.pic.tr f0 g0 (by decide) (by decide)) (fun j hj => rfl) d.zer (cnt_up' 0 (by omega) d.cnt) d.qry
  have A0 := a.tr f0 g0 rfl rfl rfl
  have F0 : Fr pDl σ (sA σ 29 (upd (σ.2.2.1 29) 0 ((σ.2.2.1 29 0) + 1))) := fr_sA Fr.rfl 29 _ rfl
  have G0 : Fr qDl τ (sA τ 56 (upd (τ.2.2.1 56) 0 ((τ.2.2.1 56 0) + 1))) := fr_sA Fr.rfl 56 _ rfl
  have n0 : (sA σ 29 (upd (σ.2.2.1 29) 0 ((σ.2.2.1 29 0) + 1))).2.2.2.2 = σ.2.2.2.2 := rfl
  generalize sA σ 29 (upd (σ.2.2.1 29) 0 ((σ.2.2.1 29 0) + 1)) = σ0 at D0 A0 F0 n0
  generalize sA τ 56 (upd (τ.2.2.1 56) 0 ((τ.2.2.1 56 0) + 1)) = τ0 at D0 A0 G0
  rw [← n0] at h56
  obtain ⟨σ1, τ1, s1, s2, s3, s4, s5, s6⟩ := e_corner (σ0.2.2.2.2 5) (σ0.2.2.2.2 6) mode t 0 ix σ0 τ0 w h ω1 ω2 N1 N2 i1 i2 D0 A0 hm ht (by omega) h56.1 rfl (fun i hi => by omega)
  have A1 := A0.tr s5 s6 rfl rfl rfl
  obtain ⟨σ2, τ2, t1, t2, t3, t4, t5, t6⟩ := e_corner (σ0.2.2.2.2 5) (σ0.2.2.2.2 6) mode t 1 ix σ1 τ1 w h ω1 ω2 N1 N2 i1 i2 s3 A1 hm ht (by omega) h56.1 (by rw [s5.2.2.2.2 5 rfl]) s4
  have A2 := A1.tr t5 t6 rfl rfl rfl
  obtain ⟨σ3, τ3, u1, u2, u3, u4, u5, u6⟩ := e_corner (σ0.2.2.2.2 5) (σ0.2.2.2.2 6) mode t 2 ix σ2 τ2 w h ω1 ω2 N1 N2 i1 i2 t3 A2 hm ht (by omega) h56.1 (by rw [t5.2.2.2.2 5 rfl, s5.2.2.2.2 5 rfl]) t4
  have A3 := A2.tr u5 u6 rfl rfl rfl
  have F3 : Fr pDl σ σ3 := F0.trans ((s5.weak wCn).trans ((t5.weak wCn).trans (u5.weak wCn)))
  have G3 : Fr qDl τ τ3 := G0.trans ((s6.weak vCn).trans ((t6.weak vCn).trans (u6.weak vCn)))
  have k5 : σ3.2.2.2.2 5 = σ0.2.2.2.2 5 := by rw [u5.2.2.2.2 5 rfl, t5.2.2.2.2 5 rfl, s5.2.2.2.2 5 rfl]
  have k6 : σ3.2.2.2.2 6 = σ0.2.2.2.2 6 := by rw [u5.2.2.2.2 6 rfl, t5.2.2.2.2 6 rfl, s5.2.2.2.2 6 rfl]
  obtain ⟨σ4, σ5, τ4, P, p1, p2, p3, p4, p5, p6, p7, p8⟩ := e_polygon (σ0.2.2.2.2 5) (σ0.2.2.2.2 6) σ3 τ3 w h ω1 ω2 N1 N2 i1 i2 u3 h56.1 h56.2.1 h56.2.2 k5 k6 u4
  have A5 := A3.tr p6 p7 rfl rfl rfl
  obtain ⟨σ6, τ6, q1, q2, q3, q4, q5, q6⟩ := e_trisloop P (σ0.2.2.2.2 5) w h ω1 ω2 N1 N2 i1 i2 rc rc' (Int32.ofNat mode) v5 (Int32.ofNat mode) (bI ix) v4 t P.length 0 100000 100000 σ5 τ4 (by omega) (by omega) (by omega) (by omega) p4 p5
  have A6 := A5.tr q5 q6 rfl rfl rfl
  refine ⟨σ6, τ6, ?_, ?_, q3, A6, ?_, (F3.trans (p6.weak wMk)).trans (q5.weak wTr), (G3.trans (p7.weak vMk)).trans (q6.weak vTr)⟩
  · rw [show L_Drw_draw_131 rc 100000 σ0 i1 i2 (Int32.ofNat mode) v5 (Int32.ofNat t) 0 = L_Drw_draw_131 rc (99996 + 1 + 1 + 1 + 1) σ0 i1 i2 (Int32.ofNat mode) v5 (Int32.ofNat t) (Int32.ofNat 0) from rfl, s1, t1, u1, L_Drw_draw_131, ck_pos hi1, ck_pos hi2, if_pos (by decide), p1, bd_def, p2, bd_def]
    exact q1
  · rw [show L_Mod_draw_38 rc' 100000 τ0 (Int32.ofNat mode) (bI ix) v4 (Int32.ofNat t) 0 = L_Mod_draw_38 rc' (99996 + 1 + 1 + 1 + 1) τ0 (Int32.ofNat mode) (bI ix) v4 (Int32.ofNat t) (Int32.ofNat 0) from rfl, s2, t2, u2, L_Mod_draw_38, if_pos (by decide), p3, bd_def]
    exact q2
  · rw [q4.n5]; exact ⟨h56.1, q4.s6.1, Ne.symm q4.s6.2⟩
theorem e_drawloop (mode all : Nat) (ix : Bool) (w h : Nat) (ω1 ω2 : Nat → Int32) (N1 N2 i1 i2 : Nat) (hm : mode ≤ 2) (hall : all ≤ 4096) :
    ∀ (r t f f' : Nat) (σ τ : Sg), t + r = all → r < f → r < f' → Drw σ τ w h ω1 ω2 N1 N2 i1 i2 → Arg σ τ ix → (σ.2.2.2.2 5 < 2 ∧ σ.2.2.2.2 6 < 2 ∧ σ.2.2.2.2 5 ≠ σ.2.2.2.2 6) →
      ∃ σ' τ', L_Drw_draw_111 f σ i1 i2 (Int32.ofNat mode) (Int32.ofNat all) (Int32.ofNat t) = some (σ', 0) ∧ L_Mod_draw_18 f' τ (Int32.ofNat mode) (bI ix) (Int32.ofNat all) (Int32.ofNat t) = some τ' ∧ Drw σ' τ' w h ω1 ω2 N1 N2 i1 i2 ∧ (σ'.2.2.2.2 5 < 2 ∧ σ'.2.2.2.2 6 < 2 ∧ σ'.2.2.2.2 5 ≠ σ'.2.2.2.2 6) ∧ Fr pDl σ σ' ∧ Fr qDl τ τ' := by
  intro r
  induction r with
  | zero =>
    intro t f f' σ τ ht hf hf' d a h56
    refine ⟨σ, τ, ?_, ?_, d, h56, Fr.rfl, Fr.rfl⟩
    · rw [show f = (f - 1) + 1 by omega, L_Drw_draw_111, ck_pos d.lo1.2.1.1, ck_pos d.lo2.2.1.1, if_pos ((n_le _ _ (by omega) (by omega)).mpr (by omega))]
    · rw [show f' = (f' - 1) + 1 by omega, L_Mod_draw_18, if_pos ((n_le _ _ (by omega) (by omega)).mpr (by omega))]
  | succ r ih =>
    intro t f f' σ τ ht hf hf' d a h56
    obtain ⟨σ1, τ1, s1, s2, s3, s4, s5, s6, s7⟩ := e_one mode t ix σ τ w h ω1 ω2 N1 N2 i1 i2 d a hm (by omega) h56 (Int32.ofNat all) (Int32.ofNat all) (L_Drw_draw_111 (f - 1)) (L_Mod_draw_18 (f' - 1))
    rw [show f = (f - 1) + 1 by omega, show f' = (f' - 1) + 1 by omega, L_Drw_draw_111, ck_pos d.lo1.2.1.1, ck_pos d.lo2.2.1.1, if_neg (fun e => absurd ((n_le _ _ (by omega) (by omega)).mp e) (by omega)), lt_def, s1, L_Mod_draw_18, if_neg (fun e => absurd ((n_le _ _ (by omega) (by omega)).mp e) (by omega)), lt_def, s2]
    obtain ⟨σ2, τ2, u1, u2, u3, u4, u5, u6⟩ := ih (t + 1) (f - 1) (f' - 1) σ1 τ1 (by omega) (by omega) (by omega) s3 s4 s5
    exact ⟨σ2, τ2, u1, u2, u3, u4, s6.trans u5, s7.trans u6⟩
