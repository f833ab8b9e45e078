/-! the triangles of a polygon -/
theorem tP_tr : ∀ k, 31 ≤ k → k ≤ 46 → pTr 2 k = false := fun k h1 h2 => by unfold pTr pPx; simp; omega
theorem sP_tr : sP pTr = true := by decide
theorem sQ_tr : sQ qTr = true := by decide
theorem e_tristep (P : List (Nat → Int32)) (c m : Nat) (σ τ : Sg) (w h : Nat) (ω1 ω2 : Nat → Int32) (N1 N2 i1 i2 : Nat) (d : Drw σ τ w h ω1 ω2 N1 N2 i1 i2) (a : Pol P c σ τ) (hm : m + 2 < P.length) :
    ∃ σ' τ', (∀ rc f v4 v5 v10, L_Drw_draw_218 rc (f + 1) σ i1 i2 v4 v5 v10 (Int32.ofNat (m + 1)) = L_Drw_draw_218 rc f σ' i1 i2 v4 v5 v10 (Int32.ofNat (m + 2))) ∧
      (∀ rc f v1 v3 v4 v5, L_Mod_draw_81 rc (f + 1) τ v1 v3 v4 v5 (Int32.ofNat (P.length - 2)) (Int32.ofNat m) = L_Mod_draw_81 rc f τ' v1 v3 v4 v5 (Int32.ofNat (P.length - 2)) (Int32.ofNat (m + 1))) ∧
      Drw σ' τ' w h ω1 ω2 N1 N2 i1 i2 ∧ Pol P c σ' τ' ∧ Fr pTr σ σ' ∧ Fr qTr τ τ' := by
  have hl : 3 ≤ P.length ∧ P.length ≤ 6 := by have := a.len; omega
  have hi1 : i1 < 3 := d.lo1.2.1.1
  have hi2 : i2 < 3 := d.lo2.2.1.1
  have w1 := d.pic.w1
  have h1 := d.pic.h1
  obtain ⟨okX, okY, okD⟩ := pX_ok (σ.2.2.1 1) P (m + 1)
  -- one more is made
  have F0 : Fr pTr σ (sA σ 29 (upd (σ.2.2.1 29) 1 ((σ.2.2.1 29 1) + 1))) := fr_sA Fr.rfl 29 _ rfl
  have G0 : Fr qTr τ (sA τ 56 (upd (τ.2.2.1 56) 1 ((τ.2.2.1 56 1) + 1))) := fr_sA Fr.rfl 56 _ rfl
  have D0 : Drw (sA σ 29 (upd (σ.2.2.1 29) 1 ((σ.2.2.1 29 1) + 1))) (sA τ 56 (upd (τ.2.2.1 56) 1 ((τ.2.2.1 56 1) + 1))) w h ω1 ω2 N1 N2 i1 i2 :=
    d.tr (p := fun c k => c == 2 && k == 29) (q := fun c k => c == 2 && k == 56) (fr_sA Fr.rfl 29 _ rfl) (fr_sA Fr.rfl 56 _ rfl) rfl rfl (d.pic.tr (p := fun c k => c == 2 && k == 29) (q := fun c k => c == 2 && k == 56) (fr_sA Fr.rfl 29 _ rfl) (fr_sA Fr.rfl 56 _ rfl) (by decide) (by decide)) (fun j hj => rfl) d.zer (cnt_up' 1 (by omega) d.cnt) d.qry
  have A0 := a.tr F0 G0
  have k0 : (sA σ 29 (upd (σ.2.2.1 29) 1 ((σ.2.2.1 29 1) + 1))).2.2.1 1 = σ.2.2.1 1 := rfl
  have eC0 : ∀ rc f v4 v5 v10, L_Drw_draw_218 rc (f + 1) σ i1 i2 v4 v5 v10 (Int32.ofNat (m + 1)) = bd (F_Cov_take (sA σ 29 (upd (σ.2.2.1 29) 1 ((σ.2.2.1 29 1) + 1))) (Int32.ofNat (m + 1))) (fun o31 => bd (F_Drw_shows o31.1 o31.2) (fun o32 => if o32.2 = 0 then (L_Drw_draw_218 rc f o32.1 i1 i2 v4 v5 v10 (Int32.ofNat (m + 2))) else (lt (sA o32.1 29 (upd (o32.1.2.2.1 29) 2 ((o32.1.2.2.1 29 2) + 1))) (fun σ33 => bd (F_Drw_fill σ33 i2) (fun o34 => L_Drw_draw_218 rc f o34 i1 i2 v4 v5 v10 (Int32.ofNat (m + 2))))))) := by
    intro rc f v4 v5 v10
    rw [L_Drw_draw_218, ck_pos hi1, ck_pos hi2, a.many, n_succ, if_neg (fun e => absurd ((n_le _ _ (by omega) (by omega)).mp e) (by omega)), lt_def]
    unfold F_Drw_draw_273
    simp only [ck_pos hi1, ck_pos hi2, lt_def, n_succ]
  have eM0 : ∀ rc f v1 v3 v4 v5, L_Mod_draw_81 rc (f + 1) τ v1 v3 v4 v5 (Int32.ofNat (P.length - 2)) (Int32.ofNat m) = bd (F_Vwm_side (sA τ 56 (upd (τ.2.2.1 56) 1 ((τ.2.2.1 56 1) + 1))) (Int32.ofNat m)) (fun o17 => if o17.2 = (-1) then (L_Mod_draw_81 rc f o17.1 v1 v3 v4 v5 (Int32.ofNat (P.length - 2)) (Int32.ofNat (m + 1))) else (lt (sA o17.1 56 (upd (o17.1.2.2.1 56) 2 ((o17.1.2.2.1 56 2) + 1))) (fun σ18 => bd (F_Mod_triangle σ18 (Int32.ofNat m) o17.2) (fun o19 => L_Mod_draw_81 rc f o19 v1 v3 v4 v5 (Int32.ofNat (P.length - 2)) (Int32.ofNat (m + 1)))))) := by
    intro rc f v1 v3 v4 v5
    rw [L_Mod_draw_81, if_neg (fun e => absurd ((n_le _ _ (by omega) (by omega)).mp e) (by omega)), lt_def]
    unfold F_Mod_draw_133
    simp only [lt_def, n_succ]
  generalize sA σ 29 (upd (σ.2.2.1 29) 1 ((σ.2.2.1 29 1) + 1)) = σ0 at F0 D0 A0 k0 eC0
  generalize sA τ 56 (upd (τ.2.2.1 56) 1 ((τ.2.2.1 56 1) + 1)) = τ0 at G0 D0 A0 eM0
  rw [← k0] at okX okY okD
  have XC : XyC (pX (σ0.2.2.1 1) P (m + 1)) (pY (σ0.2.2.1 1) P (m + 1)) (m + 1) σ0 := fun j hj => by
    obtain ⟨x1, x2, -, -⟩ := A0.layC _ (ci_len _ m j hm hj)
    exact ⟨x1, x2⟩
  obtain ⟨σ1, t1, t2, t3, t4⟩ := e_Cov_take _ _ (m + 1) σ0 (by omega) okX okY XC
  have F1 : Fr pTr σ0 σ1 := t2.weak (by intro a b; unfold pTr; grind)
  obtain ⟨σ2, sd, sh, s1, s2, s3, s4⟩ := e_side P c m σ0 τ0 σ1 w h ω1 ω2 N1 N2 i1 i2 A0 D0 hm (F1.2.2.1 1 rfl)
  have F2 : Fr pTr σ0 σ2 := F1.trans (s3.weak (by intro a b; unfold pTr; grind))
  have G1 : Fr qTr τ0 (sI τ0 21 0) := fr_sI Fr.rfl 21 0 rfl
  have f02 : Fr (fun c k => (c == 0 && k == 17) || (c == 1 && k == 2) || (c == 2 && k == 28)) σ0 σ2 := (t2.weak (by intro a b; grind)).trans (s3.weak (by intro a b; grind))
  have D2 : Drw σ2 (sI τ0 21 0) w h ω1 ω2 N1 N2 i1 i2 :=
    D0.tr (q := fun c k => c == 0 && k == 21) f02 (fr_sI Fr.rfl 21 0 rfl) rfl rfl (D0.pic.tr (q := fun c k => c == 0 && k == 21) f02 (fr_sI Fr.rfl 21 0 rfl) (by decide) (by decide)) (fun j hj => by rw [f02.2.2.1 10 rfl]) (fun j hj => by rw [f02.2.2.1 10 rfl]; exact D0.zer j hj) (by rw [f02.2.2.1 29 rfl]; exact D0.cnt) (by rw [f02.2.2.1 30 rfl]; exact D0.qry)
  have A2 := A0.tr F2 G1
  rcases s4 with ⟨s5, s6⟩ | ⟨n, hn, s5, s6, s7⟩
  · refine ⟨σ2, sI τ0 21 0, fun rc f v4 v5 v10 => ?_, fun rc f v1 v3 v4 v5 => ?_, D2, A2, F0.trans F2, G0.trans G1⟩
    · rw [eC0, t1, bd_def, s2, bd_def, if_pos s6]
    · rw [eM0, s1, bd_def, if_pos s5]
  · -- not left out
    let σ3 := sA σ2 29 (upd (σ2.2.2.1 29) 2 ((σ2.2.2.1 29 2) + 1))
    let τ3 := sA (sI τ0 21 0) 56 (upd ((sI τ0 21 0).2.2.1 56) 2 (((sI τ0 21 0).2.2.1 56 2) + 1))
    have F3 : Fr pTr σ0 σ3 := fr_sA F2 29 _ rfl
    have G3 : Fr qTr τ0 τ3 := fr_sA G1 56 _ rfl
    have D3 : Drw σ3 τ3 w h ω1 ω2 N1 N2 i1 i2 :=
      D2.tr (p := fun c k => c == 2 && k == 29) (q := fun c k => c == 2 && k == 56) (fr_sA Fr.rfl 29 _ rfl) (fr_sA Fr.rfl 56 _ rfl) rfl rfl (D2.pic.tr (p := fun c k => c == 2 && k == 29) (q := fun c k => c == 2 && k == 56) (fr_sA Fr.rfl 29 _ rfl) (fr_sA Fr.rfl 56 _ rfl) (by decide) (by decide)) (fun j hj => rfl) D2.zer (cnt_up' 2 (by omega) D2.cnt) D2.qry
    have A3 := A0.tr F3 G3
    have k3 : σ3.2.2.1 1 = σ0.2.2.1 1 := F3.2.2.1 1 rfl
    have W3 : WhoC (pX (σ0.2.2.1 1) P (m + 1)) (pY (σ0.2.2.1 1) P (m + 1)) (m + 1) σ3 := by
      intro i hi
      show σ2.2.2.1 28 i = _
      rw [s3.2.2.1 28 rfl]; exact t3 i hi
    have X3 : XyC (pX (σ0.2.2.1 1) P (m + 1)) (pY (σ0.2.2.1 1) P (m + 1)) (m + 1) σ3 := fun j hj => by
      rw [F3.2.2.1 24 rfl, F3.2.2.1 25 rfl]; exact XC j hj
    obtain ⟨σ4, r1, r2, r3, r4⟩ := e_makeReady _ _ (m + 1) w h σ3 (by omega) okX okY X3 W3 w1 h1
    have F4 : Fr pTr σ0 σ4 := F3.trans (r2.weak (by intro a b; unfold pTr pRy; grind))
    obtain ⟨τ4, q1, q2, q3, q4, q5, q6⟩ := e_triLoad P c m σ3 τ3 (Int32.ofNat n) A3 hm
    have G4 : Fr qTr τ0 τ4 := G3.trans (q2.weak (by intro a b; unfold qTr pTl; grind))
    rw [k3] at q3 q4
    have D4 : Drw σ4 τ4 w h ω1 ω2 N1 N2 i1 i2 :=
      D3.tr r2 q2 (by decide) (by decide) (D3.pic.tr r2 q2 (by decide) (by decide)) (fun j hj => by rw [r2.2.2.1 10 rfl]) (fun j hj => by rw [r2.2.2.1 10 rfl]; exact D3.zer j hj) (by rw [r2.2.2.1 29 rfl, q2.2.2.1 56 rfl]; exact D3.cnt) (by rw [r2.2.2.1 30 rfl, q2.2.2.1 55 rfl]; exact D3.qry)
    have T4 : Tri (pX (σ0.2.2.1 1) P (m + 1)) (pY (σ0.2.2.1 1) P (m + 1)) (pD (σ0.2.2.1 1) P (m + 1)) (pQ P (m + 1)) (fun q j => pV P (m + 1) q j) (m + 1) c σ4 τ4 := by
      have A4 := A0.tr F4 G4
      refine ⟨by omega, okX, okY, fun j hj => ?_, fun j hj => okD j, r3, ?_, ?_, fun j hj => ?_, fun j hj => ?_, fun q hq j hj => ?_, A4.n5, A4.c2, q3, q4, q5, fun q hq j hj => q6 q hq j hj⟩
      · have := lnv_rng (P.getD (ci (m + 1) j) (fun _ => 0) 3) (a.pw _ (ci_len _ m j hm hj))
        exact ⟨this.1, by show (lnv _).toInt ≤ _; omega⟩
      · rw [r2.2.1 2 rfl]
        show σ2.2.1 2 = _
        rw [s3.2.1 2 rfl]; exact t4
      · intro i hi
        rw [r2.2.2.1 28 rfl]; exact W3 i hi
      · rw [F4.2.2.1 26 rfl]; exact (A0.layC _ (ci_len _ m j hm hj)).2.2.1
      · rw [F4.2.2.1 27 rfl]; exact (A0.layC _ (ci_len _ m j hm hj)).2.2.2
      · have h1 := ci_len _ m j hm hj
        have h2 := a.c2
        rw [F4.2.2.1 _ (tP_tr _ (by omega) (by omega))]; exact A0.rowC _ h1 q hq
    have s17 : (σ4.1 17 = 0) ↔ n = 1 := by rw [r2.1 17 rfl]; exact s7
    obtain ⟨σ5, τ5, u1, u2, u3, u4, u5⟩ := e_fill _ _ _ _ _ (m + 1) c w h ω1 ω2 N1 N2 i1 i2 n hn σ4 τ4 D4 T4 s17 r4
    have F5 : Fr pTr σ0 σ5 := F4.trans (u4.weak (by intro a b; unfold pTr; grind))
    have G5 : Fr qTr τ0 τ5 := G4.trans (u5.weak (by intro a b; unfold qTr; grind))
    refine ⟨σ5, τ5, fun rc f v4 v5 v10 => ?_, fun rc f v1 v3 v4 v5 => ?_, u3, A0.tr F5 G5, F0.trans F5, G0.trans G5⟩
    · rw [eC0, t1, bd_def, s2, bd_def, if_neg (show ¬ sh = 0 by rw [s6]; decide), lt_def]
      have : F_Drw_fill σ3 i2 = some σ5 := by
        unfold F_Drw_fill
        have e23 : F_Drw_fill_23 σ3 i2 (Int32.ofNat n) = some σ5 := by
          unfold F_Drw_fill_23
          rw [ck_pos hi2, D3.pic.cw, D3.pic.ch, r1, bd_def, lt_def, u1]
        have s17' : (σ3.1 17 = 0) ↔ n = 1 := s7
        rw [ck_pos hi2]
        by_cases c : n = 1
        · rw [if_pos (s17'.mpr c)]; rw [c] at e23; exact e23
        · rw [if_neg (fun e => c (s17'.mp e))]; rw [show n = 0 by omega] at e23; exact e23
      rw [this, bd_def]
    · have nm : ¬ Int32.ofNat n = -1 := by
        have : n = 0 ∨ n = 1 := by omega
        rcases this with rfl | rfl <;> decide
      rw [eM0, s1, bd_def, if_neg (by rw [s5]; exact nm), lt_def, s5]
      have : F_Mod_triangle τ3 (Int32.ofNat m) (Int32.ofNat n) = some τ5 := by rw [q1]; exact u2
      rw [this, bd_def]
theorem e_trisloop (P : List (Nat → Int32)) (c : Nat) (w h : Nat) (ω1 ω2 : Nat → Int32) (N1 N2 i1 i2 : Nat) (rc : Sg → Nat → Nat → Int32 → Int32 → Int32 → Option (Sg × Int32)) (rc' : Sg → Int32 → Int32 → Int32 → Int32 → Option Sg) (u4 u5 v1 v3 v4 : Int32) (t : Nat) :
    ∀ (r m f f' : Nat) (σ τ : Sg), P.length ≤ m + 2 + r → m ≤ 4 → r < f → r < f' → Drw σ τ w h ω1 ω2 N1 N2 i1 i2 → Pol P c σ τ →
      ∃ σ' τ', L_Drw_draw_218 rc f σ i1 i2 u4 u5 (Int32.ofNat t) (Int32.ofNat (m + 1)) = rc σ' i1 i2 u4 u5 (Int32.ofNat (t + 1)) ∧ L_Mod_draw_81 rc' f' τ v1 v3 v4 (Int32.ofNat t) (Int32.ofNat (P.length - 2)) (Int32.ofNat m) = rc' τ' v1 v3 v4 (Int32.ofNat (t + 1)) ∧
        Drw σ' τ' w h ω1 ω2 N1 N2 i1 i2 ∧ Pol P c σ' τ' ∧ Fr pTr σ σ' ∧ Fr qTr τ τ' := by
  have fin : ∀ (m f f' : Nat) (σ τ : Sg), P.length ≤ m + 2 → m ≤ 4 → 0 < f → 0 < f' → Drw σ τ w h ω1 ω2 N1 N2 i1 i2 → Pol P c σ τ →
      ∃ σ' τ', L_Drw_draw_218 rc f σ i1 i2 u4 u5 (Int32.ofNat t) (Int32.ofNat (m + 1)) = rc σ' i1 i2 u4 u5 (Int32.ofNat (t + 1)) ∧ L_Mod_draw_81 rc' f' τ v1 v3 v4 (Int32.ofNat t) (Int32.ofNat (P.length - 2)) (Int32.ofNat m) = rc' τ' v1 v3 v4 (Int32.ofNat (t + 1)) ∧
        Drw σ' τ' w h ω1 ω2 N1 N2 i1 i2 ∧ Pol P c σ' τ' ∧ Fr pTr σ σ' ∧ Fr qTr τ τ' := by
    intro m f f' σ τ hP hm hf hf' d a
    refine ⟨σ, τ, ?_, ?_, d, a, Fr.rfl, Fr.rfl⟩
    · rw [show f = (f - 1) + 1 by omega, L_Drw_draw_218, ck_pos d.lo1.2.1.1, ck_pos d.lo2.2.1.1, a.many, n_succ, if_pos ((n_le _ _ (by omega) (by omega)).mpr (by omega)), lt_def, n_succ]
    · rw [show f' = (f' - 1) + 1 by omega, L_Mod_draw_81, if_pos ((n_le _ _ (by omega) (by omega)).mpr (by omega)), lt_def, n_succ]
  intro r
  induction r with
  | zero => intro m f f' σ τ hP hm hf hf' d a; exact fin m f f' σ τ (by omega) hm hf hf' d a
  | succ r ih =>
    intro m f f' σ τ hP hm hf hf' d a
    by_cases c0 : P.length ≤ m + 2
    · exact fin m f f' σ τ c0 hm (by omega) (by omega) d a
    have hl := a.len
    obtain ⟨σ1, τ1, s1, s2, s3, s4, s5, s6⟩ := e_tristep P c m σ τ w h ω1 ω2 N1 N2 i1 i2 d a (by omega)
    rw [show f = (f - 1) + 1 by omega, show f' = (f' - 1) + 1 by omega, s1, s2]
    obtain ⟨σ2, τ2, x1, x2, x3, x4, x5, x6⟩ := ih (m + 1) (f - 1) (f' - 1) σ1 τ1 (by omega) (by omega) (by omega) (by omega) s3 s4
    exact ⟨σ2, τ2, x1, x2, x3, x4, s5.trans x5, s6.trans x6⟩
