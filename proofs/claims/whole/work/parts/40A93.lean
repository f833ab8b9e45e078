/-! what both sides hold while they draw -/
def Drw (σ τ : Sg) (w h : Nat) (ω1 ω2 : Nat → Int32) (N1 N2 i1 i2 : Nat) : Prop := (PicR σ τ w h) ∧ (TesR σ τ) ∧ (τ.2.2.1 0 = σ.2.2.1 0) ∧ (TxOK (σ.2.2.1 1)) ∧ (TxRel (σ.2.2.1 1) τ) ∧ (AtRel (σ.2.2.1 1) τ) ∧ (VwOK (σ.2.2.1 1)) ∧ (VwRel (σ.2.2.1 1) τ) ∧ (τ.1 22 = σ.2.2.1 1 215) ∧ (τ.1 23 = if σ.2.2.1 1 216 = 1 then 1 else 0) ∧ (rg (σ.2.2.1 1 215) 0 3) ∧ (Loaded ω1 N1 (rdb (σ.1 (24 + 3 * i1))) i1 0 σ τ) ∧ (Loaded ω2 N2 (rdb (σ.1 (24 + 3 * i2))) i2 1 σ τ) ∧ (τ.1 1 = Int32.ofNat w) ∧ (τ.1 2 = Int32.ofNat h) ∧ (τ.1 18 = σ.1 15) ∧ (rg (σ.1 15) (-1) 7) ∧ (∀ j, j < 128 → τ.2.2.1 19 j = σ.2.2.1 10 (96 + j)) ∧ (∀ j, j < 128 → τ.2.2.1 29 j = σ.2.2.1 10 (96 + j)) ∧ (∀ j, j < 4 → σ.2.2.1 10 (224 + j) = 0) ∧ (∀ j, j < 9 → τ.2.2.1 56 j = σ.2.2.1 29 j) ∧ (∀ j, j < 8 → τ.2.2.1 55 j = σ.2.2.1 30 j)
theorem Drw.pic {σ τ : Sg} {w h : Nat} {ω1 ω2 : Nat → Int32} {N1 N2 i1 i2 : Nat} (a_ : Drw σ τ w h ω1 ω2 N1 N2 i1 i2) : PicR σ τ w h := a_.1
theorem Drw.tes {σ τ : Sg} {w h : Nat} {ω1 ω2 : Nat → Int32} {N1 N2 i1 i2 : Nat} (a_ : Drw σ τ w h ω1 ω2 N1 N2 i1 i2) : TesR σ τ := a_.2.1
theorem Drw.mem {σ τ : Sg} {w h : Nat} {ω1 ω2 : Nat → Int32} {N1 N2 i1 i2 : Nat} (a_ : Drw σ τ w h ω1 ω2 N1 N2 i1 i2) : τ.2.2.1 0 = σ.2.2.1 0 := a_.2.2.1
theorem Drw.txo {σ τ : Sg} {w h : Nat} {ω1 ω2 : Nat → Int32} {N1 N2 i1 i2 : Nat} (a_ : Drw σ τ w h ω1 ω2 N1 N2 i1 i2) : TxOK (σ.2.2.1 1) := a_.2.2.2.1
theorem Drw.txr {σ τ : Sg} {w h : Nat} {ω1 ω2 : Nat → Int32} {N1 N2 i1 i2 : Nat} (a_ : Drw σ τ w h ω1 ω2 N1 N2 i1 i2) : TxRel (σ.2.2.1 1) τ := a_.2.2.2.2.1
theorem Drw.atr {σ τ : Sg} {w h : Nat} {ω1 ω2 : Nat → Int32} {N1 N2 i1 i2 : Nat} (a_ : Drw σ τ w h ω1 ω2 N1 N2 i1 i2) : AtRel (σ.2.2.1 1) τ := a_.2.2.2.2.2.1
theorem Drw.vwo {σ τ : Sg} {w h : Nat} {ω1 ω2 : Nat → Int32} {N1 N2 i1 i2 : Nat} (a_ : Drw σ τ w h ω1 ω2 N1 N2 i1 i2) : VwOK (σ.2.2.1 1) := a_.2.2.2.2.2.2.1
theorem Drw.vwr {σ τ : Sg} {w h : Nat} {ω1 ω2 : Nat → Int32} {N1 N2 i1 i2 : Nat} (a_ : Drw σ τ w h ω1 ω2 N1 N2 i1 i2) : VwRel (σ.2.2.1 1) τ := a_.2.2.2.2.2.2.2.1
theorem Drw.fac {σ τ : Sg} {w h : Nat} {ω1 ω2 : Nat → Int32} {N1 N2 i1 i2 : Nat} (a_ : Drw σ τ w h ω1 ω2 N1 N2 i1 i2) : τ.1 22 = σ.2.2.1 1 215 := a_.2.2.2.2.2.2.2.2.1
theorem Drw.fa2 {σ τ : Sg} {w h : Nat} {ω1 ω2 : Nat → Int32} {N1 N2 i1 i2 : Nat} (a_ : Drw σ τ w h ω1 ω2 N1 N2 i1 i2) : τ.1 23 = if σ.2.2.1 1 216 = 1 then 1 else 0 := a_.2.2.2.2.2.2.2.2.2.1
theorem Drw.far {σ τ : Sg} {w h : Nat} {ω1 ω2 : Nat → Int32} {N1 N2 i1 i2 : Nat} (a_ : Drw σ τ w h ω1 ω2 N1 N2 i1 i2) : rg (σ.2.2.1 1 215) 0 3 := a_.2.2.2.2.2.2.2.2.2.2.1
theorem Drw.lo1 {σ τ : Sg} {w h : Nat} {ω1 ω2 : Nat → Int32} {N1 N2 i1 i2 : Nat} (a_ : Drw σ τ w h ω1 ω2 N1 N2 i1 i2) : Loaded ω1 N1 (rdb (σ.1 (24 + 3 * i1))) i1 0 σ τ := a_.2.2.2.2.2.2.2.2.2.2.2.1
theorem Drw.lo2 {σ τ : Sg} {w h : Nat} {ω1 ω2 : Nat → Int32} {N1 N2 i1 i2 : Nat} (a_ : Drw σ τ w h ω1 ω2 N1 N2 i1 i2) : Loaded ω2 N2 (rdb (σ.1 (24 + 3 * i2))) i2 1 σ τ := a_.2.2.2.2.2.2.2.2.2.2.2.2.1
theorem Drw.mw {σ τ : Sg} {w h : Nat} {ω1 ω2 : Nat → Int32} {N1 N2 i1 i2 : Nat} (a_ : Drw σ τ w h ω1 ω2 N1 N2 i1 i2) : τ.1 1 = Int32.ofNat w := a_.2.2.2.2.2.2.2.2.2.2.2.2.2.1
theorem Drw.mh {σ τ : Sg} {w h : Nat} {ω1 ω2 : Nat → Int32} {N1 N2 i1 i2 : Nat} (a_ : Drw σ τ w h ω1 ω2 N1 N2 i1 i2) : τ.1 2 = Int32.ofNat h := a_.2.2.2.2.2.2.2.2.2.2.2.2.2.2.1
theorem Drw.oq {σ τ : Sg} {w h : Nat} {ω1 ω2 : Nat → Int32} {N1 N2 i1 i2 : Nat} (a_ : Drw σ τ w h ω1 ω2 N1 N2 i1 i2) : τ.1 18 = σ.1 15 := a_.2.2.2.2.2.2.2.2.2.2.2.2.2.2.2.1
theorem Drw.oqr {σ τ : Sg} {w h : Nat} {ω1 ω2 : Nat → Int32} {N1 N2 i1 i2 : Nat} (a_ : Drw σ τ w h ω1 ω2 N1 N2 i1 i2) : rg (σ.1 15) (-1) 7 := a_.2.2.2.2.2.2.2.2.2.2.2.2.2.2.2.2.1
theorem Drw.un1 {σ τ : Sg} {w h : Nat} {ω1 ω2 : Nat → Int32} {N1 N2 i1 i2 : Nat} (a_ : Drw σ τ w h ω1 ω2 N1 N2 i1 i2) : ∀ j, j < 128 → τ.2.2.1 19 j = σ.2.2.1 10 (96 + j) := a_.2.2.2.2.2.2.2.2.2.2.2.2.2.2.2.2.2.1
theorem Drw.un2 {σ τ : Sg} {w h : Nat} {ω1 ω2 : Nat → Int32} {N1 N2 i1 i2 : Nat} (a_ : Drw σ τ w h ω1 ω2 N1 N2 i1 i2) : ∀ j, j < 128 → τ.2.2.1 29 j = σ.2.2.1 10 (96 + j) := a_.2.2.2.2.2.2.2.2.2.2.2.2.2.2.2.2.2.2.1
theorem Drw.zer {σ τ : Sg} {w h : Nat} {ω1 ω2 : Nat → Int32} {N1 N2 i1 i2 : Nat} (a_ : Drw σ τ w h ω1 ω2 N1 N2 i1 i2) : ∀ j, j < 4 → σ.2.2.1 10 (224 + j) = 0 := a_.2.2.2.2.2.2.2.2.2.2.2.2.2.2.2.2.2.2.2.1
theorem Drw.cnt {σ τ : Sg} {w h : Nat} {ω1 ω2 : Nat → Int32} {N1 N2 i1 i2 : Nat} (a_ : Drw σ τ w h ω1 ω2 N1 N2 i1 i2) : ∀ j, j < 9 → τ.2.2.1 56 j = σ.2.2.1 29 j := a_.2.2.2.2.2.2.2.2.2.2.2.2.2.2.2.2.2.2.2.2.1
theorem Drw.qry {σ τ : Sg} {w h : Nat} {ω1 ω2 : Nat → Int32} {N1 N2 i1 i2 : Nat} (a_ : Drw σ τ w h ω1 ω2 N1 N2 i1 i2) : ∀ j, j < 8 → τ.2.2.1 55 j = σ.2.2.1 30 j := a_.2.2.2.2.2.2.2.2.2.2.2.2.2.2.2.2.2.2.2.2.2
def sP (p : Nat → Nat → Bool) : Bool := ([0, 1, 15, 22, 23, 24, 25, 26, 27, 28, 29, 30].all fun k => !p 0 k) && ([0, 1, 21, 22, 23].all fun k => !p 2 k) && !p 4 0
def sQ (q : Nat → Nat → Bool) : Bool := ([1, 2, 18, 22, 23, 29, 30, 31, 32, 33, 34, 35, 36, 37, 38, 39, 41, 47].all fun k => !q 0 k) && ([0, 5, 6, 14, 19, 23, 24, 29, 33, 34, 36, 48, 49, 50, 51].all fun k => !q 2 k)
theorem al_f {f : Nat → Bool} {l : List Nat} (h : (l.all fun k => !f k) = true) (k : Nat) (hk : k ∈ l) : f k = false := by
  have := List.all_eq_true.mp h k hk
  simpa using this
theorem Loaded.tr {ω : Nat → Int32} {N : Nat} {i p : Nat} {σ σ' τ τ' : Sg} (a : Loaded ω N (rdb (σ.1 (24 + 3 * i))) i p σ τ) (h1 : σ'.1 (22 + 3 * i) = σ.1 (22 + 3 * i)) (h2 : σ'.1 (24 + 3 * i) = σ.1 (24 + 3 * i)) (h3 : σ'.2.2.1 (21 + i) = σ.2.2.1 (21 + i))
    (g1 : τ'.2.2.1 (14 + 10 * p) = τ.2.2.1 (14 + 10 * p)) (g2 : τ'.2.2.1 (23 + 10 * p) = τ.2.2.1 (23 + 10 * p)) (g3 : τ'.1 (41 + 6 * p) = τ.1 (41 + 6 * p)) : Loaded ω N (rdb (σ'.1 (24 + 3 * i))) i p σ' τ' := by
  unfold Loaded at a ⊢
  rw [h1, h2, h3, g1, g2, g3]
  exact a
theorem Drw.tr {p q : Nat → Nat → Bool} {σ σ' τ τ' : Sg} {w h : Nat} {ω1 ω2 : Nat → Int32} {N1 N2 i1 i2 : Nat} (a : Drw σ τ w h ω1 ω2 N1 N2 i1 i2) (hs : Fr p σ σ') (ht : Fr q τ τ') (hp : sP p = true) (hq : sQ q = true)
    (pic : PicR σ' τ' w h) (un1 : ∀ j, j < 128 → σ'.2.2.1 10 (96 + j) = σ.2.2.1 10 (96 + j)) (zer : ∀ j, j < 4 → σ'.2.2.1 10 (224 + j) = 0) (cnt : ∀ j, j < 9 → τ'.2.2.1 56 j = σ'.2.2.1 29 j) (qry : ∀ j, j < 8 → τ'.2.2.1 55 j = σ'.2.2.1 30 j) :
    Drw σ' τ' w h ω1 ω2 N1 N2 i1 i2 := by
  unfold sP at hp
  unfold sQ at hq
  rw [Bool.and_eq_true, Bool.and_eq_true] at hp
  rw [Bool.and_eq_true] at hq
  obtain ⟨⟨p0, p2⟩, p4⟩ := hp
  obtain ⟨q0, q2⟩ := hq
  have P0 : ∀ k ∈ [0, 1, 15, 22, 23, 24, 25, 26, 27, 28, 29, 30], σ'.1 k = σ.1 k := fun k hk => hs.1 k (al_f p0 k hk)
  have P2 : ∀ k ∈ [0, 1, 21, 22, 23], σ'.2.2.1 k = σ.2.2.1 k := fun k hk => hs.2.2.1 k (al_f p2 k hk)
  have Q0 : ∀ k ∈ [1, 2, 18, 22, 23, 29, 30, 31, 32, 33, 34, 35, 36, 37, 38, 39, 41, 47], τ'.1 k = τ.1 k := fun k hk => ht.1 k (al_f q0 k hk)
  have Q2 : ∀ k ∈ [0, 5, 6, 14, 19, 23, 24, 29, 33, 34, 36, 48, 49, 50, 51], τ'.2.2.1 k = τ.2.2.1 k := fun k hk => ht.2.2.1 k (al_f q2 k hk)
  have I0 : ∀ i, i < 3 → σ'.1 (22 + 3 * i) = σ.1 (22 + 3 * i) ∧ σ'.1 (24 + 3 * i) = σ.1 (24 + 3 * i) ∧ σ'.2.2.1 (21 + i) = σ.2.2.1 (21 + i) := by
    intro i hi
    have : i = 0 ∨ i = 1 ∨ i = 2 := by omega
    rcases this with rfl | rfl | rfl <;> exact ⟨P0 _ (by decide), P0 _ (by decide), P2 _ (by decide)⟩
  have b1 := I0 i1 a.lo1.2.1.1
  have b2 := I0 i2 a.lo2.2.1.1
  have e1 : σ'.2.2.1 1 = σ.2.2.1 1 := P2 1 (by decide)
  refine ⟨pic, ?_, ?_, by rw [e1]; exact a.txo, ?_, ?_, by rw [e1]; exact a.vwo, ?_, ?_, ?_, by rw [e1]; exact a.far, ?_, ?_, ?_, ?_, ?_, ?_, ?_, ?_, zer, cnt, qry⟩
  · have := a.tes
    have fp : Fr (fun c k => !(c == 2 && k == 1)) σ σ' := ⟨fun k h => by simp at h, fun k h => by simp at h, fun k h => by simp at h; subst h; exact e1, fun k h => by simp at h, fun k h => by simp at h⟩
    have fq : Fr (fun c k => !((c == 0 && (33 ≤ k && k ≤ 39)) || (c == 2 && (48 ≤ k && k ≤ 51)))) τ τ' := ⟨fun k h => by
      simp at h
      have : k = 33 ∨ k = 34 ∨ k = 35 ∨ k = 36 ∨ k = 37 ∨ k = 38 ∨ k = 39 := by omega
      rcases this with rfl | rfl | rfl | rfl | rfl | rfl | rfl <;> exact Q0 _ (by decide), fun k h => by simp at h, fun k h => by
      simp at h
      have : k = 48 ∨ k = 49 ∨ k = 50 ∨ k = 51 := by omega
      rcases this with rfl | rfl | rfl | rfl <;> exact Q2 _ (by decide), fun k h => by simp at h, fun k h => by simp at h⟩
    exact this.tr fp fq rfl (by decide)
  · rw [P2 0 (by decide), Q2 0 (by decide)]; exact a.mem
  · have := a.txr; unfold TxRel at this ⊢; rw [e1, Q2 5 (by decide), Q2 6 (by decide)]; exact this
  · have := a.atr; unfold AtRel at this ⊢; rw [e1, Q2 34 (by decide)]; exact this
  · have := a.vwr; unfold VwRel at this ⊢; rw [e1, Q2 36 (by decide)]; exact this
  · rw [e1, Q0 22 (by decide)]; exact a.fac
  · rw [e1, Q0 23 (by decide)]; exact a.fa2
  · exact a.lo1.tr b1.1 b1.2.1 b1.2.2 (Q2 _ (by decide)) (Q2 _ (by decide)) (Q0 _ (by decide))
  · exact a.lo2.tr b2.1 b2.2.1 b2.2.2 (Q2 _ (by decide)) (Q2 _ (by decide)) (Q0 _ (by decide))
  · rw [Q0 1 (by decide)]; exact a.mw
  · rw [Q0 2 (by decide)]; exact a.mh
  · rw [Q0 18 (by decide), P0 15 (by decide)]; exact a.oq
  · rw [P0 15 (by decide)]; exact a.oqr
  · intro j hj; rw [Q2 19 (by decide), un1 j hj]; exact a.un1 j hj
  · intro j hj; rw [Q2 29 (by decide), un1 j hj]; exact a.un2 j hj
theorem dpt_rng (X Y D : Nat → Int32) (x y : Nat) (hX : XyOK X) (hY : XyOK Y) (hD : ∀ j, j < 3 → rg (D j) 0 16777215) (hc : cov X Y x y) : rg (dpt X Y D x y) 0 16777215 := by
  obtain ⟨c0, c1, c2, c3⟩ := cov_pos X Y x y hc
  have hs := wgt_sum X Y x y
  have hWb := whl_bd X Y hX hY
  have d0 := hD 0 (by omega)
  have d1 := hD 1 (by omega)
  have d2 := hD 2 (by omega)
  have haW : 0 < aWh X Y ∧ aWh X Y ≤ 2147483648 ∧ wgt X Y 0 x y + wgt X Y 1 x y + wgt X Y 2 x y = aWh X Y := by unfold aWh; exact ⟨c0, by split <;> omega, hs⟩
  generalize hAe : aWh X Y = A at haW
  unfold rg at d0 d1 d2
  have hSD : 0 ≤ SD X Y D x y ∧ SD X Y D x y ≤ A * 16777215 := by
    unfold SD
    generalize wgt X Y 0 x y = w0 at *
    generalize wgt X Y 1 x y = w1 at *
    generalize wgt X Y 2 x y = w2 at *
    have m : ∀ (w d : Int), 0 ≤ w → 0 ≤ d ∧ d ≤ 16777215 → 0 ≤ w * d ∧ w * d ≤ w * 16777215 := fun w d hw hd => ⟨Int.mul_nonneg hw hd.1, Int.mul_le_mul_of_nonneg_left hd.2 hw⟩
    have m0 := m w0 _ c1 d0
    have m1 := m w1 _ c2 d1
    have m2 := m w2 _ c3 d2
    rw [← haW.2.2, Int.add_mul, Int.add_mul]
    omega
  obtain ⟨a1, a2, -⟩ := haW
  have hq : 0 ≤ SD X Y D x y / A ∧ SD X Y D x y / A ≤ 16777215 := ⟨Int.ediv_nonneg hSD.1 (by omega), by
    have := Int.ediv_le_ediv a1 hSD.2
    rw [Int.mul_ediv_cancel_left _ (by omega)] at this; exact this⟩
  have hbig : A * 16777215 ≤ 2147483648 * 16777215 := Int.mul_le_mul_of_nonneg_right a2 (by omega)
  have e : (Int64.ofInt (SD X Y D x y) / Int64.ofInt A).toInt = SD X Y D x y / A := by
    rw [l_div _ _ (by rw [l_int A (by omega) (by omega)]; omega), l_int _ (by omega) (by omega), l_int A (by omega) (by omega), Int.tdiv_eq_ediv_of_nonneg hSD.1]
  unfold rg dpt
  rw [hAe, l_cut' _ (by rw [e]; omega) (by rw [e]; omega), e]
  exact hq
