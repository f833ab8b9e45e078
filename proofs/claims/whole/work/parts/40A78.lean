/-! triangles on the screen: the class's -/
def ci (k j : Nat) : Nat := if j = 0 then 0 else k + (j - 1)
def pm (W : Int) (i : Nat) : Nat := if W < 0 then (if i = 1 then 2 else if i = 2 then 1 else i) else i
theorem pm_edge (W : Int) (i : Nat) (hi : i < 3) : pm W ((i + 1) % 3) = rfr W (pm W i) ∧ pm W ((i + 2) % 3) = rto W (pm W i) ∧ pm W i < 3 := by
  unfold pm rfr rto
  have h3 : i = 0 ∨ i = 1 ∨ i = 2 := by omega
  by_cases c : W < 0
  · simp only [if_pos c]
    rcases h3 with rfl | rfl | rfl <;> decide
  · simp only [if_neg c]
    exact ⟨trivial, trivial, hi⟩
theorem ci_lt (k j : Nat) (hk : k ≤ 6) (hj : j < 3) : ci k j < 8 := by unfold ci; split <;> omega
/-- the corners' coordinates, in the class -/
def XyC (X Y : Nat → Int32) (k : Nat) (σ : Sg) : Prop := ∀ j, j < 3 → σ.2.2.1 24 (ci k j) = X j ∧ σ.2.2.1 25 (ci k j) = Y j
def WhoC (X Y : Nat → Int32) (k : Nat) (σ : Sg) : Prop := ∀ i, i < 3 → σ.2.2.1 28 i = Int32.ofNat (ci k (pm (whl X Y) i))
def aWh (X Y : Nat → Int32) : Int := if whl X Y < 0 then -whl X Y else whl X Y
theorem e_Cov_take (X Y : Nat → Int32) (k : Nat) (σ : Sg) (hk : 1 ≤ k ∧ k ≤ 6) (hX : XyOK X) (hY : XyOK Y) (hC : XyC X Y k σ) :
    ∃ σ', F_Cov_take σ (Int32.ofNat k) = some (σ', Int64.ofInt (whl X Y)) ∧ Fr (fun c k => (c == 1 && k == 2) || (c == 2 && k == 28)) σ σ' ∧ WhoC X Y k σ' ∧ σ'.2.1 2 = Int64.ofInt (aWh X Y) := by
  have x0 := hX 0 (by omega)
  have x1 := hX 1 (by omega)
  have x2 := hX 2 (by omega)
  have y0 := hY 0 (by omega)
  have y1 := hY 1 (by omega)
  have y2 := hY 2 (by omega)
  have c0 := hC 0 (by omega)
  have c1 := hC 1 (by omega)
  have c2 := hC 2 (by omega)
  have i1 : ci k 1 = k := by unfold ci; rw [if_neg (by decide)]; omega
  have i2 : ci k 2 = k + 1 := by unfold ci; rw [if_neg (by decide)]
  have i0 : ci k 0 = 0 := rfl
  rw [i0] at c0
  rw [i1] at c1
  rw [i2] at c2
  have hb := whl_bd X Y hX hY
  have hn := lo_nn (whl X Y) (by omega) (by omega)
  have e103 : ∀ τ : Sg, F_Cov_take_103 τ (Int64.ofInt (whl X Y)) = some (sJ τ 2 (Int64.ofInt (aWh X Y)), Int64.ofInt (whl X Y)) := by
    intro τ
    unfold F_Cov_take_103 F_Cov_take_119 aWh
    by_cases c : whl X Y < 0
    · rw [if_neg (fun h => by have := hn.1.mp h; omega), lt_def, lo_neg, if_pos c]
    · rw [if_pos (hn.1.mpr (by omega)), lt_def, if_neg c]
  unfold F_Cov_take
  simp only [lt, n_succ, ck_pos (n_inb k 8 (by omega) (by omega)), ck_pos (n_inb (k + 1) 8 (by omega) (by omega)), n_nat k (by omega), n_nat (k + 1) (by omega), sA_3, Nat.reduceEqDiff, reduceIte, sA_sA, c0.1, c0.2, c1.1, c1.2, c2.1, c2.2]
  rw [lo_sub32 _ _ (by omega) (by omega), lo_sub32 _ _ (by omega) (by omega), lo_sub32 _ _ (by omega) (by omega), lo_sub32 _ _ (by omega) (by omega), lo_mul, lo_mul, lo_sub]
  have eW : ((X 1).toInt - (X 0).toInt) * ((Y 2).toInt - (Y 0).toInt) - ((X 2).toInt - (X 0).toInt) * ((Y 1).toInt - (Y 0).toInt) = whl X Y := by
    unfold whl ed; grind
  rw [eW, e103, e103]
  have hi3 : ∀ i, i < 3 → i = 0 ∨ i = 1 ∨ i = 2 := fun i hi => by omega
  by_cases c : whl X Y < 0
  · rw [if_neg (fun h => by have := hn.1.mp h; omega)]
    refine ⟨_, rfl, fr_sJ (fr_sA Fr.rfl _ _ (by decide)) _ _ (by decide), fun i hi => ?_, by rw [sJ_2, if_pos rfl]⟩
    show (sA _ _ _).2.2.1 28 i = _
    rw [sA_3, if_pos rfl]
    unfold pm
    rw [if_pos c]
    rcases hi3 i hi with rfl | rfl | rfl
    · rw [upd_ne _ _ _ _ (by omega), upd_ne _ _ _ _ (by omega), upd_ne _ _ _ _ (by omega), upd_ne _ _ _ _ (by omega), upd_eq]; rfl
    · rw [upd_ne _ _ _ _ (by omega), upd_eq, if_pos rfl, i2]
    · rw [upd_eq, if_neg (by decide), if_pos rfl, i1]
  · rw [if_pos (hn.1.mpr (by omega))]
    refine ⟨_, rfl, fr_sJ (fr_sA Fr.rfl _ _ (by decide)) _ _ (by decide), fun i hi => ?_, by rw [sJ_2, if_pos rfl]⟩
    show (sA _ _ _).2.2.1 28 i = _
    rw [sA_3, if_pos rfl]
    unfold pm
    rw [if_neg c]
    rcases hi3 i hi with rfl | rfl | rfl
    · rw [upd_ne _ _ _ _ (by omega), upd_ne _ _ _ _ (by omega), upd_eq]; rfl
    · rw [upd_ne _ _ _ _ (by omega), upd_eq, i1]
    · rw [upd_eq, i2]
/-- an edge -/
def dX (X Y : Nat → Int32) (j : Nat) : Int := (X (rto (whl X Y) j)).toInt - (X (rfr (whl X Y) j)).toInt
def dY (X Y : Nat → Int32) (j : Nat) : Int := (Y (rto (whl X Y) j)).toInt - (Y (rfr (whl X Y) j)).toInt
def EdC (X Y : Nat → Int32) (m : Nat) (σ : Sg) : Prop := ∀ i, i < m → σ.2.2.2.1 1 i = Int64.ofInt (-16 * dY X Y (pm (whl X Y) i)) ∧ σ.2.2.2.1 2 i = Int64.ofInt (16 * dX X Y (pm (whl X Y) i)) ∧ σ.2.2.2.1 3 i = Int64.ofInt (dX X Y (pm (whl X Y) i) * (8 - (Y (rfr (whl X Y) (pm (whl X Y) i))).toInt) - dY X Y (pm (whl X Y) i) * (8 - (X (rfr (whl X Y) (pm (whl X Y) i))).toInt)) ∧ ((own X Y (pm (whl X Y) i) ∧ σ.2.2.2.1 4 i = 0) ∨ (¬ own X Y (pm (whl X Y) i) ∧ σ.2.2.2.1 4 i = 1))
def pEd : Nat → Nat → Bool := fun c k => c == 3 && (1 ≤ k && k ≤ 4)
theorem updL_eq (f : Nat → Int64) (k : Nat) (x : Int64) : vp_updL f k x k = x := by unfold vp_updL; rw [if_pos rfl]
theorem updL_ne (f : Nat → Int64) (k : Nat) (x : Int64) (j : Nat) (h : j ≠ k) : vp_updL f k x j = f j := by unfold vp_updL; rw [if_neg h]
theorem e_setEdge (X Y : Nat → Int32) (k i : Nat) (σ : Sg) (hk : 1 ≤ k ∧ k ≤ 6) (hX : XyOK X) (hY : XyOK Y) (hC : XyC X Y k σ) (hi : i < 3) (hE : EdC X Y i σ) :
    ∃ σ', F_Cov_setEdge σ (Int32.ofNat i) (Int32.ofNat (ci k (rfr (whl X Y) (pm (whl X Y) i)))) (Int32.ofNat (ci k (rto (whl X Y) (pm (whl X Y) i)))) = some σ' ∧ Fr pEd σ σ' ∧ EdC X Y (i + 1) σ' := by
  generalize hj : pm (whl X Y) i = j at *
  have h1 := rf_lt (whl X Y) j
  generalize ha : rfr (whl X Y) j = a at *
  generalize hb : rto (whl X Y) j = b at *
  have la := ci_lt k a hk.2 h1.1
  have lb := ci_lt k b hk.2 h1.2
  have x1 := hX _ h1.1
  have x2 := hX _ h1.2
  have y1 := hY _ h1.1
  have y2 := hY _ h1.2
  have ca := hC a h1.1
  have cb := hC b h1.2
  have z8 : (8 : Int32).toInt = 8 := rfl
  unfold F_Cov_setEdge F_Cov_setEdge_121 F_Cov_setEdge_128 F_Cov_setEdge_133 F_Cov_setEdge_150
  simp only [lt, ck_pos (n_inb _ 8 la (by omega)), ck_pos (n_inb _ 8 lb (by omega)), n_nat _ (show ci k a < 2147483648 by omega), n_nat _ (show ci k b < 2147483648 by omega), ck_pos (n_inb i 3 hi (by omega)), n_nat i (by omega), sB_3, ca.1, ca.2, cb.1, cb.2, sB_4, Nat.reduceEqDiff, reduceIte]
  rw [lo_sub32 (X b) (X a) (by omega) (by omega), lo_sub32 (Y b) (Y a) (by omega) (by omega), lo_sub32 8 (Y a) (by omega) (by omega), lo_sub32 8 (X a) (by omega) (by omega), z8]
  rw [show ((-16 : Int64)) = Int64.ofInt (-16) from rfl, show (16 : Int64) = Int64.ofInt 16 from rfl, lo_mul, lo_mul, lo_mul, lo_mul, lo_sub]
  have nY := lo_nn ((Y b).toInt - (Y a).toInt) (by omega) (by omega)
  have nX := lo_nn ((X b).toInt - (X a).toInt) (by omega) (by omega)
  have dx : dX X Y j = (X b).toInt - (X a).toInt := by unfold dX; rw [ha, hb]
  have dy : dY X Y j = (Y b).toInt - (Y a).toInt := by unfold dY; rw [ha, hb]
  have ow : own X Y j ↔ ((Y b).toInt - (Y a).toInt = 0 ∧ 0 < (X b).toInt - (X a).toInt) ∨ (Y b).toInt - (Y a).toInt < 0 := by unfold own; rw [ha, hb]
  have fin : ∀ v : Int64, ((own X Y j ∧ v = 0) ∨ (¬ own X Y j ∧ v = 1)) → EdC X Y (i + 1) (sB (sB (sB (sB σ 1 (vp_updL (σ.2.2.2.1 1) i (Int64.ofInt (-16 * ((Y b).toInt - (Y a).toInt))))) 2 (vp_updL (σ.2.2.2.1 2) i (Int64.ofInt (16 * ((X b).toInt - (X a).toInt))))) 3 (vp_updL (σ.2.2.2.1 3) i (Int64.ofInt (((X b).toInt - (X a).toInt) * (8 - (Y a).toInt) - ((Y b).toInt - (Y a).toInt) * (8 - (X a).toInt))))) 4 (vp_updL (σ.2.2.2.1 4) i v)) := by
    intro v hv i' hi'
    simp only [sB_4, Nat.reduceEqDiff, reduceIte]
    by_cases e : i' = i
    · subst e
      rw [updL_eq, updL_eq, updL_eq, updL_eq, hj, dx, dy, ha]
      exact ⟨rfl, rfl, rfl, hv⟩
    · rw [updL_ne _ _ _ _ e, updL_ne _ _ _ _ e, updL_ne _ _ _ _ e, updL_ne _ _ _ _ e]
      exact hE i' (by omega)
  have frm : ∀ v w x y, Fr pEd σ (sB (sB (sB (sB σ 1 v) 2 w) 3 x) 4 y) := fun v w x y => fr_sB (fr_sB (fr_sB (fr_sB Fr.rfl _ _ (by decide)) _ _ (by decide)) _ _ (by decide)) _ _ (by decide)
  by_cases c0 : (Y b).toInt - (Y a).toInt = 0
  · rw [if_pos (nY.2.1.mpr c0)]
    by_cases c1 : 0 < (X b).toInt - (X a).toInt
    · rw [if_pos (nX.2.2.1.mpr c1), if_neg (by decide)]
      exact ⟨_, rfl, frm _ _ _ _, fin 0 (Or.inl ⟨ow.mpr (Or.inl ⟨c0, c1⟩), rfl⟩)⟩
    · rw [if_neg (fun h => c1 (nX.2.2.1.mp h)), if_pos (nY.1.mpr (by omega))]
      exact ⟨_, rfl, frm _ _ _ _, fin 1 (Or.inr ⟨fun h => by rcases ow.mp h with h | h <;> omega, rfl⟩)⟩
  · rw [if_neg (fun h => c0 (nY.2.1.mp h))]
    by_cases c1 : 0 ≤ (Y b).toInt - (Y a).toInt
    · rw [if_pos (nY.1.mpr c1)]
      exact ⟨_, rfl, frm _ _ _ _, fin 1 (Or.inr ⟨fun h => by rcases ow.mp h with h | h <;> omega, rfl⟩)⟩
    · rw [if_neg (fun h => c1 (nY.1.mp h)), if_neg (by decide)]
      exact ⟨_, rfl, frm _ _ _ _, fin 0 (Or.inl ⟨ow.mpr (Or.inr (by omega)), rfl⟩)⟩
/-- the least and the greatest of three -/
def mn3 (X : Nat → Int32) : Int := if (X 0).toInt ≤ (X 1).toInt then (if (X 0).toInt ≤ (X 2).toInt then (X 0).toInt else (X 2).toInt) else (if (X 1).toInt ≤ (X 2).toInt then (X 1).toInt else (X 2).toInt)
def mx3 (X : Nat → Int32) : Int := if (X 1).toInt ≤ (X 0).toInt then (if (X 2).toInt ≤ (X 0).toInt then (X 0).toInt else (X 2).toInt) else (if (X 2).toInt ≤ (X 1).toInt then (X 1).toInt else (X 2).toInt)
theorem mn3_le (X : Nat → Int32) : ∀ j, j < 3 → mn3 X ≤ (X j).toInt := by
  intro j hj
  have : j = 0 ∨ j = 1 ∨ j = 2 := by omega
  unfold mn3
  rcases this with rfl | rfl | rfl <;> (repeat' split) <;> omega
theorem mx3_le (X : Nat → Int32) : ∀ j, j < 3 → (X j).toInt ≤ mx3 X := by
  intro j hj
  have : j = 0 ∨ j = 1 ∨ j = 2 := by omega
  unfold mx3
  rcases this with rfl | rfl | rfl <;> (repeat' split) <;> omega
theorem mn3_rng (X : Nat → Int32) (hX : XyOK X) : -16384 ≤ mn3 X ∧ mn3 X ≤ 16383 ∧ -16384 ≤ mx3 X ∧ mx3 X ≤ 16383 := by
  have x0 := hX 0 (by omega)
  have x1 := hX 1 (by omega)
  have x2 := hX 2 (by omega)
  unfold mn3 mx3
  repeat' split
  all_goals omega
theorem imin_int (x y : Int32) : (imin x y).toInt = if y.toInt < x.toInt then y.toInt else x.toInt := by
  unfold imin
  by_cases c : y < x
  · rw [if_pos c, if_pos (Int32.lt_iff_toInt_lt.mp c)]
  · rw [if_neg c, if_neg (fun h => c (Int32.lt_iff_toInt_lt.mpr h))]
theorem imax_int (x y : Int32) : (imax x y).toInt = if x.toInt < y.toInt then y.toInt else x.toInt := by
  unfold imax
  by_cases c : x < y
  · rw [if_pos c, if_pos (Int32.lt_iff_toInt_lt.mp c)]
  · rw [if_neg c, if_neg (fun h => c (Int32.lt_iff_toInt_lt.mpr h))]
theorem lenC8 (σ : Sg) (ar : Nat) (h : ar = 24 ∨ ar = 25) : lenC σ ar = 8 := by rcases h with rfl | rfl <;> rfl
theorem e_leastOf (Z : Nat → Int32) (X Y : Nat → Int32) (k ar : Nat) (σ : Sg) (hk : 1 ≤ k ∧ k ≤ 6) (har : ar = 24 ∨ ar = 25) (hZ : ∀ j, j < 3 → σ.2.2.1 ar (ci k j) = Z j) (hW : WhoC X Y k σ) :
    (∃ v, F_Cov_leastOf σ ar = some v ∧ v.toInt = mn3 Z) ∧ (∃ v, F_Cov_greatestOf σ ar = some v ∧ v.toInt = mx3 Z) := by
  have p0 := (pm_edge (whl X Y) 0 (by omega)).2.2
  have p1 := (pm_edge (whl X Y) 1 (by omega)).2.2
  have p2 := (pm_edge (whl X Y) 2 (by omega)).2.2
  have l0 := ci_lt k _ hk.2 p0
  have l1 := ci_lt k _ hk.2 p1
  have l2 := ci_lt k _ hk.2 p2
  have ha : ar < 47 := by omega
  unfold F_Cov_leastOf F_Cov_greatestOf
  rw [hW 0 (by omega), hW 1 (by omega), hW 2 (by omega), lenC8 σ ar har, ck_pos ha, ck_pos ha, ck_pos (n_inb _ 8 l0 (by omega)), ck_pos (n_inb _ 8 l1 (by omega)), ck_pos (n_inb _ 8 l2 (by omega)), ck_pos (n_inb _ 8 l0 (by omega)), ck_pos (n_inb _ 8 l1 (by omega)), ck_pos (n_inb _ 8 l2 (by omega)), n_nat _ (show ci k (pm (whl X Y) 0) < 2147483648 by omega), n_nat _ (show ci k (pm (whl X Y) 1) < 2147483648 by omega), n_nat _ (show ci k (pm (whl X Y) 2) < 2147483648 by omega), hZ _ p0, hZ _ p1, hZ _ p2]
  have q0 : pm (whl X Y) 0 = 0 := by unfold pm; split <;> rfl
  have q12 : (pm (whl X Y) 1 = 1 ∧ pm (whl X Y) 2 = 2) ∨ (pm (whl X Y) 1 = 2 ∧ pm (whl X Y) 2 = 1) := by
    unfold pm; split
    · right; exact ⟨rfl, rfl⟩
    · left; exact ⟨rfl, rfl⟩
  refine ⟨⟨_, rfl, ?_⟩, ⟨_, rfl, ?_⟩⟩
  · rw [imin_int, imin_int, q0]
    unfold mn3
    rcases q12 with ⟨q1, q2⟩ | ⟨q1, q2⟩ <;> rw [q1, q2] <;> (repeat' split) <;> omega
  · rw [imax_int, imax_int, q0]
    unfold mx3
    rcases q12 with ⟨q1, q2⟩ | ⟨q1, q2⟩ <;> rw [q1, q2] <;> (repeat' split) <;> omega
/-- the box of the class -/
def BoxC (X Y : Nat → Int32) (wide high : Nat) (σ : Sg) : Prop :=
  (σ.1 18).toInt = (if (mn3 X + 7) / 16 < 0 then 0 else (mn3 X + 7) / 16) ∧ (σ.1 19).toInt = (if (wide : Int) - 1 < (mx3 X - 8) / 16 then (wide : Int) - 1 else (mx3 X - 8) / 16) ∧ (σ.1 20).toInt = (if (mn3 Y + 7) / 16 < 0 then 0 else (mn3 Y + 7) / 16) ∧ (σ.1 21).toInt = (if (high : Int) - 1 < (mx3 Y - 8) / 16 then (high : Int) - 1 else (mx3 Y - 8) / 16)
def pRy : Nat → Nat → Bool := fun c k => (c == 0 && (18 ≤ k && k ≤ 21)) || (c == 3 && (1 ≤ k && k ≤ 4))
theorem box_lo (v : Int32) (m : Int) (h : v.toInt = m) (hm : -16384 ≤ m ∧ m ≤ 16383) : (imax ((v + 7) >>> 4) 0).toInt = if (m + 7) / 16 < 0 then 0 else (m + 7) / 16 := by
  have z7 : (7 : Int32).toInt = 7 := rfl
  have z0 : (0 : Int32).toInt = 0 := rfl
  have e1 : (v + 7).toInt = m + 7 := by rw [i_add, h, z7] <;> rw [h, z7] <;> omega
  have e2 : ((v + 7) >>> 4).toInt = (m + 7) / 16 := by
    have := b_sar (v + 7) 4 (by omega)
    rw [e1] at this; exact this
  rw [imax_int, e2, z0]
theorem box_hi (v w : Int32) (m wd : Int) (h : v.toInt = m) (hm : -16384 ≤ m ∧ m ≤ 16383) (hw : w.toInt = wd) (hwd : 1 ≤ wd ∧ wd ≤ 128) : (imin ((v - 8) >>> 4) (w - 1)).toInt = if wd - 1 < (m - 8) / 16 then wd - 1 else (m - 8) / 16 := by
  have z8 : (8 : Int32).toInt = 8 := rfl
  have z1 : (1 : Int32).toInt = 1 := rfl
  have e1 : (v - 8).toInt = m - 8 := by rw [i_sub, h, z8] <;> rw [h, z8] <;> omega
  have e2 : ((v - 8) >>> 4).toInt = (m - 8) / 16 := by
    have := b_sar (v - 8) 4 (by omega)
    rw [e1] at this; exact this
  have e3 : (w - 1).toInt = wd - 1 := by rw [i_sub, hw, z1] <;> rw [hw, z1] <;> omega
  rw [imin_int, e2, e3]
theorem e_makeReady (X Y : Nat → Int32) (k wide high : Nat) (σ : Sg) (hk : 1 ≤ k ∧ k ≤ 6) (hX : XyOK X) (hY : XyOK Y) (hC : XyC X Y k σ) (hW : WhoC X Y k σ) (hw : 1 ≤ wide ∧ wide ≤ 128) (hh : 1 ≤ high ∧ high ≤ 128) :
    ∃ σ', F_Cov_makeReady σ (Int32.ofNat wide) (Int32.ofNat high) = some σ' ∧ Fr pRy σ σ' ∧ EdC X Y 3 σ' ∧ BoxC X Y wide high σ' := by
  have wE : ∀ a b, pRy a b = false → pEd a b = false := by intro a b h; simp [pRy] at h; simp [pEd]; omega
  have rX := mn3_rng X hX
  have rY := mn3_rng Y hY
  have key : ∀ d i, 3 = i + d → ∀ n, d < n → ∀ τ, Fr pRy σ τ → EdC X Y i τ → ∃ σ', L_Cov_makeReady_20 n τ (Int32.ofNat wide) (Int32.ofNat high) (Int32.ofNat i) = some σ' ∧ Fr pRy σ σ' ∧ EdC X Y 3 σ' ∧ BoxC X Y wide high σ' := by
    intro d
    induction d with
    | zero =>
      intro i hi n hn τ hF hE
      obtain ⟨n, rfl⟩ : ∃ m, n = m + 1 := ⟨n - 1, by omega⟩
      have : i = 3 := by omega
      subst this
      have z24 : ∀ j, j < 3 → τ.2.2.1 24 (ci k j) = X j := fun j hj => by rw [hF.2.2.1 _ (by decide)]; exact (hC j hj).1
      have z25 : ∀ j, j < 3 → τ.2.2.1 25 (ci k j) = Y j := fun j hj => by rw [hF.2.2.1 _ (by decide)]; exact (hC j hj).2
      have hWτ : WhoC X Y k τ := fun j hj => by rw [hF.2.2.1 _ (by decide)]; exact hW j hj
      rw [L_Cov_makeReady_20, if_pos (by decide)]
      obtain ⟨⟨v1, a1, b1⟩, -⟩ := e_leastOf X X Y k 24 τ hk (Or.inl rfl) z24 hWτ
      rw [a1, bd_def, lt_def]
      obtain ⟨-, ⟨v2, a2, b2⟩⟩ := e_leastOf X X Y k 24 (sI τ 18 (imax ((v1 + 7) >>> 4) 0)) hk (Or.inl rfl) z24 hWτ
      rw [a2, bd_def, lt_def]
      obtain ⟨⟨v3, a3, b3⟩, -⟩ := e_leastOf Y X Y k 25 (sI (sI τ 18 (imax ((v1 + 7) >>> 4) 0)) 19 (imin ((v2 - 8) >>> 4) (Int32.ofNat wide - 1))) hk (Or.inr rfl) z25 hWτ
      rw [a3, bd_def, lt_def]
      obtain ⟨-, ⟨v4, a4, b4⟩⟩ := e_leastOf Y X Y k 25 (sI (sI (sI τ 18 (imax ((v1 + 7) >>> 4) 0)) 19 (imin ((v2 - 8) >>> 4) (Int32.ofNat wide - 1))) 20 (imax ((v3 + 7) >>> 4) 0)) hk (Or.inr rfl) z25 hWτ
      rw [a4, bd_def, lt_def]
      refine ⟨_, rfl, fr_sI (fr_sI (fr_sI (fr_sI hF _ _ (by decide)) _ _ (by decide)) _ _ (by decide)) _ _ (by decide), hE, ?_, ?_, ?_, ?_⟩
      · show (imax ((v1 + 7) >>> 4) 0).toInt = _
        exact box_lo v1 _ b1 (by omega)
      · show (imin ((v2 - 8) >>> 4) (Int32.ofNat wide - 1)).toInt = _
        exact box_hi v2 _ _ _ b2 (by omega) (n_int wide (by omega)) (by omega)
      · show (imax ((v3 + 7) >>> 4) 0).toInt = _
        exact box_lo v3 _ b3 (by omega)
      · show (imin ((v4 - 8) >>> 4) (Int32.ofNat high - 1)).toInt = _
        exact box_hi v4 _ _ _ b4 (by omega) (n_int high (by omega)) (by omega)
    | succ d ih =>
      intro i hi n hn τ hF hE
      obtain ⟨n, rfl⟩ : ∃ m, n = m + 1 := ⟨n - 1, by omega⟩
      have hCτ : XyC X Y k τ := fun j hj => by rw [hF.2.2.1 24 (by decide), hF.2.2.1 25 (by decide)]; exact hC j hj
      have hWτ : WhoC X Y k τ := fun j hj => by rw [hF.2.2.1 _ (by decide)]; exact hW j hj
      obtain ⟨r1, r2⟩ := j3 i (by omega)
      obtain ⟨e1, e2, -⟩ := pm_edge (whl X Y) i (by omega)
      rw [L_Cov_makeReady_20, if_neg (by rw [show (3 : Int32) = Int32.ofNat 3 from rfl, n_le _ _ (by omega) (by omega)]; omega), r1, r2, ck_pos (n_inb _ 3 (by omega) (by omega)), ck_pos (n_inb _ 3 (by omega) (by omega)), n_nat ((i + 1) % 3) (by omega), n_nat ((i + 2) % 3) (by omega), hWτ _ (by omega), hWτ _ (by omega), e1, e2]
      obtain ⟨σ', s1, s2, s3⟩ := e_setEdge X Y k i τ hk hX hY hCτ (by omega) hE
      rw [s1, bd_def, lt_def, n_succ]
      exact ih (i + 1) (by omega) n (by omega) σ' (hF.trans (s2.weak wE)) s3
  unfold F_Cov_makeReady
  exact key 3 0 (by omega) 100000 (by omega) σ Fr.rfl (fun i hi => by omega)
/-- the weights of the place looked at last -/
def WtC (X Y : Nat → Int32) (x y m : Nat) (σ : Sg) : Prop := ∀ i, i < m → σ.2.2.2.1 5 i = Int64.ofInt (wgt X Y (pm (whl X Y) i) x y)
def pWt : Nat → Nat → Bool := fun c k => c == 3 && k == 5
theorem e_covers (X Y : Nat → Int32) (x y : Nat) (σ : Sg) (hx : x < 128) (hy : y < 128) (hX : XyOK X) (hY : XyOK Y) (hE : EdC X Y 3 σ) (hA : σ.2.1 2 = Int64.ofInt (aWh X Y)) :
    ∃ (σ' : Sg) (b : Bool), F_Cov_covers σ (Int32.ofNat x) (Int32.ofNat y) = some (σ', bI b) ∧ Fr pWt σ σ' ∧ (b = true ↔ cov X Y x y) ∧ (b = true → WtC X Y x y 3 σ') := by
  have hWb := whl_bd X Y hX hY
  have haW : 0 ≤ aWh X Y ∧ aWh X Y ≤ 2147483648 ∧ (aWh X Y = 0 ↔ whl X Y = 0) := by unfold aWh; split <;> omega
  have key : ∀ d i, 3 = i + d → ∀ n, d < n → ∀ τ, Fr pWt σ τ → (∀ j, j < i → okw X Y (pm (whl X Y) j) x y) → WtC X Y x y i τ → ∃ (σ' : Sg) (b : Bool), L_Cov_covers_2 n τ (Int32.ofNat x) (Int32.ofNat y) (Int32.ofNat i) = some (σ', bI b) ∧ Fr pWt σ σ' ∧ (b = true ↔ cov X Y x y) ∧ (b = true → WtC X Y x y 3 σ') := by
    intro d
    induction d with
    | zero =>
      intro i hi n hn τ hF hok hW
      obtain ⟨n, rfl⟩ : ∃ m, n = m + 1 := ⟨n - 1, by omega⟩
      have : i = 3 := by omega
      subst this
      have hall : ∀ j, j < 3 → okw X Y j x y := by
        have o0 := hok 0 (by omega)
        have o1 := hok 1 (by omega)
        have o2 := hok 2 (by omega)
        unfold pm at o0 o1 o2
        intro j hj
        have : j = 0 ∨ j = 1 ∨ j = 2 := by omega
        by_cases c : whl X Y < 0
        · simp only [if_pos c] at o0 o1 o2
          rcases this with rfl | rfl | rfl
          · exact o0
          · exact o2
          · exact o1
        · simp only [if_neg c] at o0 o1 o2
          rcases this with rfl | rfl | rfl
          · exact o0
          · exact o1
          · exact o2
      rw [L_Cov_covers_2, if_pos (by decide), hF.2.1 2 (by decide), hA]
      unfold F_Cov_covers_77
      have hn' := lo_nn (aWh X Y) (by omega) (by omega)
      have z0 : Int64.ofInt (aWh X Y) ≤ 0 ↔ aWh X Y ≤ 0 := by
        rw [Int64.le_iff_toInt_le, l_int _ (by omega) (by omega)]; exact Iff.rfl
      by_cases c : whl X Y = 0
      · rw [if_pos (z0.mpr (by omega)), ck_pos (by decide)]
        exact ⟨τ, false, rfl, hF, ⟨fun h => (by cases h), fun h => absurd c h.1⟩, fun h => (by cases h)⟩
      · rw [if_neg (fun h => by have := z0.mp h; omega), ck_pos (by decide)]
        exact ⟨τ, true, rfl, hF, ⟨fun _ => ⟨c, hall⟩, fun _ => rfl⟩, fun _ => hW⟩
    | succ d ih =>
      intro i hi n hn τ hF hok hW
      obtain ⟨n, rfl⟩ : ∃ m, n = m + 1 := ⟨n - 1, by omega⟩
      obtain ⟨e1, e2, e3, e4⟩ := hE i (by omega)
      have pj := (pm_edge (whl X Y) i (by omega)).2.2
      generalize hj : pm (whl X Y) i = j at *
      have hwb := wgt_bd X Y j x y hx hy hX hY
      have b1 : τ.2.2.2.1 1 i = Int64.ofInt (-16 * dY X Y j) := by rw [hF.2.2.2.1 1 (by decide)]; exact e1
      have b2 : τ.2.2.2.1 2 i = Int64.ofInt (16 * dX X Y j) := by rw [hF.2.2.2.1 2 (by decide)]; exact e2
      have b3 : τ.2.2.2.1 3 i = Int64.ofInt (dX X Y j * (8 - (Y (rfr (whl X Y) j)).toInt) - dY X Y j * (8 - (X (rfr (whl X Y) j)).toInt)) := by rw [hF.2.2.2.1 3 (by decide)]; exact e3
      have b4 : τ.2.2.2.1 4 i = σ.2.2.2.1 4 i := by rw [hF.2.2.2.1 4 (by decide)]
      have val : Int64.ofInt (-16 * dY X Y j) * (Int32.ofNat x).toInt64 + Int64.ofInt (16 * dX X Y j) * (Int32.ofNat y).toInt64 + Int64.ofInt (dX X Y j * (8 - (Y (rfr (whl X Y) j)).toInt) - dY X Y j * (8 - (X (rfr (whl X Y) j)).toInt)) = Int64.ofInt (wgt X Y j x y) := by
        rw [lo_ext (Int32.ofNat x), lo_ext (Int32.ofNat y), n_int x (by omega), n_int y (by omega), lo_mul, lo_mul, lo_add, lo_add]
        congr 1
        unfold wgt ed dX dY
        grind
      rw [L_Cov_covers_2, if_neg (by rw [show (3 : Int32) = Int32.ofNat 3 from rfl, n_le _ _ (by omega) (by omega)]; omega)]
      simp only [ck_pos (n_inb i 3 (by omega) (by omega)), n_nat i (by omega), lt, b1, b2, b3, val, sB_4, Nat.reduceEqDiff, reduceIte, updL_eq, b4, n_succ]
      have frn : Fr pWt σ (sB τ 5 (vp_updL (τ.2.2.2.1 5) i (Int64.ofInt (wgt X Y j x y)))) := fr_sB hF _ _ (by decide)
      have hle : σ.2.2.2.1 4 i ≤ Int64.ofInt (wgt X Y j x y) ↔ okw X Y j x y := by
        rw [Int64.le_iff_toInt_le, l_int _ (by omega) (by omega)]
        unfold okw
        rcases e4 with ⟨o, v⟩ | ⟨o, v⟩
        · rw [v]
          show (0 : Int) ≤ _ ↔ _
          constructor
          · intro h
            by_cases c : 0 < wgt X Y j x y
            · exact Or.inl c
            · exact Or.inr ⟨by omega, o⟩
          · intro h; rcases h with h | h <;> omega
        · rw [v]
          show (1 : Int) ≤ _ ↔ _
          constructor
          · intro h; exact Or.inl (by omega)
          · intro h
            rcases h with h | h
            · omega
            · exact absurd h.2 o
      by_cases c : okw X Y j x y
      · rw [if_pos (hle.mpr c)]
        refine ih (i + 1) (by omega) n (by omega) _ frn (fun j' hj' => ?_) (fun j' hj' => ?_)
        · by_cases e : j' = i
          · subst e; rw [hj]; exact c
          · exact hok j' (by omega)
        · rw [sB_4, if_pos rfl]
          by_cases e : j' = i
          · subst e; rw [updL_eq, hj]
          · rw [updL_ne _ _ _ _ e]; exact hW j' (by omega)
      · rw [if_neg (fun h => c (hle.mp h))]
        exact ⟨_, false, rfl, frn, ⟨fun h => (by cases h), fun h => absurd (h.2 j pj) c⟩, fun h => (by cases h)⟩
  unfold F_Cov_covers
  exact key 3 0 (by omega) 100000 (by omega) σ Fr.rfl (fun j hj => by omega) (fun j hj => by omega)
