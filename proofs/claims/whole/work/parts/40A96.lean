/-! the places of a triangle -/
theorem mn3_lo (X : Nat → Int32) : ∀ j, j < 3 → mn3 X ≤ (X j).toInt := by
  intro j hj
  unfold mn3
  have : j = 0 ∨ j = 1 ∨ j = 2 := by omega
  rcases this with rfl | rfl | rfl <;> grind
theorem mx3_hi (X : Nat → Int32) : ∀ j, j < 3 → (X j).toInt ≤ mx3 X := by
  intro j hj
  unfold mx3
  have : j = 0 ∨ j = 1 ∨ j = 2 := by omega
  rcases this with rfl | rfl | rfl <;> grind
theorem mn3_in (X : Nat → Int32) (h : XyOK X) : -16384 ≤ mn3 X ∧ mn3 X ≤ 16383 ∧ -16384 ≤ mx3 X ∧ mx3 X ≤ 16383 := by
  have h0 := h 0 (by omega)
  have h1 := h 1 (by omega)
  have h2 := h 2 (by omega)
  unfold mn3 mx3
  grind
theorem e_edge (X : Nat → Int32) (τ : Sg) (a : Nat) (ha : a = 40 ∨ a = 41) (hR : ∀ j, j < 3 → τ.2.2.1 a j = X j) : (∃ v, F_Mod_edge τ a 0 = some v ∧ v.toInt = mn3 X / 16) ∧ (∃ v, F_Mod_edge τ a 1 = some v ∧ v.toInt = mx3 X / 16) := by
  have l0 : inb 0 (lenM τ a) := by rcases ha with rfl | rfl <;> exact (by decide : inb (0 : Int32) 3)
  have l1 : inb 1 (lenM τ a) := by rcases ha with rfl | rfl <;> exact (by decide : inb (1 : Int32) 3)
  have l2 : inb 2 (lenM τ a) := by rcases ha with rfl | rfl <;> exact (by decide : inb (2 : Int32) 3)
  have ha2 : a < 58 := by omega
  have sh : ∀ v : Int32, (v >>> 4 : Int32).toInt = v.toInt / 16 := fun v => by
    have := b_sar v 4 (by omega)
    rw [show (4 : Int32) = Int32.ofNat 4 from rfl, this]
    rfl
  have lst : ∀ u v : Int32, ∃ z, F_Mod_least u v = some z ∧ z.toInt = if v.toInt ≤ u.toInt then v.toInt else u.toInt := by
    intro u v
    unfold F_Mod_least F_Mod_least_10
    by_cases c : v ≤ u
    · rw [if_pos c]; exact ⟨v, rfl, by rw [if_pos (Int32.le_iff_toInt_le.mp c)]⟩
    · rw [if_neg c]; exact ⟨u, rfl, by rw [if_neg (fun e => c (Int32.le_iff_toInt_le.mpr e))]⟩
  have grt : ∀ u v : Int32, ∃ z, F_Mod_greatest u v = some z ∧ z.toInt = if u.toInt ≤ v.toInt then v.toInt else u.toInt := by
    intro u v
    unfold F_Mod_greatest F_Mod_greatest_10
    by_cases c : u ≤ v
    · rw [if_pos c]; exact ⟨v, rfl, by rw [if_pos (Int32.le_iff_toInt_le.mp c)]⟩
    · rw [if_neg c]; exact ⟨u, rfl, by rw [if_neg (fun e => c (Int32.le_iff_toInt_le.mpr e))]⟩
  unfold F_Mod_edge F_Mod_edge_37
  rw [ck_pos ha2, ck_pos ha2, if_pos rfl, if_neg (by decide), ck_pos l0, ck_pos l1, ck_pos l2, ck_pos l0, ck_pos l1, ck_pos l2, hR 0 (by omega), hR 1 (by omega), hR 2 (by omega)]
  constructor
  · obtain ⟨z1, a1, a2⟩ := lst (X 1) (X 2)
    obtain ⟨z2, b1, b2⟩ := lst (X 0) z1
    rw [a1, bd_def, b1, bd_def]
    refine ⟨_, rfl, ?_⟩
    rw [sh, b2, a2]
    congr 1
    unfold mn3
    grind
  · obtain ⟨z1, a1, a2⟩ := grt (X 1) (X 2)
    obtain ⟨z2, b1, b2⟩ := grt (X 0) z1
    rw [a1, bd_def, b1, bd_def]
    refine ⟨_, rfl, ?_⟩
    rw [sh, b2, a2]
    congr 1
    unfold mx3
    grind
theorem e_lo (v : Int32) (hv : -2000 ≤ v.toInt ∧ v.toInt ≤ 2000) : F_Mod_greatest 0 v = some (Int32.ofNat v.toInt.toNat) := by
  unfold F_Mod_greatest F_Mod_greatest_10
  by_cases c : 0 ≤ v
  · rw [if_pos c]
    have := Int32.le_iff_toInt_le.mp c
    congr 1
    apply i_inj
    rw [n_int _ (by omega)]
    have e0 : (0 : Int32).toInt = 0 := rfl
    omega
  · rw [if_neg c]
    have h : ¬ (0 : Int) ≤ v.toInt := fun e => c (Int32.le_iff_toInt_le.mpr e)
    rw [show v.toInt.toNat = 0 by omega]
    rfl
theorem e_hi (v : Int32) (w : Nat) (hw : 1 ≤ w ∧ w ≤ 128) : ∃ z, F_Mod_least (Int32.ofNat w - 1) v = some z ∧ ∀ x : Nat, x < 5000 → (z < Int32.ofNat x ↔ (min ((w : Int) - 1) v.toInt + 1).toNat ≤ x) := by
  have e1 : (Int32.ofNat w - 1 : Int32).toInt = (w : Int) - 1 := by
    have o1 : (1 : Int32).toInt = 1 := rfl
    rw [i_sub _ _ (by rw [n_int w (by omega), o1]; omega) (by rw [n_int w (by omega), o1]; omega), n_int w (by omega), o1]
  unfold F_Mod_least F_Mod_least_10
  by_cases c : v ≤ Int32.ofNat w - 1
  · rw [if_pos c]
    have := Int32.le_iff_toInt_le.mp c
    refine ⟨v, rfl, fun x hx => ?_⟩
    rw [Int32.lt_iff_toInt_lt, n_int x (by omega)]
    omega
  · rw [if_neg c]
    have h : ¬ v.toInt ≤ (Int32.ofNat w - 1 : Int32).toInt := fun e => c (Int32.le_iff_toInt_le.mpr e)
    refine ⟨_, rfl, fun x hx => ?_⟩
    rw [Int32.lt_iff_toInt_lt, n_int x (by omega), e1]
    omega
/-- the boxes of both sides -/
def Box (X Y : Nat → Int32) (w h L R T B LM RM TM BM : Nat) (σ : Sg) : Prop := (σ.1 18 = Int32.ofNat L) ∧ (∀ x : Nat, x < 5000 → (σ.1 19 < Int32.ofNat x ↔ R ≤ x)) ∧ (σ.1 20 = Int32.ofNat T) ∧ (∀ x : Nat, x < 5000 → (σ.1 21 < Int32.ofNat x ↔ B ≤ x)) ∧ (LM ≤ L) ∧ (R ≤ RM) ∧ (TM ≤ T) ∧ (B ≤ BM) ∧ (RM ≤ w) ∧ (BM ≤ h) ∧ (L ≤ 2000 ∧ T ≤ 2000) ∧ (∀ x y : Nat, x < w → y < h → cov X Y x y → L ≤ x ∧ x < R ∧ T ≤ y ∧ y < B)
theorem Box.l {X Y : Nat → Int32} {w h L R T B LM RM TM BM : Nat} {σ : Sg} (a_ : Box X Y w h L R T B LM RM TM BM σ) : σ.1 18 = Int32.ofNat L := a_.1
theorem Box.r {X Y : Nat → Int32} {w h L R T B LM RM TM BM : Nat} {σ : Sg} (a_ : Box X Y w h L R T B LM RM TM BM σ) : ∀ x : Nat, x < 5000 → (σ.1 19 < Int32.ofNat x ↔ R ≤ x) := a_.2.1
theorem Box.t {X Y : Nat → Int32} {w h L R T B LM RM TM BM : Nat} {σ : Sg} (a_ : Box X Y w h L R T B LM RM TM BM σ) : σ.1 20 = Int32.ofNat T := a_.2.2.1
theorem Box.b {X Y : Nat → Int32} {w h L R T B LM RM TM BM : Nat} {σ : Sg} (a_ : Box X Y w h L R T B LM RM TM BM σ) : ∀ x : Nat, x < 5000 → (σ.1 21 < Int32.ofNat x ↔ B ≤ x) := a_.2.2.2.1
theorem Box.lm {X Y : Nat → Int32} {w h L R T B LM RM TM BM : Nat} {σ : Sg} (a_ : Box X Y w h L R T B LM RM TM BM σ) : LM ≤ L := a_.2.2.2.2.1
theorem Box.rm {X Y : Nat → Int32} {w h L R T B LM RM TM BM : Nat} {σ : Sg} (a_ : Box X Y w h L R T B LM RM TM BM σ) : R ≤ RM := a_.2.2.2.2.2.1
theorem Box.tm {X Y : Nat → Int32} {w h L R T B LM RM TM BM : Nat} {σ : Sg} (a_ : Box X Y w h L R T B LM RM TM BM σ) : TM ≤ T := a_.2.2.2.2.2.2.1
theorem Box.bm {X Y : Nat → Int32} {w h L R T B LM RM TM BM : Nat} {σ : Sg} (a_ : Box X Y w h L R T B LM RM TM BM σ) : B ≤ BM := a_.2.2.2.2.2.2.2.1
theorem Box.rw_ {X Y : Nat → Int32} {w h L R T B LM RM TM BM : Nat} {σ : Sg} (a_ : Box X Y w h L R T B LM RM TM BM σ) : RM ≤ w := a_.2.2.2.2.2.2.2.2.1
theorem Box.bh {X Y : Nat → Int32} {w h L R T B LM RM TM BM : Nat} {σ : Sg} (a_ : Box X Y w h L R T B LM RM TM BM σ) : BM ≤ h := a_.2.2.2.2.2.2.2.2.2.1
theorem Box.ll {X Y : Nat → Int32} {w h L R T B LM RM TM BM : Nat} {σ : Sg} (a_ : Box X Y w h L R T B LM RM TM BM σ) : L ≤ 2000 ∧ T ≤ 2000 := a_.2.2.2.2.2.2.2.2.2.2.1
theorem Box.cv {X Y : Nat → Int32} {w h L R T B LM RM TM BM : Nat} {σ : Sg} (a_ : Box X Y w h L R T B LM RM TM BM σ) : ∀ x y : Nat, x < w → y < h → cov X Y x y → L ≤ x ∧ x < R ∧ T ≤ y ∧ y < B := a_.2.2.2.2.2.2.2.2.2.2.2
def BoxR (X Y : Nat → Int32) (LM RM TM BM : Nat) (τ : Sg) : Prop := (∃ v, F_Mod_edge τ 40 0 = some v ∧ F_Mod_greatest 0 v = some (Int32.ofNat LM)) ∧ (∃ v, F_Mod_edge τ 40 1 = some v ∧ ∃ z, F_Mod_least (τ.1 1 - 1) v = some z ∧ ∀ x : Nat, x < 5000 → (z < Int32.ofNat x ↔ RM ≤ x)) ∧ (∃ v, F_Mod_edge τ 41 0 = some v ∧ F_Mod_greatest 0 v = some (Int32.ofNat TM)) ∧ (∃ v, F_Mod_edge τ 41 1 = some v ∧ ∃ z, F_Mod_least (τ.1 2 - 1) v = some z ∧ ∀ x : Nat, x < 5000 → (z < Int32.ofNat x ↔ BM ≤ x))
theorem BoxR.e1 {X Y : Nat → Int32} {LM RM TM BM : Nat} {τ : Sg} (a_ : BoxR X Y LM RM TM BM τ) : ∃ v, F_Mod_edge τ 40 0 = some v ∧ F_Mod_greatest 0 v = some (Int32.ofNat LM) := a_.1
theorem BoxR.e2 {X Y : Nat → Int32} {LM RM TM BM : Nat} {τ : Sg} (a_ : BoxR X Y LM RM TM BM τ) : ∃ v, F_Mod_edge τ 40 1 = some v ∧ ∃ z, F_Mod_least (τ.1 1 - 1) v = some z ∧ ∀ x : Nat, x < 5000 → (z < Int32.ofNat x ↔ RM ≤ x) := a_.2.1
theorem BoxR.e3 {X Y : Nat → Int32} {LM RM TM BM : Nat} {τ : Sg} (a_ : BoxR X Y LM RM TM BM τ) : ∃ v, F_Mod_edge τ 41 0 = some v ∧ F_Mod_greatest 0 v = some (Int32.ofNat TM) := a_.2.2.1
theorem BoxR.e4 {X Y : Nat → Int32} {LM RM TM BM : Nat} {τ : Sg} (a_ : BoxR X Y LM RM TM BM τ) : ∃ v, F_Mod_edge τ 41 1 = some v ∧ ∃ z, F_Mod_least (τ.1 2 - 1) v = some z ∧ ∀ x : Nat, x < 5000 → (z < Int32.ofNat x ↔ BM ≤ x) := a_.2.2.2
theorem box_all (X Y : Nat → Int32) (w h : Nat) (σ : Sg) (hw : 1 ≤ w ∧ w ≤ 128) (hh : 1 ≤ h ∧ h ≤ 128) (hX : XyOK X) (hY : XyOK Y) (hb : BoxC X Y w h σ) :
    ∃ L R T B LM RM TM BM, Box X Y w h L R T B LM RM TM BM σ ∧ ∀ τ : Sg, RasM X Y τ → τ.1 1 = Int32.ofNat w → τ.1 2 = Int32.ofNat h → BoxR X Y LM RM TM BM τ := by
  obtain ⟨b1, b2, b3, b4⟩ := hb
  have x1 := mn3_in X hX
  have y1 := mn3_in Y hY
  refine ⟨(σ.1 18).toInt.toNat, ((σ.1 19).toInt + 1).toNat, (σ.1 20).toInt.toNat, ((σ.1 21).toInt + 1).toNat, (mn3 X / 16).toNat, (min ((w : Int) - 1) (mx3 X / 16) + 1).toNat, (mn3 Y / 16).toNat, (min ((h : Int) - 1) (mx3 Y / 16) + 1).toNat, ⟨?_, ?_, ?_, ?_, ?_, ?_, ?_, ?_, ?_, ?_, ?_, ?_⟩, ?_⟩
  · apply i_inj; rw [n_int _ (by omega)]; omega
  · intro x hx; rw [Int32.lt_iff_toInt_lt, n_int x (by omega)]; omega
  · apply i_inj; rw [n_int _ (by omega)]; omega
  · intro x hx; rw [Int32.lt_iff_toInt_lt, n_int x (by omega)]; omega
  · omega
  · omega
  · omega
  · omega
  · omega
  · omega
  · omega
  · intro x y hxw hyh hc
    have cx := cov_x X Y x y hc
    have cy := cov_y X Y x y hc
    have c1 := (cx (mn3 X)).1 (mn3_lo X)
    have c2 := (cx (mx3 X)).2 (mx3_hi X)
    have c3 := (cy (mn3 Y)).1 (mn3_lo Y)
    have c4 := (cy (mx3 Y)).2 (mx3_hi Y)
    omega
  · intro τ hR g1 g2
    obtain ⟨⟨v1, a1, a2⟩, ⟨v2, a3, a4⟩⟩ := e_edge X τ 40 (Or.inl rfl) (fun j hj => (hR j hj).1)
    obtain ⟨⟨v3, a5, a6⟩, ⟨v4, a7, a8⟩⟩ := e_edge Y τ 41 (Or.inr rfl) (fun j hj => (hR j hj).2)
    refine ⟨⟨v1, a1, ?_⟩, ⟨v2, a3, ?_⟩, ⟨v3, a5, ?_⟩, ⟨v4, a7, ?_⟩⟩
    · rw [e_lo v1 (by omega), a2]
    · rw [g1, ← a4]; exact e_hi v2 w hw
    · rw [e_lo v3 (by omega), a6]
    · rw [g2, ← a8]; exact e_hi v4 h hh
