/-! what a call of the face does on both sides, with the room that it takes -/
def Inv (σ φ : Sg) : Prop := 64 ≤ σ.2.2.2.2 1 ∧ ∃ w h sz, Rel σ φ w h sz
def Phi (M c : Nat) : Nat := if c < M then 2 * c else 3 * M
def Pot (σ : Sg) : Nat := 3 * Phi 16384 (σ.2.2.2.2 0) + Phi 4096 (σ.2.2.2.2 1)
theorem Phi_up (M c n : Nat) (h1 : c < n) (h2 : n ≤ M) (h3 : 2 * c ≤ n ∨ n = M) : n + Phi M c ≤ Phi M n := by
  unfold Phi
  rw [if_pos (show c < M by omega)]
  by_cases e : n < M
  · rw [if_pos e]; omega
  · rw [if_neg e]; omega
theorem Phi_le (M c : Nat) (h : c ≤ M) : Phi M c ≤ 3 * M := by
  unfold Phi
  by_cases e : c < M
  · rw [if_pos e]; omega
  · rw [if_neg e]; omega
theorem Pot_same {σ σ' : Sg} (h0 : σ'.2.2.2.2 0 = σ.2.2.2.2 0) (h1 : σ'.2.2.2.2 1 = σ.2.2.2.2 1) : Pot σ' = Pot σ := by unfold Pot; rw [h0, h1]
theorem Pot_eq {σ σ' : Sg} (h : σ'.2.2.2.2 = σ.2.2.2.2) : Pot σ' = Pot σ := by unfold Pot; rw [h]
def Opr (l : Launch) (y : MethodName) (cw : Cond) (D : va_G) (τ : ClassId × ClassId × ClassId) (B : Nat) (av : List Value) (σ φ : Sg) (ad : Nat → Nat) (ou : Nat) (f : Nat → Int64) (G : Sg → Option (Sg × Int32)) : Prop :=
  ∃ (S : Type) (g : S → Nat → Nat) (kk b : Int32) (σ' φ' : Sg) (f' : Nat → Int64) (mc ms : Nat), MIa l y cw 8 mc ms D τ B av ([oc τ ou f] ++ wdC τ σ ad) S (fun r _ => r = kk) (fun u => [oc τ ou f'] ++ wdC τ σ' (g u)) ∧ (∀ u, g u 56 = ad 56) ∧ G φ = some (φ', b) ∧ Inv σ' φ' ∧ φ'.1 0 = kk ∧ (kk = 0 → f' (0 : Int32).toNatClampNeg = b.toInt64) ∧ mc ≤ 3 ∧ ms + Pot σ ≤ 6 + Pot σ'
def OprE (l : Launch) (y : MethodName) (cw : Cond) (D : va_G) (τ : ClassId × ClassId × ClassId) (B : Nat) (av : List Value) (σ φ : Sg) (ad : Nat → Nat) (ou : Nat) (f : Nat → Int64) (G : Sg → Option Sg) : Prop :=
  ∃ (S : Type) (g : S → Nat → Nat) (kk : Int32) (σ' φ' : Sg) (f' : Nat → Int64) (mc ms : Nat), MIa l y cw 8 mc ms D τ B av ([oc τ ou f] ++ wdC τ σ ad) S (fun r _ => r = kk) (fun u => [oc τ ou f'] ++ wdC τ σ' (g u)) ∧ (∀ u, g u 56 = ad 56) ∧ G φ = some φ' ∧ Inv σ' φ' ∧ φ'.1 0 = kk ∧ mc ≤ 3 ∧ ms + Pot σ ≤ 6 + Pot σ'
theorem nin {x a b : Int32} (g : ¬ (0 ≤ x ∧ x ≤ a)) (e : a.toInt + 1 = b.toInt) : x < 0 ∨ b ≤ x := by
  by_cases c : x < 0
  · exact Or.inl c
  · refine Or.inr (Int32.not_lt.mp fun h => g ⟨Int32.not_lt.mp c, ?_⟩)
    have h2 := Int32.lt_iff_toInt_lt.mp h
    exact Int32.le_iff_toInt_le.mpr (by omega)
theorem nin' {x a : Int32} (g : ¬ (0 ≤ x ∧ x ≤ a)) : x < 0 ∨ a < x := by
  by_cases c : x < 0
  · exact Or.inl c
  · exact Or.inr (Int32.not_le.mp fun h => g ⟨Int32.not_lt.mp c, h⟩)
section OPS
variable (l : Launch) (hfl : l.stackTraces = false) (D : va_G) (τ : ClassId × ClassId × ClassId) (B : Nat) (σ φ : Sg) (ad : Nat → Nat) (f : Nat → Int64) (ou : Nat) (I : Inv σ φ)
theorem op_word (hfl : l.stackTraces = false) (I : Inv σ φ) (x v : Int32) : Opr l y_law_word (Cond.codeWith y_law_word method_4_code 5 (some .int) [(0, 10, 13, 19)]) D τ B [.ref (ad 56), .int x, .int v, .ref ou] σ φ ad ou f (fun φ => F_Mod_word φ x v) := by
  obtain ⟨i6, w, h, sz, a⟩ := I
  by_cases g : 0 ≤ x ∧ x ≤ 4095
  · obtain ⟨σ', φ', k, e1, e2, e3, e4, e5⟩ := a_word σ φ w h sz x v a g
    exact ⟨Unit, fun _ => ad, 0, k, σ', φ', _, 0, 0, h_word_g l D τ B σ ad f ou x v (σ', k) e1, fun _ => rfl, e2, ⟨by rw [e5]; exact i6, w, h, sz, e3⟩, e4, fun _ => updL_0, by omega, by rw [Pot_eq e5]; omega⟩
  · exact ⟨Unit, fun _ => ad, 1, 0, σ, sI φ 0 1, f, 1, 6, h_word_b l hfl D τ B σ ad f ou x v (nin g (by decide)), fun _ => rfl, a_word_no φ x v g, ⟨i6, w, h, sz, a.no 1⟩, rfl, fun e => absurd e ne10, by omega, by omega⟩
theorem op_look (hfl : l.stackTraces = false) (I : Inv σ φ) (x : Int32) : Opr l y_law_look (Cond.codeWith y_law_look method_5_code 4 (some .int) [(0, 9, 12, 19)]) D τ B [.ref (ad 56), .int x, .ref ou] σ φ ad ou f (fun φ => F_Mod_look φ x) := by
  obtain ⟨i6, w, h, sz, a⟩ := I
  by_cases g : 0 ≤ x ∧ x ≤ 4095
  · obtain ⟨k, e1, e2⟩ := a_look σ φ w h sz x a g
    exact ⟨Unit, fun _ => ad, 0, k, σ, sI φ 0 0, _, 0, 0, h_look_g l D τ B σ ad f ou x k e1, fun _ => rfl, e2, ⟨i6, w, h, sz, a.no 0⟩, rfl, fun _ => updL_0, by omega, by omega⟩
  · exact ⟨Unit, fun _ => ad, 1, 0, σ, sI φ 0 1, f, 1, 6, h_look_b l hfl D τ B σ ad f ou x (nin g (by decide)), fun _ => rfl, a_look_no φ x g, ⟨i6, w, h, sz, a.no 1⟩, rfl, fun e => absurd e ne10, by omega, by omega⟩
theorem op_query (hfl : l.stackTraces = false) (I : Inv σ φ) (x : Int32) : Opr l y_law_query (Cond.codeWith y_law_query method_12_code 4 (some .int) [(0, 9, 12, 13)]) D τ B [.ref (ad 56), .int x, .ref ou] σ φ ad ou f (fun φ => F_Mod_query φ x) := by
  obtain ⟨i6, w, h, sz, a⟩ := I
  by_cases g : 0 ≤ x ∧ x ≤ 7
  · obtain ⟨k, e1, e2⟩ := a_query σ φ w h sz x a g
    exact ⟨Unit, fun _ => ad, 0, k, σ, sI φ 0 0, _, 0, 0, h_query_g l D τ B σ ad f ou x k e1, fun _ => rfl, e2, ⟨i6, w, h, sz, a.no 0⟩, rfl, fun _ => updL_0, by omega, by omega⟩
  · exact ⟨Unit, fun _ => ad, 1, 0, σ, sI φ 0 1, f, 1, 6, h_query_b l hfl D τ B σ ad f ou x (nin g (by decide)), fun _ => rfl, a_query_no φ x g, ⟨i6, w, h, sz, a.no 1⟩, rfl, fun e => absurd e ne10, by omega, by omega⟩
theorem op_count (hfl : l.stackTraces = false) (I : Inv σ φ) (x : Int32) : Opr l y_law_count (Cond.codeWith y_law_count method_13_code 4 (some .int) [(0, 9, 12, 13)]) D τ B [.ref (ad 56), .int x, .ref ou] σ φ ad ou f (fun φ => F_Mod_count φ x) := by
  obtain ⟨i6, w, h, sz, a⟩ := I
  by_cases g : 0 ≤ x ∧ x ≤ 8
  · obtain ⟨k, e1, e2⟩ := a_count σ φ w h sz x a g
    exact ⟨Unit, fun _ => ad, 0, k, σ, sI φ 0 0, _, 0, 0, h_count_g l D τ B σ ad f ou x k e1, fun _ => rfl, e2, ⟨i6, w, h, sz, a.no 0⟩, rfl, fun _ => updL_0, by omega, by omega⟩
  · exact ⟨Unit, fun _ => ad, 1, 0, σ, sI φ 0 1, f, 1, 6, h_count_b l hfl D τ B σ ad f ou x (nin g (by decide)), fun _ => rfl, a_count_no φ x g, ⟨i6, w, h, sz, a.no 1⟩, rfl, fun e => absurd e ne10, by omega, by omega⟩
theorem op_sum (hfl : l.stackTraces = false) (I : Inv σ φ) (x : Int32) : Opr l y_law_sum (Cond.codeWith y_law_sum method_11_code 4 (some .int) [(0, 9, 12, 13)]) D τ B [.ref (ad 56), .int x, .ref ou] σ φ ad ou f (fun φ => F_Mod_sum φ x) := by
  obtain ⟨i6, w, h, sz, a⟩ := I
  by_cases g : 0 ≤ x ∧ x ≤ 2
  · obtain ⟨k, e1, e2⟩ := a_sum σ φ w h sz x a g
    exact ⟨Unit, fun _ => ad, 0, k, σ, sI (sI φ 0 0) 28 0, _, 0, 0, h_sum_g l D τ B σ ad f ou x k e1, fun _ => rfl, e2, ⟨i6, w, h, sz, a.no28 0 0⟩, rfl, fun _ => updL_0, by omega, by omega⟩
  · exact ⟨Unit, fun _ => ad, 1, 0, σ, sI φ 0 1, f, 1, 6, h_sum_b l hfl D τ B σ ad f ou x (nin' g), fun _ => rfl, a_sum_no φ x g, ⟨i6, w, h, sz, a.no 1⟩, rfl, fun e => absurd e ne10, by omega, by omega⟩
theorem op_about (hfl : l.stackTraces = false) (I : Inv σ φ) (x : Int32) : Opr l y_law_about (Cond.codeWith y_law_about method_9_code 4 (some .int) [(0, 9, 12, 13)]) D τ B [.ref (ad 56), .int x, .ref ou] σ φ ad ou f (fun φ => F_Mod_about φ x) := by
  obtain ⟨i6, w, h, sz, a⟩ := I
  by_cases g : 0 ≤ x ∧ x ≤ 8
  · obtain ⟨k, u, e1, e2, e3⟩ := a_about σ φ w h sz x a g
    rcases e3 with rfl | rfl
    · exact ⟨Unit, fun _ => ad, 0, k, σ, sI φ 0 0, _, 0, 0, h_about_g l D τ B σ ad f ou x k e1, fun _ => rfl, e2, ⟨i6, w, h, sz, a.no 0⟩, rfl, fun _ => updL_0, by omega, by omega⟩
    · exact ⟨Unit, fun _ => ad, 0, k, σ, sI (sI φ 0 0) 7 0, _, 0, 0, h_about_g l D τ B σ ad f ou x k e1, fun _ => rfl, e2, ⟨i6, w, h, sz, a.no7 0 0⟩, rfl, fun _ => updL_0, by omega, by omega⟩
  · exact ⟨Unit, fun _ => ad, 1, 0, σ, sI φ 0 1, f, 1, 6, h_about_b l hfl D τ B σ ad f ou x (nin' g), fun _ => rfl, a_about_no φ x g, ⟨i6, w, h, sz, a.no 1⟩, rfl, fun e => absurd e ne10, by omega, by omega⟩
theorem op_at (hfl : l.stackTraces = false) (I : Inv σ φ) (px py x : Int32) : Opr l y_law_at (Cond.codeWith y_law_at method_10_code 6 (some .int) [(0, 12, 15, 13), (0, 12, 19, 19)]) D τ B [.ref (ad 56), .int px, .int py, .int x, .ref ou] σ φ ad ou f (fun φ => F_Mod_at φ px py x) := by
  obtain ⟨i6, w, h, sz, a⟩ := I
  by_cases g : 0 ≤ x ∧ x ≤ 2
  · by_cases gp : (0 ≤ px ∧ px < σ.1 0) ∧ (0 ≤ py ∧ py < σ.1 1)
    · obtain ⟨k, e1, e2⟩ := a_at σ φ w h sz px py x a g gp.1 gp.2
      exact ⟨Unit, fun _ => ad, 0, k, σ, sI φ 0 0, _, 0, 0, h_at_g l D τ B σ ad f ou px py x k e1, fun _ => rfl, e2, ⟨i6, w, h, sz, a.no 0⟩, rfl, fun _ => updL_0, by omega, by omega⟩
    · exact ⟨Unit, fun _ => ad, 2, 0, σ, sI φ 0 2, f, 1, 6, h_at_bp l hfl D τ B σ ad f ou px py x (Int32.not_lt.mpr g.1) g.2 gp, fun _ => rfl, a_at_p σ φ w h sz px py x a g gp, ⟨i6, w, h, sz, a.no 2⟩, rfl, fun e => absurd e (by decide), by omega, by omega⟩
  · exact ⟨Unit, fun _ => ad, 1, 0, σ, sI φ 0 1, f, 1, 6, h_at_bw l hfl D τ B σ ad f ou px py x (nin' g), fun _ => rfl, a_at_w φ px py x g, ⟨i6, w, h, sz, a.no 1⟩, rfl, fun e => absurd e ne10, by omega, by omega⟩
theorem op_run (hfl : l.stackTraces = false) (I : Inv σ φ) (x : Int32) : Opr l y_law_run (Cond.codeWith y_law_run method_8_code 4 (some .int) [(0, 9, 12, 13), (0, 9, 15, 38)]) D τ B [.ref (ad 56), .int x, .ref ou] σ φ ad ou f (fun φ => F_Mod_run φ x) := by
  obtain ⟨i6, w, h, sz, a⟩ := I
  by_cases g : 0 ≤ x
  · by_cases g9 : σ.1 9 = 0
    · obtain ⟨σ', φ', k, e1, e2, e3, e4, e5, e6⟩ := e_drun σ φ w h sz x a g9 g
      exact ⟨Unit, fun _ => ad, 0, k, σ', φ', _, 0, 0, h_run_g l D τ B σ ad f ou x (σ', k) e1, fun _ => rfl, e2, ⟨by rw [e6]; exact i6, w, h, sz, e3⟩, e4, fun _ => updL_0, by omega, by rw [Pot_same e5 e6]; omega⟩
    · exact ⟨Unit, fun _ => ad, 2, 0, σ, sI φ 0 2, f, 1, 6, h_run_o l hfl D τ B σ ad f ou x g g9, fun _ => rfl, (e_run_no φ x).2 g (by rw [a.2.ov]; exact g9), ⟨i6, w, h, sz, a.no 2⟩, rfl, fun e => absurd e (by decide), by omega, by omega⟩
  · exact ⟨Unit, fun _ => ad, 1, 0, σ, sI φ 0 1, f, 1, 6, h_run_b l hfl D τ B σ ad f ou x (Int32.not_le.mp g), fun _ => rfl, (e_run_no φ x).1 g, ⟨i6, w, h, sz, a.no 1⟩, rfl, fun e => absurd e ne10, by omega, by omega⟩
theorem le5 (n : Nat) (M : Nat) (hn : n < 2000000) (hM : M < 2147483648) : Int32.ofNat n + 5 ≤ Int32.ofNat M ↔ n + 5 ≤ M := by
  rw [show (Int32.ofNat n + 5 : Int32) = Int32.ofNat (n + 5) from n_add n 5, n_le _ _ (by omega) hM]
theorem op_feed (hfl : l.stackTraces = false) (I : Inv σ φ) (x0 x1 x2 x3 x4 : Int32) : Opr l y_law_feed (Cond.codeWith y_law_feed method_6_code 8 (some .int) [(0, 16, 19, 29)]) D τ B [.ref (ad 56), .int x0, .int x1, .int x2, .int x3, .int x4, .ref ou] σ φ ad ou f (fun φ => F_Mod_feed φ x0 x1 x2 x3 x4) := by
  obtain ⟨i6, w, h, sz, a⟩ := I
  have hz := a.2.z
  have hzn := a.2.zn
  have hn4 := a.2.n4
  have s1 := a.2.s1
  by_cases g : sz + 5 ≤ 4096
  · have g' : σ.1 2 + 5 ≤ 4096 := by rw [s1]; exact (le5 sz 4096 (by omega) (by omega)).mpr g
    by_cases r : sz + 5 ≤ σ.2.2.2.2 1
    · obtain ⟨σ', φ', k, e1, e2, e3, e4, e5⟩ := a_feed σ φ w h sz x0 x1 x2 x3 x4 a r
      have eF : F_DM_feed σ x0 x1 x2 x3 x4 = some (σ', k) := by
        unfold F_DM_feed F_Cou_makeRoom
        rw [if_pos g', show lenC σ 7 = σ.2.2.2.2 1 from rfl, if_pos (by rw [s1]; exact (le5 sz _ (by omega) (by omega)).mpr r), bd_def]
        exact e1
      exact ⟨Unit, fun _ => ad, 0, k, σ', φ', _, 0, 0, h_feed_g l D τ B σ ad f ou x0 x1 x2 x3 x4 (σ', k) eF, fun _ => rfl, e2, ⟨by rw [e5]; exact i6, w, h, sz + 5, e3⟩, e4, fun _ => updL_0, by omega, by rw [Pot_eq e5]; omega⟩
    · have hgt : ¬ σ.1 2 + 5 ≤ nI (σ.2.2.2.2 1) := by rw [s1]; exact fun e => r ((le5 sz _ (by omega) (by omega)).mp e)
      obtain ⟨n, hn⟩ : ∃ n, n = if 2 * σ.2.2.2.2 1 ≤ 4096 then 2 * σ.2.2.2.2 1 else 4096 := ⟨_, rfl⟩
      have hn1 : σ.2.2.2.2 1 < n ∧ n ≤ 4096 ∧ sz + 5 ≤ n ∧ (2 * σ.2.2.2.2 1 ≤ n ∨ n = 4096) := by
        by_cases c : 2 * σ.2.2.2.2 1 ≤ 4096
        · rw [if_pos c] at hn; omega
        · rw [if_neg c] at hn; omega
      have hmin : imin (nI (2 * σ.2.2.2.2 1)) 4096 = nI n := by
        show (if (4096 : Int32) < nI (2 * σ.2.2.2.2 1) then (4096 : Int32) else nI (2 * σ.2.2.2.2 1)) = _
        by_cases c : 2 * σ.2.2.2.2 1 ≤ 4096
        · rw [if_neg (show ¬ (4096 : Int32) < nI (2 * σ.2.2.2.2 1) from fun e => absurd ((n_lt 4096 _ (by omega) (by omega)).mp e) (by omega)), hn, if_pos c]
        · rw [if_pos (show (4096 : Int32) < nI (2 * σ.2.2.2.2 1) from (n_lt 4096 _ (by omega) (by omega)).mpr (by omega)), hn, if_neg c]; rfl
      have rr : Rel (sRoom σ n) φ w h sz := by
        refine a.room n _ (by omega) (by omega) (fun j hj => ?_)
        unfold va_cpy
        rw [show (nI (σ.2.2.2.2 1)).toNatClampNeg = σ.2.2.2.2 1 from n_nat _ (by omega), if_pos ⟨Nat.zero_le j, by show j < 0 + σ.2.2.2.2 1; omega⟩]
        show σ.2.2.1 7 (0 + (j - 0)) = _
        rw [Nat.zero_add, Nat.sub_zero]
      obtain ⟨σ', φ', k, e1, e2, e3, e4, e5⟩ := a_feed (sRoom σ n) φ w h sz x0 x1 x2 x3 x4 rr (by show sz + 5 ≤ n; omega)
      refine ⟨Nat, fun u => adS ad u, 0, k, σ', φ', _, 1, n, h_feed_n l D τ B σ ad f ou x0 x1 x2 x3 x4 n g' hgt hmin hn1.1 (by omega) (σ', k) e1, fun _ => rfl, e2, ⟨by rw [e5]; show 64 ≤ n; omega, w, h, sz + 5, e3⟩, e4, fun _ => updL_0, by omega, ?_⟩
      rw [Pot_eq e5]
      show n + (3 * Phi 16384 (σ.2.2.2.2 0) + Phi 4096 (σ.2.2.2.2 1)) ≤ 6 + (3 * Phi 16384 (σ.2.2.2.2 0) + Phi 4096 n)
      have := Phi_up 4096 (σ.2.2.2.2 1) n hn1.1 hn1.2.1 hn1.2.2.2
      omega
  · have g' : ¬ σ.1 2 + 5 ≤ 4096 := by rw [s1]; exact fun e => g ((le5 sz 4096 (by omega) (by omega)).mp e)
    exact ⟨Unit, fun _ => ad, 1, 0, σ, sI φ 0 1, f, 1, 6, h_feed_b l hfl D τ B σ ad f ou x0 x1 x2 x3 x4 g', fun _ => rfl, a_feed_no σ φ w h sz x0 x1 x2 x3 x4 a g, ⟨i6, w, h, sz, a.no 1⟩, rfl, fun e => absurd e ne10, by omega, by omega⟩
theorem e_fside (a : Nat) (h1 : 1 ≤ a) (h2 : a ≤ 128) : F_DM_isSide (Int32.ofNat a) = some 1 := by
  have g1 : ¬ Int32.ofNat a < 1 := fun e => absurd ((n_lt a 1 (by omega) (by omega)).mp e) (by omega)
  have g2 : ¬ (128 : Int32) < Int32.ofNat a := fun e => absurd ((n_lt 128 a (by omega) (by omega)).mp e) (by omega)
  unfold F_DM_isSide
  rw [if_neg g1, if_neg g2]; rfl
theorem e_tile (s : Int32) (h : sdOK s) : F_DM_isTileSide s = some 1 := by
  rcases h with q | q | q | q <;> rw [q] <;> rfl
theorem op_frame (hfl : l.stackTraces = false) (I : Inv σ φ) (fw fh sd : Int32) : Opr l y_law_frame (Cond.codeWith y_law_frame method_3_code 6 (some .int) [(0, 12, 15, 13)]) D τ B [.ref (ad 56), .int fw, .int fh, .int sd, .ref ou] σ φ ad ou f (fun φ => F_Mod_frame φ fw fh sd) := by
  obtain ⟨i6, w0, h0, sz, rel⟩ := I
  have hc0 := rel.1.pic.cap
  have hc2 := rel.1.pic.cap2
  have hn0 : 1 ≤ σ.2.2.2.2 0 := Nat.le_trans (Nat.mul_le_mul rel.1.pic.w1.1 rel.1.pic.h1.1) hc0
  by_cases g : (1 ≤ fw ∧ fw ≤ 128) ∧ (1 ≤ fh ∧ fh ≤ 128) ∧ sdOK sd
  · obtain ⟨gw, gh, gs⟩ := g
    have le1 : ∀ x : Int32, 1 ≤ x → 0 ≤ x := fun x hx => Int32.le_trans (by decide) hx
    obtain ⟨a, a2, rfl⟩ := n_rng fw 128 (by omega) ⟨le1 _ gw.1, gw.2⟩
    obtain ⟨b, b2, rfl⟩ := n_rng fh 128 (by omega) ⟨le1 _ gh.1, gh.2⟩
    have a1 : 1 ≤ a := (n_le 1 a (by omega) (by omega)).mp gw.1
    have b1 : 1 ≤ b := (n_le 1 b (by omega) (by omega)).mp gh.1
    have hab : a * b ≤ 16384 := Nat.le_trans (Nat.mul_le_mul a2 b2) (by decide)
    by_cases r : a * b ≤ σ.2.2.2.2 0
    · let σ2 := sI (sI σ 0 (Int32.ofNat a)) 1 (Int32.ofNat b)
      let σ3 := sA σ2 2 (rowset (σ2.2.2.1 2) 0 (a * b) (fun _ => 0))
      let σ4 := sA σ3 3 (rowset (σ3.2.2.1 3) 0 (a * b) (fun _ => 0))
      let σ5 := sA σ4 4 (rowset (σ4.2.2.1 4) 0 (a * b) (fun _ => 0))
      have fl : ∀ (υ : Sg) (ar : Nat), ar < 47 → lenC υ ar = σ.2.2.2.2 0 → F_Arr_fill1 υ ar 0 (Int32.ofNat (a * b)) 0 = some (sA υ ar (rowset (υ.2.2.1 ar) 0 (a * b) (fun _ => 0))) := by
        intro υ ar h1 h2
        have := e_fill1 υ ar 0 (a * b) (σ.2.2.2.2 0) 0 h1 h2 (by omega) (by omega)
        rw [Nat.zero_add] at this
        exact this
      have eP : F_Pic_makeNew σ (Int32.ofNat a) (Int32.ofNat b) = some σ5 := by
        unfold F_Pic_makeNew
        rw [lt_def, lt_def, show (sI (sI σ 0 (Int32.ofNat a)) 1 (Int32.ofNat b)).1 0 * (sI (sI σ 0 (Int32.ofNat a)) 1 (Int32.ofNat b)).1 1 = Int32.ofNat (a * b) from n_mul a b, if_pos (show Int32.ofNat (a * b) ≤ Int32.ofNat (lenC (sI (sI σ 0 (Int32.ofNat a)) 1 (Int32.ofNat b)) 2) from (n_le (a * b) (σ.2.2.2.2 0) (by omega) (by omega)).mpr r), fl (sI (sI σ 0 (Int32.ofNat a)) 1 (Int32.ofNat b)) 2 (by decide) rfl, bd_def]
        show bd (F_Arr_fill1 σ3 3 0 (σ3.1 0 * σ3.1 1) 0) (fun o9 => bd (F_Arr_fill1 o9 4 0 (o9.1 0 * o9.1 1) 0) (fun o10 => some o10)) = some σ5
        rw [show σ3.1 0 * σ3.1 1 = Int32.ofNat (a * b) from n_mul a b, fl σ3 3 (by decide) rfl, bd_def]
        show bd (F_Arr_fill1 σ4 4 0 (σ4.1 0 * σ4.1 1) 0) (fun o10 => some o10) = some σ5
        rw [show σ4.1 0 * σ4.1 1 = Int32.ofNat (a * b) from n_mul a b, fl σ4 4 (by decide) rfl, bd_def]
      have s0 : ¬ sd = 0 := sd_nz gs
      have eF : F_DM_frame σ (Int32.ofNat a) (Int32.ofNat b) sd = some (σ5, tls (Int32.ofNat a) (Int32.ofNat b) sd) := by
        unfold F_DM_frame
        rw [e_fside a a1 a2, bd_def, if_neg ne10, e_fside b b1 b2, bd_def, if_neg ne10, e_tile sd gs, bd_def, if_neg ne10, eP, bd_def, ck_pos s0, ck_pos s0]
        rfl
      have F : Fr pFm σ σ5 := fr_sA (fr_sA (fr_sA (fr_sI (fr_sI Fr.rfl 0 _ rfl) 1 _ rfl) 2 _ rfl) 3 _ rfl) 4 _ rfl
      obtain ⟨φ', e2, e3, e4⟩ := a_frame σ σ5 φ w0 h0 sz a b sd rel ⟨a1, a2⟩ ⟨b1, b2⟩ gs F rfl rfl r hc2 (fun i hi => rowset_get0 (σ2.2.2.1 2) (a * b) (fun _ => 0) i hi) (fun i hi => rowset_get0 (σ3.2.2.1 3) (a * b) (fun _ => 0) i hi) (fun i hi => rowset_get0 (σ4.2.2.1 4) (a * b) (fun _ => 0) i hi)
      exact ⟨Unit, fun _ => ad, 0, _, σ5, φ', _, 0, 0, h_frame_g l D τ B σ ad f ou _ _ sd _ eF, fun _ => rfl, e2, ⟨i6, a, b, sz, e3⟩, e4, fun _ => updL_0, by omega, by show 0 + Pot σ ≤ 6 + Pot σ; omega⟩
    · obtain ⟨r1, hr1⟩ : ∃ r1, r1 = if a * b < 2 * σ.2.2.2.2 0 then 2 * σ.2.2.2.2 0 else a * b := ⟨_, rfl⟩
      obtain ⟨rm, hrm⟩ : ∃ rm, rm = if r1 ≤ 16384 then r1 else 16384 := ⟨_, rfl⟩
      have q1 : a * b ≤ r1 ∧ 2 * σ.2.2.2.2 0 ≤ r1 ∧ r1 ≤ 32768 := by
        by_cases c : a * b < 2 * σ.2.2.2.2 0
        · rw [if_pos c] at hr1; omega
        · rw [if_neg c] at hr1; omega
      have q2 : a * b ≤ rm ∧ rm ≤ 16384 ∧ (2 * σ.2.2.2.2 0 ≤ rm ∨ rm = 16384) := by
        by_cases c : r1 ≤ 16384
        · rw [if_pos c] at hrm; omega
        · rw [if_neg c] at hrm; omega
      have hgt : ¬ nI (a * b) ≤ nI (σ.2.2.2.2 0) := fun e => r ((n_le _ _ (by omega) (by omega)).mp e)
      have m1 : imax (nI (a * b)) (nI (2 * σ.2.2.2.2 0)) = nI r1 := by
        show (if nI (a * b) < nI (2 * σ.2.2.2.2 0) then nI (2 * σ.2.2.2.2 0) else nI (a * b)) = _
        by_cases c : a * b < 2 * σ.2.2.2.2 0
        · rw [if_pos (show nI (a * b) < nI (2 * σ.2.2.2.2 0) from (n_lt _ _ (by omega) (by omega)).mpr c), hr1, if_pos c]
        · rw [if_neg (show ¬ nI (a * b) < nI (2 * σ.2.2.2.2 0) from fun e => c ((n_lt _ _ (by omega) (by omega)).mp e)), hr1, if_neg c]
      have m2 : imin (nI r1) 16384 = nI rm := by
        show (if (16384 : Int32) < nI r1 then (16384 : Int32) else nI r1) = _
        by_cases c : r1 ≤ 16384
        · rw [if_neg (show ¬ (16384 : Int32) < nI r1 from fun e => absurd ((n_lt 16384 _ (by omega) (by omega)).mp e) (by omega)), hrm, if_pos c]
        · rw [if_pos (show (16384 : Int32) < nI r1 from (n_lt 16384 _ (by omega) (by omega)).mpr (by omega)), hrm, if_neg c]; rfl
      have F : Fr pFm σ (sFrame σ a b rm) := fr_sN (fr_sA (fr_sA (fr_sA (fr_sI (fr_sI Fr.rfl 0 _ rfl) 1 _ rfl) 2 _ rfl) 3 _ rfl) 4 _ rfl) 0 _ rfl
      obtain ⟨φ', e2, e3, e4⟩ := a_frame σ (sFrame σ a b rm) φ w0 h0 sz a b sd rel ⟨a1, a2⟩ ⟨b1, b2⟩ gs F rfl rfl q2.1 q2.2.1 (fun i hi => rfl) (fun i hi => rfl) (fun i hi => rfl)
      refine ⟨Nat × Nat × Nat, fun u => adF ad u, 0, _, sFrame σ a b rm, φ', _, 3, 3 * rm, h_frame_n l D τ B σ ad f ou a b r1 rm sd a1 a2 b1 b2 hgt m1 m2 q2.2.1 gs, fun _ => rfl, e2, ⟨i6, a, b, sz, e3⟩, e4, fun _ => updL_0, by omega, ?_⟩
      show 3 * rm + (3 * Phi 16384 (σ.2.2.2.2 0) + Phi 4096 (σ.2.2.2.2 1)) ≤ 6 + (3 * Phi 16384 rm + Phi 4096 (σ.2.2.2.2 1))
      have := Phi_up 16384 (σ.2.2.2.2 0) rm (by omega) q2.2.1 q2.2.2
      omega
  · have eM := a_frame_no φ fw fh sd g
    have bd : ∀ x : Int32, ¬ (1 ≤ x ∧ x ≤ 128) → x < 1 ∨ 128 < x := fun x hx => by
      by_cases c : x < 1
      · exact Or.inl c
      · exact Or.inr (Int32.not_le.mp fun h => hx ⟨Int32.not_lt.mp c, h⟩)
    by_cases gw : 1 ≤ fw ∧ fw ≤ 128
    · by_cases gh : 1 ≤ fh ∧ fh ≤ 128
      · have gs : ¬ sdOK sd := fun e => g ⟨gw, gh, e⟩
        exact ⟨Unit, fun _ => ad, 1, 0, σ, sI φ 0 1, f, 1, 6, h_frame_b3 l hfl D τ B σ ad f ou fw fh sd (Int32.not_lt.mpr gw.1) (Int32.not_lt.mpr gw.2) (Int32.not_lt.mpr gh.1) (Int32.not_lt.mpr gh.2) gs, fun _ => rfl, eM, ⟨i6, w0, h0, sz, rel.no 1⟩, rfl, fun e => absurd e ne10, by omega, by omega⟩
      · exact ⟨Unit, fun _ => ad, 1, 0, σ, sI φ 0 1, f, 1, 6, h_frame_b2 l hfl D τ B σ ad f ou fw fh sd (Int32.not_lt.mpr gw.1) (Int32.not_lt.mpr gw.2) (bd _ gh), fun _ => rfl, eM, ⟨i6, w0, h0, sz, rel.no 1⟩, rfl, fun e => absurd e ne10, by omega, by omega⟩
    · exact ⟨Unit, fun _ => ad, 1, 0, σ, sI φ 0 1, f, 1, 6, h_frame_b1 l hfl D τ B σ ad f ou fw fh sd (bd _ gw), fun _ => rfl, eM, ⟨i6, w0, h0, sz, rel.no 1⟩, rfl, fun e => absurd e ne10, by omega, by omega⟩
theorem op_end (hfl : l.stackTraces = false) (I : Inv σ φ) (x : Int32) : OprE l y_law_end (Cond.codeWith y_law_end method_7_code 3 (some .int) [(0, 5, 8, 13)]) D τ B [.ref (ad 56), .int x] σ φ ad ou f (fun φ => F_Mod_end φ x) := by
  obtain ⟨i6, w, h, sz, a⟩ := I
  by_cases g : 0 ≤ x ∧ x ≤ σ.1 2
  · obtain ⟨σ', φ', sz', e1, e2, e3, e4, e5⟩ := a_end σ φ w h sz x a g
    exact ⟨Unit, fun _ => ad, 0, σ', φ', f, 0, 0, h_end_g l D τ B σ ad f ou x σ' e1, fun _ => rfl, e2, ⟨by rw [e5]; exact i6, w, h, sz', e3⟩, e4, by omega, by rw [Pot_eq e5]; omega⟩
  · exact ⟨Unit, fun _ => ad, 1, σ, sI φ 0 1, f, 1, 6, h_end_b l hfl D τ B σ ad f ou x (nin' g), fun _ => rfl, a_end_no σ φ w h sz x a g, ⟨i6, w, h, sz, a.no 1⟩, rfl, by omega, by omega⟩
theorem op_begin (I : Inv σ φ) (x : Int32) : ∃ σ' φ', F_DM_begin σ x = some σ' ∧ F_Mod_begin φ x = some φ' ∧ Inv σ' φ' ∧ Pot σ' = Pot σ := by
  obtain ⟨i6, w, h, sz, a⟩ := I
  by_cases g : x = 0
  · subst g
    obtain ⟨σ', φ', e1, e2, e3, e4, e5⟩ := a_begin0 σ φ w h sz a
    exact ⟨σ', φ', e1, e2, ⟨by rw [e5]; exact i6, w, h, sz, e3⟩, Pot_eq e5⟩
  · obtain ⟨σ', φ', e1, e2, e3, e4, e5⟩ := a_begin1 σ φ w h sz x a g
    exact ⟨σ', φ', e1, e2, ⟨by rw [e5]; exact i6, w, h, sz, e3⟩, Pot_eq e5⟩
end OPS
