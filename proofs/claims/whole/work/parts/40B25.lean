/-! the calls of the face, on both sides -/
theorem ei_mod (x a b : Int32) (A B : Int64) (ha : a.toInt64 = A) (hb : b.toInt64 = B) : F_Mod_in x.toInt64 A B = some (bI (decide (a ≤ x ∧ x ≤ b))) := by
  subst ha hb
  unfold F_Mod_in F_Mod_in_17 F_Mod_in_18
  have e1 : (x.toInt64 < a.toInt64) ↔ x < a := by rw [Int64.lt_iff_toInt_lt, l_ext, l_ext, Int32.lt_iff_toInt_lt]
  have e2 : (b.toInt64 < x.toInt64) ↔ b < x := by rw [Int64.lt_iff_toInt_lt, l_ext, l_ext, Int32.lt_iff_toInt_lt]
  by_cases c : x < a
  · rw [if_pos (e1.mpr c), decide_eq_false (fun e => Int32.not_le.mpr c e.1)]; rfl
  · rw [if_neg (fun e => c (e1.mp e))]
    by_cases d : b < x
    · rw [if_pos (e2.mpr d), decide_eq_false (fun e => Int32.not_le.mpr d e.2)]; rfl
    · rw [if_neg (fun e => d (e2.mp e)), decide_eq_true ⟨Int32.not_lt.mp c, Int32.not_lt.mp d⟩]; rfl
theorem ei_cmd (x a b : Int32) (A B : Int64) (ha : a.toInt64 = A) (hb : b.toInt64 = B) : F_Cmd_in x.toInt64 A B = some (bI (decide (a ≤ x ∧ x ≤ b))) := by
  subst ha hb
  unfold F_Cmd_in F_Cmd_in_17 F_Cmd_in_18
  have e1 : (x.toInt64 < a.toInt64) ↔ x < a := by rw [Int64.lt_iff_toInt_lt, l_ext, l_ext, Int32.lt_iff_toInt_lt]
  have e2 : (b.toInt64 < x.toInt64) ↔ b < x := by rw [Int64.lt_iff_toInt_lt, l_ext, l_ext, Int32.lt_iff_toInt_lt]
  by_cases c : x < a
  · rw [if_pos (e1.mpr c), decide_eq_false (fun e => Int32.not_le.mpr c e.1)]; rfl
  · rw [if_neg (fun e => c (e1.mp e))]
    by_cases d : b < x
    · rw [if_pos (e2.mpr d), decide_eq_false (fun e => Int32.not_le.mpr d e.2)]; rfl
    · rw [if_neg (fun e => d (e2.mp e)), decide_eq_true ⟨Int32.not_lt.mp c, Int32.not_lt.mp d⟩]; rfl
theorem ne10 : ¬ (1 : Int32) = 0 := by decide
theorem bI_t : ¬ bI true = 0 := by decide
theorem bI_f : bI false = 0 := rfl
theorem mref0 (τ : Sg) : F_Mod_refuse τ 0 0 = some (sI τ 0 0, 0) := e_refuse τ false false
theorem mref1 (τ : Sg) : F_Mod_refuse τ 1 0 = some (sI τ 0 1, 1) := e_refuse τ true false
theorem mref2 (τ : Sg) : F_Mod_refuse τ 0 1 = some (sI τ 0 2, 1) := e_refuse τ false true
theorem cref0 (τ : Sg) : F_Cmd_refuse τ 0 = some (sI τ 7 0, 0) := by
  unfold F_Cmd_refuse F_Cmd_refuse_10
  rw [if_pos rfl, lt_def, ck_pos (Or.inl rfl)]
theorem le_lt {x a b : Int32} (h : x ≤ a) (e : a.toInt + 1 = b.toInt) : x < b := Int32.lt_iff_toInt_lt.mpr (by have := Int32.le_iff_toInt_le.mp h; omega)
theorem n_rng (x : Int32) (N : Nat) (hN : N < 2147483648) (h : 0 ≤ x ∧ x ≤ Int32.ofNat N) : ∃ k, k ≤ N ∧ x = Int32.ofNat k := by
  obtain ⟨k, k1, k2⟩ := n_get x h.1
  refine ⟨k, ?_, k2⟩
  have := h.2
  rw [k2] at this
  exact (n_le k N k1 hN).mp this
/-- a refused call: the reference tells it, and nothing else is changed -/
theorem Rel.no {σ τ : Sg} {w h sz : Nat} (a : Rel σ τ w h sz) (v : Int32) : Rel σ (sI τ 0 v) w h sz :=
  a.same (p := fun _ _ => false) (q := fun c k => c == 0 && k == 0) Fr.rfl (fr_sI Fr.rfl 0 _ rfl) (by decide) (by decide)
theorem Rel.no7 {σ τ : Sg} {w h sz : Nat} (a : Rel σ τ w h sz) (v u : Int32) : Rel σ (sI (sI τ 0 v) 7 u) w h sz :=
  a.same (p := fun _ _ => false) (q := fun c k => c == 0 && (k == 0 || k == 7)) Fr.rfl (fr_sI (fr_sI Fr.rfl 0 _ rfl) 7 _ rfl) (by decide) (by decide)
theorem Rel.no28 {σ τ : Sg} {w h sz : Nat} (a : Rel σ τ w h sz) (v u : Int32) : Rel σ (sI (sI τ 0 v) 28 u) w h sz :=
  a.same (p := fun _ _ => false) (q := fun c k => c == 0 && (k == 0 || k == 28)) Fr.rfl (fr_sI (fr_sI Fr.rfl 0 _ rfl) 28 _ rfl) (by decide) (by decide)
theorem a_word (σ τ : Sg) (w h sz : Nat) (x v : Int32) (a : Rel σ τ w h sz) (g : 0 ≤ x ∧ x ≤ 4095) : ∃ σ' τ' k, F_DM_word σ x v = some (σ', k) ∧ F_Mod_word τ x v = some (τ', k) ∧ Rel σ' τ' w h sz ∧ τ'.1 0 = 0 ∧ σ'.2.2.2.2 = σ.2.2.2.2 := by
  have g4 : x < 4096 := le_lt g.2 (by decide)
  have hi : inb x 4096 := i_inb g.1 g4 (by omega)
  have eC : F_DM_word σ x v = some (sA σ 0 (upd (σ.2.2.1 0) x.toNatClampNeg v), σ.2.2.1 0 x.toNatClampNeg) := by
    unfold F_DM_word
    rw [if_neg (Int32.not_lt.mpr g.1), if_pos g4, ck_pos hi, lt_def, ck_pos hi, lt_def]
  have eM : F_Mod_word τ x v = some (sA (sI (sI τ 0 0) 7 0) 0 (upd (τ.2.2.1 0) x.toNatClampNeg v), τ.2.2.1 0 x.toNatClampNeg) := by
    unfold F_Mod_word
    rw [ei_mod x 0 4095 0 4095 (by decide) (by decide), decide_eq_true g, bd_def, if_neg bI_t]
    unfold F_Mod_word_18
    rw [mref0, bd_def, if_pos rfl]
    unfold F_Cmd_word
    rw [ei_cmd x 0 4095 0 4095 (by decide) (by decide), decide_eq_true g, bd_def, if_neg bI_t]
    unfold F_Cmd_word_18
    rw [cref0, bd_def, if_pos rfl, ck_pos hi, lt_def, ck_pos hi, lt_def]
    rfl
  have F1 : Fr (fun c k => c == 2 && k == 0) σ (sA σ 0 (upd (σ.2.2.1 0) x.toNatClampNeg v)) := fr_sA Fr.rfl 0 _ rfl
  have F2 : Fr (fun c k => (c == 0 && (k == 0 || k == 7)) || (c == 2 && k == 0)) τ (sA (sI (sI τ 0 0) 7 0) 0 (upd (τ.2.2.1 0) x.toNatClampNeg v)) := fr_sA (fr_sI (fr_sI Fr.rfl 0 _ rfl) 7 _ rfl) 0 _ rfl
  refine ⟨_, _, _, eC, by rw [eM, a.1.mem], ⟨a.1.tr F1 F2 (by decide) (by decide) (a.1.pic.tr F1 F2 (by decide) (by decide)) ?_ a.1.zer a.1.cnt a.1.qry a.1.n56 a.1.wrk, a.2.same F1 F2 (by decide) (by decide)⟩, rfl, rfl⟩
  show upd (τ.2.2.1 0) x.toNatClampNeg v = upd (σ.2.2.1 0) x.toNatClampNeg v
  rw [a.1.mem]
theorem a_word_no (τ : Sg) (x v : Int32) (g : ¬ (0 ≤ x ∧ x ≤ 4095)) : F_Mod_word τ x v = some (sI τ 0 1, 0) := by
  unfold F_Mod_word
  rw [ei_mod x 0 4095 0 4095 (by decide) (by decide), decide_eq_false g, bd_def, if_pos bI_f]
  unfold F_Mod_word_18
  rw [mref1, bd_def, if_neg ne10]
theorem a_look (σ τ : Sg) (w h sz : Nat) (x : Int32) (a : Rel σ τ w h sz) (g : 0 ≤ x ∧ x ≤ 4095) : ∃ k, F_DM_look σ x = some k ∧ F_Mod_look τ x = some (sI τ 0 0, k) := by
  have g4 : x < 4096 := le_lt g.2 (by decide)
  have hi : inb x 4096 := i_inb g.1 g4 (by omega)
  refine ⟨σ.2.2.1 0 x.toNatClampNeg, ?_, ?_⟩
  · unfold F_DM_look
    rw [if_neg (Int32.not_lt.mpr g.1), if_pos g4, ck_pos hi]
  · unfold F_Mod_look
    rw [ei_mod x 0 4095 0 4095 (by decide) (by decide), decide_eq_true g, bd_def, if_neg bI_t]
    unfold F_Mod_look_18
    rw [mref0, bd_def, if_pos rfl, ck_pos hi, ← a.1.mem]
    rfl
theorem a_look_no (τ : Sg) (x : Int32) (g : ¬ (0 ≤ x ∧ x ≤ 4095)) : F_Mod_look τ x = some (sI τ 0 1, 0) := by
  unfold F_Mod_look
  rw [ei_mod x 0 4095 0 4095 (by decide) (by decide), decide_eq_false g, bd_def, if_pos bI_f]
  unfold F_Mod_look_18
  rw [mref1, bd_def, if_neg ne10]
theorem a_query (σ τ : Sg) (w h sz : Nat) (x : Int32) (a : Rel σ τ w h sz) (g : 0 ≤ x ∧ x ≤ 7) : ∃ k, F_DM_query σ x = some k ∧ F_Mod_query τ x = some (sI τ 0 0, k) := by
  have g4 : x < 8 := le_lt g.2 (by decide)
  have hi : inb x 8 := i_inb g.1 g4 (by omega)
  have hn : x.toNatClampNeg < 8 := i_natlt x 8 g.1 g4 (by omega)
  refine ⟨σ.2.2.1 30 x.toNatClampNeg, ?_, ?_⟩
  · unfold F_DM_query
    rw [if_neg (Int32.not_lt.mpr g.1), if_pos g4, ck_pos hi]
  · unfold F_Mod_query
    rw [ei_mod x 0 7 0 7 (by decide) (by decide), decide_eq_true g, bd_def, if_neg bI_t]
    unfold F_Mod_query_18
    rw [mref0, bd_def, if_pos rfl, ck_pos hi, ← a.1.qry _ hn]
    rfl
theorem a_query_no (τ : Sg) (x : Int32) (g : ¬ (0 ≤ x ∧ x ≤ 7)) : F_Mod_query τ x = some (sI τ 0 1, 0) := by
  unfold F_Mod_query
  rw [ei_mod x 0 7 0 7 (by decide) (by decide), decide_eq_false g, bd_def, if_pos bI_f]
  unfold F_Mod_query_18
  rw [mref1, bd_def, if_neg ne10]
theorem a_count (σ τ : Sg) (w h sz : Nat) (x : Int32) (a : Rel σ τ w h sz) (g : 0 ≤ x ∧ x ≤ 8) : ∃ k, F_DM_count σ x = some k ∧ F_Mod_count τ x = some (sI τ 0 0, k) := by
  have g4 : x < 9 := le_lt g.2 (by decide)
  have hi : inb x 9 := i_inb g.1 g4 (by omega)
  have hn : x.toNatClampNeg < 9 := i_natlt x 9 g.1 g4 (by omega)
  refine ⟨σ.2.2.1 29 x.toNatClampNeg, ?_, ?_⟩
  · unfold F_DM_count
    rw [if_neg (Int32.not_lt.mpr g.1), if_pos g4, ck_pos hi]
  · unfold F_Mod_count
    rw [ei_mod x 0 8 0 8 (by decide) (by decide), decide_eq_true g, bd_def, if_neg bI_t]
    unfold F_Mod_count_18
    rw [mref0, bd_def, if_pos rfl, ck_pos hi, ← a.1.cnt _ hn]
    rfl
theorem a_count_no (τ : Sg) (x : Int32) (g : ¬ (0 ≤ x ∧ x ≤ 8)) : F_Mod_count τ x = some (sI τ 0 1, 0) := by
  unfold F_Mod_count
  rw [ei_mod x 0 8 0 8 (by decide) (by decide), decide_eq_false g, bd_def, if_pos bI_f]
  unfold F_Mod_count_18
  rw [mref1, bd_def, if_neg ne10]
theorem a_sum (σ τ : Sg) (w h sz : Nat) (x : Int32) (a : Rel σ τ w h sz) (g : 0 ≤ x ∧ x ≤ 2) : ∃ k, F_DM_sum σ x = some k ∧ F_Mod_sum τ x = some (sI (sI τ 0 0) 28 0, k) := by
  obtain ⟨d, hd, rfl⟩ := n_rng x 2 (by omega) g
  obtain ⟨v, v1, v2⟩ := e_sum σ (sI τ 0 0) w h d (a.no 0).1.pic (by omega)
  refine ⟨v, v1, ?_⟩
  unfold F_Mod_sum
  rw [ei_mod _ 0 2 0 2 (by decide) (by decide), decide_eq_true g, bd_def, if_neg bI_t]
  unfold F_Mod_sum_18
  rw [mref0, bd_def, if_pos rfl, v2, bd_def]
theorem a_sum_no (τ : Sg) (x : Int32) (g : ¬ (0 ≤ x ∧ x ≤ 2)) : F_Mod_sum τ x = some (sI τ 0 1, 0) := by
  unfold F_Mod_sum
  rw [ei_mod _ 0 2 0 2 (by decide) (by decide), decide_eq_false g, bd_def, if_pos bI_f]
  unfold F_Mod_sum_18
  rw [mref1, bd_def, if_neg ne10]
theorem a_at_w (τ : Sg) (x y d : Int32) (g : ¬ (0 ≤ d ∧ d ≤ 2)) : F_Mod_at τ x y d = some (sI τ 0 1, 0) := by
  unfold F_Mod_at
  rw [ei_mod _ 0 2 0 2 (by decide) (by decide), decide_eq_false g, bd_def, if_pos bI_f]
  unfold F_Mod_at_22 F_Mod_at_63 F_Mod_at_64
  rw [if_pos bI_f, mref1, bd_def, if_neg ne10]
theorem n_pred (w : Nat) (h1 : 1 ≤ w) : Int32.ofNat w - 1 = Int32.ofNat (w - 1) := by
  obtain ⟨k, rfl⟩ : ∃ k, w = k + 1 := ⟨w - 1, by omega⟩
  rw [← n_succ, Int32.add_sub_cancel]; rfl
theorem at_in (x : Int32) (w : Nat) (h1 : 1 ≤ w) (h2 : w ≤ 128) : (0 ≤ x ∧ x ≤ Int32.ofNat w - 1) ↔ (0 ≤ x ∧ x < Int32.ofNat w) := by
  rw [n_pred w h1]
  constructor
  · intro hh
    refine ⟨hh.1, Int32.lt_iff_toInt_lt.mpr ?_⟩
    have h3 := Int32.le_iff_toInt_le.mp hh.2
    rw [n_int (w - 1) (by omega)] at h3
    rw [n_int w (by omega)]; omega
  · intro hh
    refine ⟨hh.1, Int32.le_iff_toInt_le.mpr ?_⟩
    have h3 := Int32.lt_iff_toInt_lt.mp hh.2
    rw [n_int w (by omega)] at h3
    rw [n_int (w - 1) (by omega)]; omega
theorem a_at_p (σ τ : Sg) (w h sz : Nat) (x y d : Int32) (a : Rel σ τ w h sz) (g : 0 ≤ d ∧ d ≤ 2) (gp : ¬ ((0 ≤ x ∧ x < σ.1 0) ∧ (0 ≤ y ∧ y < σ.1 1))) : F_Mod_at τ x y d = some (sI τ 0 2, 0) := by
  have pw := a.1.pic.w1
  have ph := a.1.pic.h1
  rw [a.1.pic.cw, a.1.pic.ch] at gp
  unfold F_Mod_at
  rw [ei_mod _ 0 2 0 2 (by decide) (by decide), decide_eq_true g, bd_def, if_neg bI_t]
  unfold F_Mod_at_22
  rw [if_neg bI_t, a.1.mw, a.1.mh, ei_mod x 0 _ 0 _ (by decide) rfl, bd_def]
  by_cases c : 0 ≤ x ∧ x < Int32.ofNat w
  · rw [decide_eq_true ((at_in x w pw.1 pw.2).mpr c), if_neg bI_t, ei_mod y 0 _ 0 _ (by decide) rfl, bd_def, decide_eq_false (fun e => gp ⟨c, (at_in y h ph.1 ph.2).mp e⟩), if_pos bI_f]
    unfold F_Mod_at_59 F_Mod_at_64
    rw [mref2, bd_def, if_neg ne10]
  · rw [decide_eq_false (fun e => c ((at_in x w pw.1 pw.2).mp e)), if_pos bI_f]
    unfold F_Mod_at_59 F_Mod_at_64
    rw [mref2, bd_def, if_neg ne10]
theorem a_at (σ τ : Sg) (w h sz : Nat) (x y d : Int32) (a : Rel σ τ w h sz) (g : 0 ≤ d ∧ d ≤ 2) (gx : 0 ≤ x ∧ x < σ.1 0) (gy : 0 ≤ y ∧ y < σ.1 1) : ∃ k, F_DM_at σ x y d = some k ∧ F_Mod_at τ x y d = some (sI τ 0 0, k) := by
  have pw := a.1.pic.w1
  have ph := a.1.pic.h1
  have gx' := gx
  have gy' := gy
  rw [a.1.pic.cw] at gx
  rw [a.1.pic.ch] at gy
  obtain ⟨i, i1, rfl⟩ := n_get x gx.1
  obtain ⟨j, j1, rfl⟩ := n_get y gy.1
  obtain ⟨dd, hd, rfl⟩ := n_rng d 2 (by omega) g
  have hi := (n_lt i w i1 (by omega)).mp gx.2
  have hj := (n_lt j h j1 (by omega)).mp gy.2
  have hp : prow dd < 47 := by unfold prow; omega
  have hl : lenC σ (prow dd) = σ.2.2.2.2 0 := by
    have : dd = 0 ∨ dd = 1 ∨ dd = 2 := by omega
    rcases this with rfl | rfl | rfl <;> rfl
  have hcap := a.1.pic.cap
  have hcap2 := a.1.pic.cap2
  have hq : j * w + i < w * h := by
    have : (j + 1) * w ≤ h * w := Nat.mul_le_mul_right w hj
    have e1 : (j + 1) * w = j * w + w := Nat.succ_mul j w
    have e2 : h * w = w * h := Nat.mul_comm h w
    omega
  have en : (Int32.ofNat j * Int32.ofNat w) + Int32.ofNat i = Int32.ofNat (j * w + i) := by rw [n_mul, n_add]
  refine ⟨σ.2.2.1 (prow dd) (j * w + i), ?_, ?_⟩
  · unfold F_DM_at
    rw [if_neg (Int32.not_lt.mpr g.1), if_pos g.2, if_neg (Int32.not_lt.mpr gx.1), if_neg (Int32.not_le.mpr gx'.2), if_neg (Int32.not_lt.mpr gy.1), if_pos gy'.2, e_rowOf σ dd (by omega), bd_def, lt_def, ck_pos hp, a.1.pic.cw, en, hl, ck_pos (n_inb _ _ (by omega) (by omega)), n_nat _ (by omega)]
  · unfold F_Mod_at
    rw [ei_mod _ 0 2 0 2 (by decide) (by decide), decide_eq_true g, bd_def, if_neg bI_t]
    unfold F_Mod_at_22
    rw [if_neg bI_t, a.1.mw, a.1.mh, ei_mod _ 0 _ 0 _ (by decide) rfl, bd_def, decide_eq_true ((at_in _ w pw.1 pw.2).mpr gx), if_neg bI_t, ei_mod _ 0 _ 0 _ (by decide) rfl, bd_def, decide_eq_true ((at_in _ h ph.1 ph.2).mpr gy), if_neg bI_t]
    unfold F_Mod_at_63 F_Mod_at_64
    rw [mref0, bd_def, if_pos rfl, show (sI τ 0 0, (0 : Int32)).1.1 1 = Int32.ofNat w from a.1.mw, en, e_show σ (sI τ 0 0) w h (j * w + i) dd (a.no 0).1.pic hq (by omega), bd_def]
theorem a_about_no (τ : Sg) (x : Int32) (g : ¬ (0 ≤ x ∧ x ≤ 8)) : F_Mod_about τ x = some (sI τ 0 1, 0) := by
  unfold F_Mod_about
  rw [ei_mod x 0 8 0 8 (by decide) (by decide), decide_eq_false g, bd_def, if_pos bI_f]
  unfold F_Mod_about_18
  rw [mref1, bd_def, if_neg ne10]
theorem a_about (σ τ : Sg) (w h sz : Nat) (x : Int32) (a : Rel σ τ w h sz) (g : 0 ≤ x ∧ x ≤ 8) : ∃ k u, F_DM_about σ x = some k ∧ F_Mod_about τ x = some (u, k) ∧ (u = sI τ 0 0 ∨ u = sI (sI τ 0 0) 7 0) := by
  have eM : F_Mod_about τ x = F_Mod_about_18 τ x 0 := by
    unfold F_Mod_about
    rw [ei_mod x 0 8 0 8 (by decide) (by decide), decide_eq_true g, bd_def, if_neg bI_t]
  rw [eM]
  have e7 : ∀ k : Int32, (0 ≤ k ∧ k ≤ 6) → ¬ k = 7 → ¬ k = 8 → F_Mod_about_18 τ k 0 = bd (F_Cmd_about_18 (sI τ 0 0) k 0) (fun o5 => F_Mod_about_61 o5.1 o5.2) := by
    intro k hk h7 h8
    unfold F_Mod_about_18
    rw [mref0, bd_def, if_pos rfl, if_neg h7, if_neg h8]
    unfold F_Cmd_about
    rw [ei_cmd k 0 6 0 6 (by decide) (by decide), decide_eq_true hk, bd_def, if_neg bI_t]
  obtain ⟨k, hk, rfl⟩ := n_rng x 8 (by omega) g
  have h9 : k = 0 ∨ k = 1 ∨ k = 2 ∨ k = 3 ∨ k = 4 ∨ k = 5 ∨ k = 6 ∨ k = 7 ∨ k = 8 := by omega
  rcases h9 with rfl | rfl | rfl | rfl | rfl | rfl | rfl | rfl | rfl
  · refine ⟨σ.1 9, sI (sI τ 0 0) 7 0, ?_, ?_, Or.inr rfl⟩
    · show (if σ.1 9 = 0 then F_DM_about_67 σ 0 else F_DM_about_67 σ 1) = _
      rcases a.2.ovr with q | q
      · rw [q, if_pos rfl]; rfl
      · rw [q, if_neg (by decide)]; rfl
    · rw [e7 _ (by decide) (by decide) (by decide)]
      unfold F_Cmd_about_18
      rw [cref0, bd_def, if_pos rfl, if_pos (by decide), show (sI (sI τ 0 0) 7 0, (0 : Int32)).1.1 13 = σ.1 9 from a.2.ov]
      rcases a.2.ovr with q | q
      · rw [q, if_pos rfl]; rfl
      · rw [q, if_neg (by decide)]; rfl
  · refine ⟨σ.1 6, sI (sI τ 0 0) 7 0, rfl, ?_, Or.inr rfl⟩
    rw [e7 _ (by decide) (by decide) (by decide)]
    unfold F_Cmd_about_18
    rw [cref0, bd_def, if_pos rfl, if_neg (by decide), if_pos (by decide), ← a.2.re]; rfl
  · refine ⟨σ.1 7, sI (sI τ 0 0) 7 0, rfl, ?_, Or.inr rfl⟩
    rw [e7 _ (by decide) (by decide) (by decide)]
    unfold F_Cmd_about_18
    rw [cref0, bd_def, if_pos rfl, if_neg (by decide), if_neg (by decide), if_pos (by decide), ← a.2.pl]; rfl
  · refine ⟨σ.1 8, sI (sI τ 0 0) 7 0, rfl, ?_, Or.inr rfl⟩
    rw [e7 _ (by decide) (by decide) (by decide)]
    unfold F_Cmd_about_18
    rw [cref0, bd_def, if_pos rfl, if_neg (by decide), if_neg (by decide), if_neg (by decide), if_pos (by decide), ← a.2.de]; rfl
  · refine ⟨σ.1 5, sI (sI τ 0 0) 7 0, rfl, ?_, Or.inr rfl⟩
    rw [e7 _ (by decide) (by decide) (by decide)]
    unfold F_Cmd_about_18
    rw [cref0, bd_def, if_pos rfl, if_neg (by decide), if_neg (by decide), if_neg (by decide), if_neg (by decide), if_pos (by decide), ← a.2.dn]; rfl
  · refine ⟨σ.1 15, sI (sI τ 0 0) 7 0, rfl, ?_, Or.inr rfl⟩
    rw [e7 _ (by decide) (by decide) (by decide)]
    unfold F_Cmd_about_18
    rw [cref0, bd_def, if_pos rfl, if_neg (by decide), if_neg (by decide), if_neg (by decide), if_neg (by decide), if_neg (by decide), if_pos (by decide), ← a.1.oq]; rfl
  · refine ⟨σ.1 2, sI (sI τ 0 0) 7 0, rfl, ?_, Or.inr rfl⟩
    rw [e7 _ (by decide) (by decide) (by decide)]
    unfold F_Cmd_about_18
    rw [cref0, bd_def, if_pos rfl, if_neg (by decide), if_neg (by decide), if_neg (by decide), if_neg (by decide), if_neg (by decide), if_neg (by decide), a.2.s1, ← a.2.s2]; rfl
  · refine ⟨σ.1 12, sI τ 0 0, rfl, ?_, Or.inl rfl⟩
    unfold F_Mod_about_18
    rw [mref0, bd_def, if_pos rfl, if_pos (by decide), ← a.1.fau]; rfl
  · refine ⟨σ.1 13, sI τ 0 0, rfl, ?_, Or.inl rfl⟩
    unfold F_Mod_about_18
    rw [mref0, bd_def, if_pos rfl, if_neg (by decide), if_pos (by decide), ← a.1.fap]; rfl
