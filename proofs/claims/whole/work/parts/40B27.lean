/-! begin and end, on both sides -/
def cAn (σ : Sg) : Sg := sI (sJ (sI (sI (sI (sI (sI (sI (sI σ 10 0) 4 0) 5 0) 6 0) 7 (-1)) 8 (-1)) 9 0) 0 0) 15 (-1)
def mAn (τ : Sg) : Sg := sI (sI (sI (sI (sI (sI (sI (sI (sI τ 11 0) 12 0) 13 0) 14 0) 15 (-1)) 16 (-1)) 17 0) 18 (-1)) 19 0
theorem rgm1 : rg (-1) (-1) 7 := ⟨by decide, by decide⟩
theorem e_canew (σ : Sg) : F_DM_beginAnew σ = some (cAn σ) := rfl
theorem e_manew (τ : Sg) : F_Cmd_anew τ = some (mAn τ) := rfl
theorem Cou.anew {σ σ' τ τ' : Sg} {sz sz' : Nat} (a : Cou σ τ sz) (hz : sz' ≤ sz) (e1 : σ'.2.2.2.2 1 = σ.2.2.2.2 1) (s1 : σ'.1 2 = Int32.ofNat sz') (s2 : τ'.1 10 = Int32.ofNat sz') (w1 : σ'.2.2.1 7 = σ.2.2.1 7) (w2 : τ'.2.2.1 1 = τ.2.2.1 1)
    (c4 : σ'.1 4 = 0) (c5 : σ'.1 5 = 0) (c6 : σ'.1 6 = 0) (c7 : σ'.1 7 = -1) (c8 : σ'.1 8 = -1) (c9 : σ'.1 9 = 0) (c10 : σ'.1 10 = 0) (m11 : τ'.1 11 = 0) (m12 : τ'.1 12 = 0) (m13 : τ'.1 13 = 0) (m14 : τ'.1 14 = 0) (m15 : τ'.1 15 = -1) (m16 : τ'.1 16 = -1) (m17 : τ'.1 17 = 0) : Cou σ' τ' sz' := by
  refine ⟨Nat.le_trans hz a.z, by rw [e1]; exact Nat.le_trans hz a.zn, by rw [e1]; exact a.n4, s1, s2, fun j hj => by rw [w1, w2]; exact a.wd j (by omega), by rw [m13, c9], Or.inl c9, by rw [m14, c6], by rw [m15, c7], by rw [m16, c8], by rw [m17, c5], by rw [c5]; exact ⟨by decide, by decide⟩, fun _ => ⟨0, 0, c10, m11, c4, m12, by omega, by unfold Li; omega, fun j hj => absurd hj (by omega)⟩⟩
theorem a_begin1 (σ τ : Sg) (w h sz : Nat) (x : Int32) (a : Rel σ τ w h sz) (hx : ¬ x = 0) : ∃ σ' τ', F_DM_begin σ x = some σ' ∧ F_Mod_begin τ x = some τ' ∧ Rel σ' τ' w h sz ∧ τ'.1 0 = 0 ∧ σ'.2.2.2.2 = σ.2.2.2.2 := by
  have F1 : Fr pNe σ (cAn σ) := fr_sI (fr_sJ (fr_sI (fr_sI (fr_sI (fr_sI (fr_sI (fr_sI (fr_sI Fr.rfl 10 _ rfl) 4 _ rfl) 5 _ rfl) 6 _ rfl) 7 _ rfl) 8 _ rfl) 9 _ rfl) 0 _ rfl) 15 _ rfl
  have F2 : Fr qNe τ (sJ (mAn (sI (sI τ 0 0) 7 0)) 0 0) := fr_sJ (fr_sI (fr_sI (fr_sI (fr_sI (fr_sI (fr_sI (fr_sI (fr_sI (fr_sI (fr_sI (fr_sI Fr.rfl 0 _ rfl) 7 _ rfl) 11 _ rfl) 12 _ rfl) 13 _ rfl) 14 _ rfl) 15 _ rfl) 16 _ rfl) 17 _ rfl) 18 _ rfl) 19 _ rfl) 0 _ rfl
  have eC : F_DM_begin σ x = some (cAn σ) := by
    unfold F_DM_begin F_DM_begin_31
    rw [e_canew, bd_def, if_neg hx]
  have eM : F_Mod_begin τ x = some (sJ (mAn (sI (sI τ 0 0) 7 0)) 0 0) := by
    unfold F_Mod_begin F_Cmd_begin F_Cmd_begin_17
    rw [lt_def, lt_def, e_manew, bd_def, if_neg hx, bd_def, lt_def]
  obtain ⟨p1, p2⟩ := a.1.prs F1 F2 (fun k hk => by
    show (if k = 15 then _ else if k = 9 then _ else if k = 8 then _ else if k = 7 then _ else if k = 6 then _ else if k = 5 then _ else if k = 4 then _ else if k = 10 then _ else σ.1 k) = _
    repeat rw [if_neg (by omega)]) rfl
  exact ⟨_, _, eC, eM, ⟨a.1.neu F1 F2 a.1.kok a.1.kep rfl rgm1 p1 p2 rfl, a.2.anew (Nat.le_refl _) rfl a.2.s1 a.2.s2 rfl rfl rfl rfl rfl rfl rfl rfl rfl rfl rfl rfl rfl rfl rfl rfl⟩, rfl, rfl⟩
theorem a_begin0 (σ τ : Sg) (w h sz : Nat) (a : Rel σ τ w h sz) : ∃ σ' τ', F_DM_begin σ 0 = some σ' ∧ F_Mod_begin τ 0 = some τ' ∧ Rel σ' τ' w h sz ∧ τ'.1 0 = 0 ∧ σ'.2.2.2.2 = σ.2.2.2.2 := by
  obtain ⟨c, hc⟩ : ∃ c, σ.2.2.2.2 2 = c := ⟨_, rfl⟩
  obtain ⟨d, hd⟩ : ∃ d, σ.2.2.2.2 3 = d := ⟨_, rfl⟩
  have c3 : c < 3 := by rw [← hc]; exact a.1.ids.1.1
  have d3 : d < 3 := by rw [← hd]; exact a.1.ids.1.2.1
  let f := ktold (rowset (σ.2.2.1 1) 0 245 (fun _ => 0))
  let g := mtold (rowset (τ.2.2.1 4) 0 4160 (fun _ => 0))
  let σ' := sI (sI (sA (cAn σ) 1 f) (22 + 3 * c) 0) (22 + 3 * d) 0
  let τ' := sJ (sA (mAn (sI (sI τ 0 0) 7 0)) 4 g) 0 0
  have eC : F_DM_begin σ 0 = some σ' := by
    unfold F_DM_begin F_DM_begin_31
    rw [e_canew, bd_def, if_pos rfl, e_forget, bd_def, lt_def, show (sA (cAn σ) 1 (ktold (rowset ((cAn σ).2.2.1 1) 0 245 fun _ => 0))).2.2.2.2 2 = c from hc, ck_pos c3, lt_def, lt_def, show (sI (sA (cAn σ) 1 (ktold (rowset ((cAn σ).2.2.1 1) 0 245 fun _ => 0))) (22 + 3 * c) 0).2.2.2.2 3 = d from hd, ck_pos d3, lt_def]
    rfl
  have eM : F_Mod_begin τ 0 = some τ' := by
    unfold F_Mod_begin F_Cmd_begin F_Cmd_begin_17
    rw [lt_def, lt_def, e_manew, bd_def, if_pos rfl, e_told, bd_def, bd_def, lt_def]
    rfl
  have F1 : Fr pNe σ σ' := fr_sI (fr_sI (fr_sA (fr_sI (fr_sJ (fr_sI (fr_sI (fr_sI (fr_sI (fr_sI (fr_sI (fr_sI Fr.rfl 10 _ rfl) 4 _ rfl) 5 _ rfl) 6 _ rfl) 7 _ rfl) 8 _ rfl) 9 _ rfl) 0 _ rfl) 15 _ rfl) 1 _ rfl) (22 + 3 * c) _ (by simp [pNe])) (22 + 3 * d) _ (by simp [pNe])
  have F2 : Fr qNe τ τ' := fr_sJ (fr_sA (fr_sI (fr_sI (fr_sI (fr_sI (fr_sI (fr_sI (fr_sI (fr_sI (fr_sI (fr_sI (fr_sI Fr.rfl 0 _ rfl) 7 _ rfl) 11 _ rfl) 12 _ rfl) 13 _ rfl) 14 _ rfl) 15 _ rfl) 16 _ rfl) 17 _ rfl) 18 _ rfl) 19 _ rfl) 4 _ rfl) 0 _ rfl
  have lo : ∀ k, k < 22 → σ'.1 k = (cAn σ).1 k := fun k hk => by
    show (if k = 22 + 3 * d then _ else if k = 22 + 3 * c then _ else (cAn σ).1 k) = _
    rw [if_neg (by omega), if_neg (by omega)]
  have pC : σ'.1 (22 + 3 * c) = 0 := by
    show (if 22 + 3 * c = 22 + 3 * d then (0 : Int32) else if 22 + 3 * c = 22 + 3 * c then 0 else (cAn σ).1 (22 + 3 * c)) = _
    rw [if_pos rfl, ite_self]
  have pD : σ'.1 (22 + 3 * d) = 0 := by
    show (if 22 + 3 * d = 22 + 3 * d then (0 : Int32) else _) = _
    rw [if_pos rfl]
  have q := told_pr (τ.2.2.1 4)
  refine ⟨σ', τ', eC, eM, ⟨a.1.neu F1 F2 (told_kok _) (fun j hj => told_kep _ _ j hj) ?_ ?_ ?_ ?_ rfl, a.2.anew (Nat.le_refl _) rfl ?_ a.2.s2 rfl rfl ?_ ?_ ?_ ?_ ?_ ?_ ?_ rfl rfl rfl rfl rfl rfl rfl⟩, rfl, rfl⟩
  · rw [lo 15 (by omega)]; rfl
  · rw [lo 15 (by omega)]; exact rgm1
  · rw [hc]; exact Or.inl ⟨pC, q.1⟩
  · rw [hd]; exact Or.inl ⟨pD, q.2⟩
  · rw [lo 2 (by omega)]; exact a.2.s1
  · rw [lo 4 (by omega)]; rfl
  · rw [lo 5 (by omega)]; rfl
  · rw [lo 6 (by omega)]; rfl
  · rw [lo 7 (by omega)]; rfl
  · rw [lo 8 (by omega)]; rfl
  · rw [lo 9 (by omega)]; rfl
  · rw [lo 10 (by omega)]; rfl
theorem a_end (σ τ : Sg) (w h sz : Nat) (x : Int32) (a : Rel σ τ w h sz) (g : 0 ≤ x ∧ x ≤ σ.1 2) : ∃ σ' τ' sz', F_DM_end σ x = some σ' ∧ F_Mod_end τ x = some τ' ∧ Rel σ' τ' w h sz' ∧ τ'.1 0 = 0 ∧ σ'.2.2.2.2 = σ.2.2.2.2 := by
  have zz := a.2.z
  have g' := g
  rw [a.2.s1] at g'
  obtain ⟨n, hn, rfl⟩ := n_rng x sz (by omega) g'
  have F1 : Fr pNe σ (cAn (sI σ 2 (Int32.ofNat n))) := fr_sI (fr_sJ (fr_sI (fr_sI (fr_sI (fr_sI (fr_sI (fr_sI (fr_sI (fr_sI Fr.rfl 2 _ rfl) 10 _ rfl) 4 _ rfl) 5 _ rfl) 6 _ rfl) 7 _ rfl) 8 _ rfl) 9 _ rfl) 0 _ rfl) 15 _ rfl
  have F2 : Fr qNe τ (sJ (mAn (sI (sI (sI τ 0 0) 10 (Int32.ofNat n)) 7 0)) 0 0) := fr_sJ (fr_sI (fr_sI (fr_sI (fr_sI (fr_sI (fr_sI (fr_sI (fr_sI (fr_sI (fr_sI (fr_sI (fr_sI Fr.rfl 0 _ rfl) 10 _ rfl) 7 _ rfl) 11 _ rfl) 12 _ rfl) 13 _ rfl) 14 _ rfl) 15 _ rfl) 16 _ rfl) 17 _ rfl) 18 _ rfl) 19 _ rfl) 0 _ rfl
  have eC : F_DM_end σ (Int32.ofNat n) = some (cAn (sI σ 2 (Int32.ofNat n))) := by
    unfold F_DM_end
    rw [if_neg (Int32.not_lt.mpr g.1), if_pos g.2, lt_def, e_canew, bd_def]
  have eM : F_Mod_end τ (Int32.ofNat n) = some (sJ (mAn (sI (sI (sI τ 0 0) 10 (Int32.ofNat n)) 7 0)) 0 0) := by
    unfold F_Mod_end
    rw [a.2.s2, ei_mod _ 0 _ 0 _ (by decide) rfl, decide_eq_true g', bd_def, if_neg bI_t]
    unfold F_Mod_end_23
    rw [mref0, bd_def, if_pos rfl, lt_def]
    unfold F_Cmd_begin F_Cmd_begin_17
    rw [lt_def, e_manew, bd_def, if_neg (by decide), bd_def, lt_def]
  obtain ⟨p1, p2⟩ := a.1.prs F1 F2 (fun k hk => by
    show (if k = 15 then _ else if k = 9 then _ else if k = 8 then _ else if k = 7 then _ else if k = 6 then _ else if k = 5 then _ else if k = 4 then _ else if k = 10 then _ else if k = 2 then _ else σ.1 k) = _
    repeat rw [if_neg (by omega)]) rfl
  exact ⟨_, _, n, eC, eM, ⟨a.1.neu F1 F2 a.1.kok a.1.kep rfl rgm1 p1 p2 rfl, a.2.anew hn rfl rfl rfl rfl rfl rfl rfl rfl rfl rfl rfl rfl rfl rfl rfl rfl rfl rfl rfl⟩, rfl, rfl⟩
theorem a_end_no (σ τ : Sg) (w h sz : Nat) (x : Int32) (a : Rel σ τ w h sz) (g : ¬ (0 ≤ x ∧ x ≤ σ.1 2)) : F_Mod_end τ x = some (sI τ 0 1) := by
  rw [a.2.s1] at g
  unfold F_Mod_end
  rw [a.2.s2, ei_mod _ 0 _ 0 _ (by decide) rfl, decide_eq_false g, bd_def, if_pos bI_f]
  unfold F_Mod_end_23
  rw [mref1, bd_def, if_neg ne10]
