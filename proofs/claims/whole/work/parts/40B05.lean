/-! the reference has settled -/
def qSe : Nat → Nat → Bool := fun c k => (c == 0 && ((20 ≤ k && k ≤ 23) || k == 26 || k == 28 || (33 ≤ k && k ≤ 39))) || (c == 2 && (k == 5 || k == 6 || k == 19 || k == 29 || k == 34 || k == 36 || (48 ≤ k && k ≤ 51)))
theorem e_69 (κ : Nat → Int32) (τ : Sg) (hK : KepR κ τ) (hO : KOK κ) :
    ∃ τ' x y, L_Mod_settle_69 100000 τ 0 = F_Mod_settle_324 τ' x y ∧ Fr (fun c k => (c == 0 && (k == 21 || k == 26 || k == 28 || (36 ≤ k && k ≤ 39))) || (c == 2 && (k == 36 || (49 ≤ k && k ≤ 51)))) τ τ' ∧ x = κ 215 ∧ (y = if κ 216 = 1 then 1 else 0) ∧ (∀ j, j < 14 → τ'.2.2.1 49 j = κ (192 + j)) ∧ (∀ j, j < 4 → τ'.2.2.1 50 j = κ (206 + j)) ∧ τ'.1 36 = κ 210 ∧ τ'.1 37 = κ 211 ∧ (∀ j, j < 4 → τ'.2.2.1 51 j = byt (κ 212) j) ∧ τ'.1 38 = κ 213 ∧ τ'.1 39 = κ 214 ∧ (∀ j, j < 6 → τ'.2.2.1 36 j = κ j) := by
  have lp : ∀ (d n f : Nat) (υ : Sg), n + d = 2 → f = 99998 + d → Fr (fun c k => (c == 0 && k == 28) || (c == 2 && k == 49)) τ υ → (∀ j, j < 7 * n → υ.2.2.1 49 j = κ (192 + j)) → ∃ τ', L_Mod_settle_69 f υ (Int32.ofNat n) = L_Mod_settle_69 99998 τ' 2 ∧ Fr (fun c k => (c == 0 && k == 28) || (c == 2 && k == 49)) τ τ' ∧ (∀ j, j < 14 → τ'.2.2.1 49 j = κ (192 + j)) := by
    intro d
    induction d with
    | zero =>
      intro n f υ hn hf F h
      have : n = 2 := by omega
      subst this
      exact ⟨υ, by rw [hf]; rfl, F, h⟩
    | succ d ih =>
      intro n f υ hn hf F h
      obtain ⟨t0, t1, t2, t3, t4, t5, t6⟩ := ksten hO n (by omega)
      have e11 : ∀ k, k < 7 → F_Mod_kept υ 11 (Int32.ofNat n) (Int32.ofNat (1 + k)) = some (κ (192 + 7 * n + k)) := fun k hk => kj (hK.tr F rfl) _ 11 n (1 + k) 8 (by omega) rfl (km11 n k (by omega) hk) (by omega)
      have sw : ∀ k m : Nat, 192 + k + 7 * n = m → 192 + 7 * n + k = m := fun k m h => by omega
      obtain ⟨υ1, a1, a2, a3, a4⟩ := e_stenS υ n (fun k => κ (192 + 7 * n + k)) (by omega) t0 (by show rg (κ (192 + 7 * n + 1)) 0 255; rw [sw 1 _ rfl]; exact t1) (by show rg (κ (192 + 7 * n + 2)) 0 255; rw [sw 2 _ rfl]; exact t2) (by show rg (κ (192 + 7 * n + 3)) 0 255; rw [sw 3 _ rfl]; exact t3) (by show rg (κ (192 + 7 * n + 4)) 0 7; rw [sw 4 _ rfl]; exact t4) (by show rg (κ (192 + 7 * n + 5)) 0 7; rw [sw 5 _ rfl]; exact t5) (by show rg (κ (192 + 7 * n + 6)) 0 7; rw [sw 6 _ rfl]; exact t6)
      rw [show f = (99998 + d) + 1 by omega, L_Mod_settle_69, if_neg (show ¬ (2 : Int32) ≤ Int32.ofNat n from fun e => absurd ((n_le 2 n (by omega) (by omega)).mp e) (by omega)),
        show F_Mod_kept υ 11 (Int32.ofNat n) 1 = _ from e11 0 (by omega), bd_def, show F_Mod_kept υ 11 (Int32.ofNat n) 2 = _ from e11 1 (by omega), bd_def, show F_Mod_kept υ 11 (Int32.ofNat n) 3 = _ from e11 2 (by omega), bd_def, show F_Mod_kept υ 11 (Int32.ofNat n) 4 = _ from e11 3 (by omega), bd_def, show F_Mod_kept υ 11 (Int32.ofNat n) 5 = _ from e11 4 (by omega), bd_def, show F_Mod_kept υ 11 (Int32.ofNat n) 6 = _ from e11 5 (by omega), bd_def, show F_Mod_kept υ 11 (Int32.ofNat n) 7 = _ from e11 6 (by omega), bd_def, a1, bd_def, lt_def, n_succ]
      refine ih (n + 1) _ υ1 (by omega) rfl (F.trans a2) (fun j hj => ?_)
      by_cases e : j < 7 * n
      · rw [a4 j (by omega)]; exact h j e
      · have := a3 (j - 7 * n) (by omega)
        rw [show 7 * n + (j - 7 * n) = j by omega] at this
        rw [this, show 192 + 7 * n + (j - 7 * n) = 192 + j by omega]
  obtain ⟨τ1, s1, s2, s3⟩ := lp 2 0 100000 τ (by omega) (by omega) Fr.rfl (fun i hi => by omega)
  rw [show L_Mod_settle_69 100000 τ 0 = L_Mod_settle_69 (99997 + 1) τ1 2 from s1, L_Mod_settle_69, if_pos (by decide)]
  have K1 := hK.tr s2 rfl
  have rb : ∀ j, j < 4 → rg (κ (206 + j)) 0 14 := fun j hj => by
    have : j = 0 ∨ j = 1 ∨ j = 2 ∨ j = 3 := by omega
    rcases this with rfl | rfl | rfl | rfl <;> exact hO _ (by omega)
  obtain ⟨τ2, b1, b2, b3, b4, b5⟩ := e_blendS τ1 (fun k => κ (206 + k)) rb (hO 210 (by omega)) (hO 211 (by omega))
  have K2 := K1.tr b2 rfl
  obtain ⟨τ3, c1, c2, c3⟩ := e_constS τ2 (κ 212)
  have K3 := K2.tr c2 rfl
  have f4 : Fr (fun c k => c == 0 && (k == 28 || k == 38)) τ3 (sI (sI τ3 28 0) 38 (κ 213)) := fr_sI (fr_sI Fr.rfl 28 _ rfl) 38 _ rfl
  have l4 : (sI (sI τ3 28 0) 38 (κ 213)).1 38 = κ 213 := rfl
  have e4 := e_logicS τ3 (κ 213) (hO 213 (by omega))
  generalize sI (sI τ3 28 0) 38 (κ 213) = τ4 at f4 l4 e4
  have K4 := K3.tr f4 rfl
  have f5 : Fr (fun c k => c == 0 && (k == 28 || k == 39)) τ4 (sI (sI τ4 28 0) 39 (κ 214)) := fr_sI (fr_sI Fr.rfl 28 _ rfl) 39 _ rfl
  have l5 : (sI (sI τ4 28 0) 39 (κ 214)).1 39 = κ 214 := rfl
  have e5 := e_maskS τ4 (κ 214) (hO 214 (by omega))
  generalize sI (sI τ4 28 0) 39 (κ 214) = τ5 at f5 l5 e5
  have K5 := K4.tr f5 rfl
  obtain ⟨τ6, d1, d2, d3⟩ := e_viewS τ5 κ (hO 0 (by omega)) (hO 1 (by omega)) (hO 2 (by omega)) (hO 3 (by omega)) (hO 4 (by omega)) (hO 5 (by omega))
  have K6 := K5.tr d2 rfl
  rw [show F_Mod_kept τ1 12 0 0 = _ from kj K1 206 12 0 0 6 (by omega) rfl rfl (by omega), bd_def, show F_Mod_kept τ1 12 0 1 = _ from kj K1 207 12 0 1 6 (by omega) rfl rfl (by omega), bd_def, show F_Mod_kept τ1 12 0 2 = _ from kj K1 208 12 0 2 6 (by omega) rfl rfl (by omega), bd_def, show F_Mod_kept τ1 12 0 3 = _ from kj K1 209 12 0 3 6 (by omega) rfl rfl (by omega), bd_def, show F_Mod_kept τ1 12 0 4 = _ from kj K1 210 12 0 4 6 (by omega) rfl rfl (by omega), bd_def, show F_Mod_kept τ1 12 0 5 = _ from kj K1 211 12 0 5 6 (by omega) rfl rfl (by omega), bd_def, b1, bd_def,
    show F_Mod_kept τ2 13 0 0 = _ from kj K2 212 13 0 0 1 (by omega) rfl rfl (by omega), bd_def, c1, bd_def, show F_Mod_kept τ3 14 0 0 = _ from kj K3 213 14 0 0 1 (by omega) rfl rfl (by omega), bd_def, e4, bd_def, show F_Mod_kept τ4 15 0 0 = _ from kj K4 214 15 0 0 1 (by omega) rfl rfl (by omega), bd_def, e5, bd_def,
    show F_Mod_kept τ5 2 0 0 = _ from kj K5 0 2 0 0 6 (by omega) rfl rfl (by omega), bd_def, show F_Mod_kept τ5 2 0 1 = _ from kj K5 1 2 0 1 6 (by omega) rfl rfl (by omega), bd_def, show F_Mod_kept τ5 2 0 2 = _ from kj K5 2 2 0 2 6 (by omega) rfl rfl (by omega), bd_def, show F_Mod_kept τ5 2 0 3 = _ from kj K5 3 2 0 3 6 (by omega) rfl rfl (by omega), bd_def, show F_Mod_kept τ5 2 0 4 = _ from kj K5 4 2 0 4 6 (by omega) rfl rfl (by omega), bd_def, show F_Mod_kept τ5 2 0 5 = _ from kj K5 5 2 0 5 6 (by omega) rfl rfl (by omega), bd_def, d1, bd_def,
    show F_Mod_kept τ6 16 0 0 = _ from kj K6 215 16 0 0 2 (by omega) rfl rfl (by omega), bd_def, show F_Mod_kept τ6 16 0 1 = _ from kj K6 216 16 0 1 2 (by omega) rfl rfl (by omega), bd_def]
  refine ⟨τ6, κ 215, if κ 216 = 1 then 1 else 0, ?_, ?_, rfl, rfl, fun j hj => ?_, fun j hj => ?_, ?_, ?_, fun j hj => ?_, ?_, ?_, d3⟩
  · by_cases c : κ 216 = 1
    · rw [if_pos c, if_pos c]
    · rw [if_neg c, if_neg c]
  · refine (s2.weak ?_).trans ((b2.weak ?_).trans ((c2.weak ?_).trans ((f4.weak ?_).trans ((f5.weak ?_).trans (d2.weak ?_))))) <;> (intro a b; grind)
  · rw [d2.2.2.1 49 rfl, f5.2.2.1 49 rfl, f4.2.2.1 49 rfl, c2.2.2.1 49 rfl, b2.2.2.1 49 rfl]; exact s3 j hj
  · rw [d2.2.2.1 50 rfl, f5.2.2.1 50 rfl, f4.2.2.1 50 rfl, c2.2.2.1 50 rfl]; exact b3 j hj
  · rw [d2.1 36 rfl, f5.1 36 rfl, f4.1 36 rfl, c2.1 36 rfl]; exact b4
  · rw [d2.1 37 rfl, f5.1 37 rfl, f4.1 37 rfl, c2.1 37 rfl]; exact b5
  · rw [d2.2.2.1 51 rfl, f5.2.2.1 51 rfl, f4.2.2.1 51 rfl]; exact c3 j hj
  · rw [d2.1 38 rfl, f5.1 38 rfl]; exact l4
  · rw [d2.1 39 rfl]; exact l5
theorem TxOK_of {κ : Nat → Int32} (hO : KOK κ) : TxOK κ := by
  have z : ∀ {x : Int32} {a b : Int32}, rg x a.toInt b.toInt → a ≤ x ∧ x ≤ b := fun h => rg_le h
  intro u hu
  obtain ⟨t0, t1, t2, t3, t4, t5, t6, t7⟩ := ktex hO u hu
  exact ⟨z (a := 0) (b := 1048576) t0, z (a := 0) (b := 10) t1, z (a := 0) (b := 10) t2, z (a := 1) (b := 11) t3, z (a := 0) (b := 7) t4, z (a := 0) (b := 3) t5, z (a := 0) (b := 3) t6, z (a := 0) (b := 3) t7⟩
theorem VwOK_of {κ : Nat → Int32} (hO : KOK κ) : VwOK κ := by
  have z : ∀ {x : Int32} {a b : Int32}, rg x a.toInt b.toInt → a ≤ x ∧ x ≤ b := fun h => rg_le h
  exact ⟨z (a := -1023) (b := 1023) (hO 0 (by omega)), z (a := -1023) (b := 1023) (hO 1 (by omega)), z (a := 1) (b := 1024) (hO 2 (by omega)), z (a := 1) (b := 1024) (hO 3 (by omega)), z (a := 0) (b := 16777215) (hO 4 (by omega)), z (a := 0) (b := 16777215) (hO 5 (by omega))⟩
theorem e_settle (σ τ : Sg) (hK : KepR (σ.2.2.1 1) τ) (hO : KOK (σ.2.2.1 1)) :
    ∃ τ', F_Mod_settle τ = some τ' ∧ Fr qSe τ τ' ∧ TesR σ τ' ∧ TxRel (σ.2.2.1 1) τ' ∧ AtRel (σ.2.2.1 1) τ' ∧ VwRel (σ.2.2.1 1) τ' ∧ τ'.1 22 = σ.2.2.1 1 215 ∧ (τ'.1 23 = if σ.2.2.1 1 216 = 1 then 1 else 0) ∧ (∀ j, j < 128 → τ'.2.2.1 19 j = σ.2.2.1 1 (42 + j)) ∧ (∀ j, j < 128 → τ'.2.2.1 29 j = σ.2.2.1 1 (42 + j)) := by
  generalize hκ : σ.2.2.1 1 = κ at hK hO
  -- scissors and depth
  have fA : Fr (fun c k => (c == 0 && (k == 28 || k == 33)) || (c == 2 && k == 48)) τ (sA (sI (sI τ 28 0) 33 (if κ 8 < κ 6 then 0 else 1)) 48 (upd (upd (upd (upd (τ.2.2.1 48) 0 (κ 6)) 1 (κ 7)) 2 (κ 8)) 3 (κ 9))) := fr_sA (fr_sI (fr_sI Fr.rfl 28 _ rfl) 33 _ rfl) 48 _ rfl
  have gA : (sA (sI (sI τ 28 0) 33 (if κ 8 < κ 6 then 0 else 1)) 48 (upd (upd (upd (upd (τ.2.2.1 48) 0 (κ 6)) 1 (κ 7)) 2 (κ 8)) 3 (κ 9))).1 33 = (if κ 8 < κ 6 then 0 else 1) := rfl
  have hA : ∀ j, j < 4 → (sA (sI (sI τ 28 0) 33 (if κ 8 < κ 6 then 0 else 1)) 48 (upd (upd (upd (upd (τ.2.2.1 48) 0 (κ 6)) 1 (κ 7)) 2 (κ 8)) 3 (κ 9))).2.2.1 48 j = κ (6 + j) := by
    intro j hj
    show upd (upd (upd (upd (τ.2.2.1 48) 0 (κ 6)) 1 (κ 7)) 2 (κ 8)) 3 (κ 9) j = _
    have : j = 0 ∨ j = 1 ∨ j = 2 ∨ j = 3 := by omega
    rcases this with rfl | rfl | rfl | rfl <;> rfl
  have eA : F_Ptm_scissors τ (κ 6) (κ 7) (κ 8) (κ 9) = some (sA (sI (sI τ 28 0) 33 (if κ 8 < κ 6 then 0 else 1)) 48 (upd (upd (upd (upd (τ.2.2.1 48) 0 (κ 6)) 1 (κ 7)) 2 (κ 8)) 3 (κ 9))) := by
    unfold F_Ptm_scissors F_Ptm_scissors_16
    rw [lt_def]
    by_cases c : κ 8 < κ 6
    · rw [if_pos c, if_pos c, ck_pos (by decide)]
      simp only [lt_def, sA_3, if_true, sA_sA, sI_2]
    · rw [if_neg c, if_neg c, ck_pos (by decide)]
      simp only [lt_def, sA_3, if_true, sA_sA, sI_2]
  generalize sA (sI (sI τ 28 0) 33 (if κ 8 < κ 6 then 0 else 1)) 48 (upd (upd (upd (upd (τ.2.2.1 48) 0 (κ 6)) 1 (κ 7)) 2 (κ 8)) 3 (κ 9)) = τA at fA gA hA eA
  have KA := hK.tr fA rfl
  have hy : ((if κ 191 = 1 then 1 else 0 : Int32) = 0 ∨ (if κ 191 = 1 then 1 else 0 : Int32) = 1) := by
    by_cases c : κ 191 = 1
    · rw [if_pos c]; exact Or.inr rfl
    · rw [if_neg c]; exact Or.inl rfl
  have eB := e_depthS τA (κ 190) (if κ 191 = 1 then 1 else 0) (hO 190 (by omega)) hy
  have fB : Fr (fun c k => c == 0 && (k == 28 || k == 34 || k == 35)) τA (sI (sI (sI τA 28 0) 34 (κ 190)) 35 (if κ 191 = 1 then 1 else 0)) := fr_sI (fr_sI (fr_sI Fr.rfl 28 _ rfl) 34 _ rfl) 35 _ rfl
  have gB : (sI (sI (sI τA 28 0) 34 (κ 190)) 35 (if κ 191 = 1 then 1 else 0)).1 34 = κ 190 := rfl
  have hB : (sI (sI (sI τA 28 0) 34 (κ 190)) 35 (if κ 191 = 1 then 1 else 0)).1 35 = (if κ 191 = 1 then 1 else 0) := rfl
  generalize sI (sI (sI τA 28 0) 34 (κ 190)) 35 (if κ 191 = 1 then 1 else 0) = τB at eB fB gB hB
  have KB := KA.tr fB rfl
  obtain ⟨τC, x, y, c1, c2, c3, c4, c5, c6, c7, c8, c9, c10, c11, c12⟩ := e_69 κ τB KB hO
  have KC := KB.tr c2 rfl
  have hy2 : (y = 0 ∨ y = 1) := by
    rw [c4]
    by_cases c : κ 216 = 1
    · rw [if_pos c]; exact Or.inr rfl
    · rw [if_neg c]; exact Or.inl rfl
  obtain ⟨τD, d1, d2, d3, d4⟩ := e_324 τC x y (by rw [c3]; exact hO 215 (by omega)) hy2
  have KD := KC.tr d2 rfl
  obtain ⟨τE, e1, e2, e3⟩ := e_329 κ τD KD hO
  have KE := KD.tr e2 rfl
  obtain ⟨τF, f1, f2, f3⟩ := e_379 κ τE KE hO
  have KF := KE.tr f2 rfl
  obtain ⟨τG, g1, g2, g3, g4⟩ := e_512 κ τF KF
  have eS : F_Mod_settle τ = some τG := by
    unfold F_Mod_settle F_Mod_settle_64
    rw [show F_Mod_kept τ 3 0 0 = _ from kj hK 6 3 0 0 4 (by omega) rfl rfl (by omega), bd_def, show F_Mod_kept τ 3 0 1 = _ from kj hK 7 3 0 1 4 (by omega) rfl rfl (by omega), bd_def, show F_Mod_kept τ 3 0 2 = _ from kj hK 8 3 0 2 4 (by omega) rfl rfl (by omega), bd_def, show F_Mod_kept τ 3 0 3 = _ from kj hK 9 3 0 3 4 (by omega) rfl rfl (by omega), bd_def, eA, bd_def,
      show F_Mod_kept τA 10 0 0 = _ from kj KA 190 10 0 0 2 (by omega) rfl rfl (by omega), bd_def, show F_Mod_kept τA 10 0 1 = _ from kj KA 191 10 0 1 2 (by omega) rfl rfl (by omega), bd_def]
    have : (if κ 191 = 1 then bd (F_Ptm_depth τA (κ 190) 1) (fun o131 => L_Mod_settle_69 100000 o131 0) else bd (F_Ptm_depth τA (κ 190) 0) (fun o131 => L_Mod_settle_69 100000 o131 0)) = bd (F_Ptm_depth τA (κ 190) (if κ 191 = 1 then 1 else 0)) (fun o131 => L_Mod_settle_69 100000 o131 0) := by
      by_cases c : κ 191 = 1
      · rw [if_pos c, if_pos c]
      · rw [if_neg c, if_neg c]
    rw [this, eB, bd_def, c1, d1, e1, f1, g1]
  -- from C to G nothing of the tests changes
  have FG : Fr (fun c k => (c == 0 && (20 ≤ k && k ≤ 23 || k == 26)) || (c == 2 && (k == 5 || k == 6 || k == 19 || k == 29 || k == 34))) τC τG := by
    refine (d2.weak ?_).trans ((e2.weak ?_).trans ((f2.weak ?_).trans (g2.weak ?_)))
    · intro a b; grind
    · intro a b; grind
    · intro a b; unfold qTx; grind
    · intro a b; grind
  refine ⟨τG, eS, ?_, ⟨?_, ?_, ?_, ?_, ?_, ?_, ?_, ⟨?_, ?_, ?_, ?_⟩, ?_, ?_, ?_, ?_, ?_⟩, ?_, ?_, ?_, ?_, ?_, g3, g4⟩
  · refine (fA.weak ?_).trans ((fB.weak ?_).trans ((c2.weak ?_).trans (FG.weak ?_))) <;> (intro a b; unfold qSe; grind)
  · rw [hκ, FG.1 33 rfl, c2.1 33 rfl, fB.1 33 rfl]; exact gA
  · rw [hκ, FG.2.2.1 48 rfl, c2.2.2.1 48 rfl, fB.2.2.1 48 rfl]; exact hA
  · rw [hκ, FG.1 34 rfl, c2.1 34 rfl]; exact gB
  · rw [hκ]; exact hO 190 (by omega)
  · rw [hκ, FG.1 35 rfl, c2.1 35 rfl]; exact hB
  · rw [hκ, FG.2.2.1 49 rfl]; exact c5
  · rw [hκ]; exact fun n hn => ksten hO n hn
  · rw [hκ, FG.2.2.1 50 rfl]; exact c6
  · rw [hκ]; intro j hj
    have : j = 0 ∨ j = 1 ∨ j = 2 ∨ j = 3 := by omega
    rcases this with rfl | rfl | rfl | rfl <;> exact hO _ (by omega)
  · rw [hκ, FG.1 36 rfl]; exact c7
  · rw [hκ, FG.1 37 rfl]; exact c8
  · rw [hκ, FG.2.2.1 51 rfl]; exact c9
  · rw [hκ, FG.1 38 rfl]; exact c10
  · rw [hκ]; exact hO 213 (by omega)
  · rw [hκ, FG.1 39 rfl]; exact c11
  · rw [hκ]; exact hO 214 (by omega)
  · unfold TxRel at f3 ⊢; rw [g2.2.2.1 5 rfl, g2.2.2.1 6 rfl]; exact f3
  · unfold AtRel at e3 ⊢; rw [g2.2.2.1 34 rfl, f2.2.2.1 34 rfl]; exact e3
  · intro j hj; rw [FG.2.2.1 36 rfl]; exact c12 j hj
  · rw [g2.1 22 rfl, f2.1 22 rfl, e2.1 22 rfl, d3, c3]
  · rw [g2.1 23 rfl, f2.1 23 rfl, e2.1 23 rfl, d4, c4]
