/-! a run, on both sides -/
def kP (p : Nat → Nat → Bool) : Bool := ([2, 4, 5, 6, 7, 8, 9, 10].all fun k => !p 0 k) && ([6, 7].all fun k => !p 2 k) && !p 4 1
def kQ (q : Nat → Nat → Bool) : Bool := ([10, 11, 12, 13, 14, 15, 16, 17].all fun k => !q 0 k) && ([1, 2].all fun k => !q 2 k)
theorem Cou.same {p q : Nat → Nat → Bool} {σ σ' τ τ' : Sg} {sz : Nat} (a : Cou σ τ sz) (hs : Fr p σ σ') (ht : Fr q τ τ') (hp : kP p = true) (hq : kQ q = true) : Cou σ' τ' sz := by
  unfold kP at hp
  unfold kQ at hq
  rw [Bool.and_eq_true, Bool.and_eq_true] at hp
  rw [Bool.and_eq_true] at hq
  obtain ⟨⟨p0, p2⟩, p4⟩ := hp
  obtain ⟨q0, q2⟩ := hq
  have P0 : ∀ k ∈ [2, 4, 5, 6, 7, 8, 9, 10], σ'.1 k = σ.1 k := fun k hk => hs.1 k (al_f p0 k hk)
  have P2 : ∀ k ∈ [6, 7], σ'.2.2.1 k = σ.2.2.1 k := fun k hk => hs.2.2.1 k (al_f p2 k hk)
  have P4 : σ'.2.2.2.2 1 = σ.2.2.2.2 1 := hs.2.2.2.2 1 (nt p4)
  have Q0 : ∀ k ∈ [10, 11, 12, 13, 14, 15, 16, 17], τ'.1 k = τ.1 k := fun k hk => ht.1 k (al_f q0 k hk)
  have Q2 : ∀ k ∈ [1, 2], τ'.2.2.1 k = τ.2.2.1 k := fun k hk => ht.2.2.1 k (al_f q2 k hk)
  refine ⟨a.z, by rw [P4]; exact a.zn, by rw [P4]; exact a.n4, ?_, ?_, ?_, ?_, ?_, ?_, ?_, ?_, ?_, ?_, ?_⟩
  · rw [P0 2 (by decide)]; exact a.s1
  · rw [Q0 10 (by decide)]; exact a.s2
  · rw [Q2 1 (by decide), P2 7 (by decide)]; exact a.wd
  · rw [Q0 13 (by decide), P0 9 (by decide)]; exact a.ov
  · rw [P0 9 (by decide)]; exact a.ovr
  · rw [Q0 14 (by decide), P0 6 (by decide)]; exact a.re
  · rw [Q0 15 (by decide), P0 7 (by decide)]; exact a.pl
  · rw [Q0 16 (by decide), P0 8 (by decide)]; exact a.de
  · rw [Q0 17 (by decide), P0 5 (by decide)]; exact a.dn
  · rw [P0 5 (by decide)]; exact a.dnr
  · rw [P0 9 (by decide)]
    intro e
    obtain ⟨pp, d, cu⟩ := a.cur e
    refine ⟨pp, d, ?_, ?_, ?_, ?_, cu.d4, cu.pz, ?_⟩
    · rw [P0 10 (by decide)]; exact cu.p1
    · rw [Q0 11 (by decide)]; exact cu.p2
    · rw [P0 4 (by decide)]; exact cu.d1
    · rw [Q0 12 (by decide)]; exact cu.d2
    · rw [P2 6 (by decide), Q2 2 (by decide)]; exact cu.rt
/-- the machine and its course, on both sides -/
def Rel (σ τ : Sg) (w h sz : Nat) : Prop := Bas σ τ w h ∧ Cou σ τ sz
theorem Rel.same {p q : Nat → Nat → Bool} {σ σ' τ τ' : Sg} {w h sz : Nat} (a : Rel σ τ w h sz) (hs : Fr p σ σ') (ht : Fr q τ τ') (hp : (cP p && kP p) = true) (hq : (cQ q && kQ q) = true) : Rel σ' τ' w h sz := by
  rw [Bool.and_eq_true] at hp hq
  exact ⟨a.1.same hs ht hp.1 hq.1, a.2.same hs ht hp.2 hq.2⟩
theorem e_refuse (τ : Sg) (a b : Bool) : F_Mod_refuse τ (bI a) (bI b) = some (sI τ 0 (if a then 1 else if b then 2 else 0), bI (a || b)) := by
  cases a <;> cases b <;> rfl
theorem run_step (n : Nat) (σ σ0 σ1 σ2 : Sg) (r0 r v1 v2 v3 : Int32) (hv : ¬ v1 ≤ v3) (h9 : σ.1 9 = 0) (hr : F_DM_refusal σ = some (σ0, r0)) (hd : (¬ r0 = 0 ∧ σ1 = σ0 ∧ r = r0) ∨ (r0 = 0 ∧ cDo σ0 = some (σ1, r))) (hg : F_Cou_goOn σ1 r = some σ2) : L_DM_run_44 (n + 1) σ v1 v2 v3 = L_DM_run_44 n σ2 v1 v2 (v3 + 1) := by
  rw [L_DM_run_44, if_neg hv, if_pos h9, hr, bd_def]
  have e5 : ∀ υ, F_Cou_goOn υ r = some σ2 → F_DM_run_105 (L_DM_run_44 n) υ v1 v2 v3 r = L_DM_run_44 n σ2 v1 v2 (v3 + 1) := by
    intro υ hu
    unfold F_DM_run_105
    rw [hu, bd_def, lt_def]
  rcases hd with ⟨h1, h2, h3⟩ | ⟨h1, h2⟩
  · rw [if_neg h1, ← h3]
    subst h2
    exact e5 _ hg
  · rw [if_pos h1]
    unfold cDo at h2
    cases hD : F_DM_isDraw σ0 with
    | none => rw [hD] at h2; cases h2
    | some o =>
      rw [hD, bd_def] at h2
      rw [bd_def]
      by_cases c : o = 0
      · rw [if_pos c] at h2 ⊢
        rw [h2, bd_def]
        exact e5 _ hg
      · rw [if_neg c, lt_def] at h2 ⊢
        by_cases c1 : σ0.2.2.2.2 2 < 3
        · rw [ck_pos c1, lt_def] at h2 ⊢
          by_cases c2 : σ0.2.2.2.2 3 < 3
          · rw [ck_pos c2] at h2 ⊢
            rw [h2, bd_def]
            exact e5 _ hg
          · unfold ck at h2
            rw [if_neg c2] at h2; cases h2
        · unfold ck at h2
          rw [if_neg c1] at h2; cases h2
theorem e_drun (σ τ : Sg) (w h sz : Nat) (x : Int32) (a : Rel σ τ w h sz) (h9 : σ.1 9 = 0) (hx : 0 ≤ x) : ∃ σ' τ' k, F_DM_run σ x = some (σ', k) ∧ F_Mod_run τ x = some (τ', k) ∧ Rel σ' τ' w h sz ∧ τ'.1 0 = 0 ∧ (σ'.2.2.2.2 0 = σ.2.2.2.2 0 ∧ σ'.2.2.2.2 1 = σ.2.2.2.2 1) := by
  obtain ⟨b0e, -, b0r⟩ := rgN a.2.dnr (by omega)
  obtain ⟨b0, hb0⟩ : ∃ b0, (σ.1 5).toNatClampNeg = b0 := ⟨_, rfl⟩
  rw [hb0] at b0e b0r
  have lp : ∀ (m k f g : Nat) (υ φ : Sg), b0 + k + m = 2000 → m + 1 < f → m + 1 < g → Rel υ φ w h sz → υ.1 5 = Int32.ofNat (b0 + k) → ∃ σ' τ' kk, L_DM_run_44 f υ x (σ.1 5) (Int32.ofNat k) = some (σ', kk) ∧ L_Mod_run_39 g φ x (Int32.ofNat k) = some (τ', kk) ∧ Rel σ' τ' w h sz ∧ τ'.1 0 = φ.1 0 ∧ (σ'.2.2.2.2 0 = υ.2.2.2.2 0 ∧ σ'.2.2.2.2 1 = υ.2.2.2.2 1) := by
    intro m
    induction m with
    | zero =>
      intro k f g υ φ hm hf hg R h5
      have sub : Int32.ofNat (b0 + k) - σ.1 5 = Int32.ofNat k := by rw [b0e, Nat.add_comm, ← n_add, Int32.add_sub_cancel]
      by_cases cx : x ≤ Int32.ofNat k
      · refine ⟨υ, φ, Int32.ofNat k, ?_, ?_, R, rfl, rfl, rfl⟩
        · rw [show f = (f - 1) + 1 by omega, L_DM_run_44, if_pos cx]; unfold F_DM_run_120; rw [h5, sub]
        · rw [show g = (g - 1) + 1 by omega, L_Mod_run_39, if_pos cx]; rfl
      by_cases c9 : υ.1 9 = 0
      · obtain ⟨σ0, r0, σ1, r, σ2, τ2, ok, s1, s2, s3, s4, s5, s6, s7, sN, s8⟩ := e_step υ φ w h sz R.1 R.2 c9
        have s8' : ok = 0 ∧ σ2.1 9 = 1 ∧ σ2.1 5 = υ.1 5 := by
          rcases s8 with ⟨-, -, -, q⟩ | q
          · rw [h5] at q
            exact absurd ((n_lt (b0 + k) 2000 (by omega) (by omega)).mp q) (by omega)
          · exact q
        obtain ⟨t1, t2, t3⟩ := s8'
        refine ⟨σ2, τ2, Int32.ofNat k, ?_, ?_, ⟨s5, s6⟩, s7, sN⟩
        · rw [show f = (f - 1) + 1 by omega, run_step (f - 1) υ σ0 σ1 σ2 r0 r x _ _ cx c9 s1 s2 s3, show f - 1 = (f - 2) + 1 by omega, L_DM_run_44, t2]
          unfold F_DM_run_120
          rw [t3, h5, sub, if_neg (show ¬ (1 : Int32) = 0 by decide), ite_self]
        · rw [show g = (g - 1) + 1 by omega, L_Mod_run_39, if_neg cx, R.2.ov, if_pos c9, s4, bd_def, t1, if_pos rfl]; rfl
      · refine ⟨υ, φ, Int32.ofNat k, ?_, ?_, R, rfl, rfl, rfl⟩
        · rw [show f = (f - 1) + 1 by omega, L_DM_run_44, if_neg cx, if_neg c9]; unfold F_DM_run_120; rw [h5, sub]
        · rw [show g = (g - 1) + 1 by omega, L_Mod_run_39, if_neg cx, R.2.ov, if_neg c9]; rfl
    | succ m ih =>
      intro k f g υ φ hm hf hg R h5
      have sub : Int32.ofNat (b0 + k) - σ.1 5 = Int32.ofNat k := by rw [b0e, Nat.add_comm, ← n_add, Int32.add_sub_cancel]
      by_cases cx : x ≤ Int32.ofNat k
      · refine ⟨υ, φ, Int32.ofNat k, ?_, ?_, R, rfl, rfl, rfl⟩
        · rw [show f = (f - 1) + 1 by omega, L_DM_run_44, if_pos cx]; unfold F_DM_run_120; rw [h5, sub]
        · rw [show g = (g - 1) + 1 by omega, L_Mod_run_39, if_pos cx]; rfl
      by_cases c9 : υ.1 9 = 0
      · obtain ⟨σ0, r0, σ1, r, σ2, τ2, ok, s1, s2, s3, s4, s5, s6, s7, sN, s8⟩ := e_step υ φ w h sz R.1 R.2 c9
        rcases s8 with ⟨-, t1, t2, -⟩ | ⟨t1, t2, t3⟩
        · obtain ⟨σ', τ', kk, i1, i2, i3, i4, i5, i6⟩ := ih (k + 1) (f - 1) (g - 1) σ2 τ2 (by omega) (by omega) (by omega) ⟨s5, s6⟩ (by rw [t2, h5, n_succ]; rfl)
          refine ⟨σ', τ', kk, ?_, ?_, i3, by rw [i4, s7], by rw [i5, sN.1], by rw [i6, sN.2]⟩
          · rw [show f = (f - 1) + 1 by omega, run_step (f - 1) υ σ0 σ1 σ2 r0 r x _ _ cx c9 s1 s2 s3, n_succ]; exact i1
          · rw [show g = (g - 1) + 1 by omega, L_Mod_run_39, if_neg cx, R.2.ov, if_pos c9, s4, bd_def, t1, if_neg (show ¬ (1 : Int32) = 0 by decide), lt_def, n_succ]; exact i2
        · refine ⟨σ2, τ2, Int32.ofNat k, ?_, ?_, ⟨s5, s6⟩, s7, sN⟩
          · rw [show f = (f - 1) + 1 by omega, run_step (f - 1) υ σ0 σ1 σ2 r0 r x _ _ cx c9 s1 s2 s3, show f - 1 = (f - 2) + 1 by omega, L_DM_run_44, t2]
            unfold F_DM_run_120
            rw [t3, h5, sub, if_neg (show ¬ (1 : Int32) = 0 by decide), ite_self]
          · rw [show g = (g - 1) + 1 by omega, L_Mod_run_39, if_neg cx, R.2.ov, if_pos c9, s4, bd_def, t1, if_pos rfl]; rfl
      · refine ⟨υ, φ, Int32.ofNat k, ?_, ?_, R, rfl, rfl, rfl⟩
        · rw [show f = (f - 1) + 1 by omega, L_DM_run_44, if_neg cx, if_neg c9]; unfold F_DM_run_120; rw [h5, sub]
        · rw [show g = (g - 1) + 1 by omega, L_Mod_run_39, if_neg cx, R.2.ov, if_neg c9]; rfl
  have R0 : Rel σ (sI τ 0 0) w h sz := a.same (p := fun _ _ => false) (q := fun c k => c == 0 && k == 0) Fr.rfl (fr_sI Fr.rfl 0 _ rfl) (by decide) (by decide)
  obtain ⟨σ', τ', kk, i1, i2, i3, i4, i5, i6⟩ := lp (2000 - b0) 0 100000 100000 σ (sI τ 0 0) (by omega) (by omega) (by omega) R0 b0e
  refine ⟨σ', τ', kk, ?_, ?_, i3, i4, i5, i6⟩
  · unfold F_DM_run
    rw [if_pos hx, if_pos h9, lt_def]; exact i1
  · unfold F_Mod_run F_Mod_run_10 F_Mod_run_28 F_Mod_run_29
    rw [if_pos hx, if_neg (fun e => absurd hx (Int32.not_le.mpr e)), a.2.ov, if_pos h9, show F_Mod_refuse τ 0 0 = some (sI τ 0 0, 0) from e_refuse τ false false, bd_def, if_pos rfl]
    exact i2
/-- a run that is refused -/
theorem e_run_no (τ : Sg) (x : Int32) : (¬ 0 ≤ x → F_Mod_run τ x = some (sI τ 0 1, 0)) ∧ (0 ≤ x → ¬ τ.1 13 = 0 → F_Mod_run τ x = some (sI τ 0 2, 0)) := by
  refine ⟨fun h => ?_, fun h h2 => ?_⟩
  · unfold F_Mod_run F_Mod_run_10 F_Mod_run_28 F_Mod_run_29
    rw [if_neg h, if_pos (Int32.not_le.mp h), show F_Mod_refuse τ 1 0 = some (sI τ 0 1, 1) from e_refuse τ true false, bd_def]; rfl
  · unfold F_Mod_run F_Mod_run_10 F_Mod_run_28 F_Mod_run_29
    rw [if_pos h, if_neg (fun e => absurd h (Int32.not_le.mpr e)), if_neg h2, show F_Mod_refuse τ 0 1 = some (sI τ 0 2, 1) from e_refuse τ false true, bd_def]; rfl
