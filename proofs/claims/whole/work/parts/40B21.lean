/-! a program is read -/
theorem t_kp : ∀ j, j < 245 → km j < 1120 ∨ 1440 ≤ km j := by decide +kernel
def pPg (pid : Nat) : Nat → Nat → Bool := fun c k => pChk pid c k || (c == 0 && k == 22 + 3 * pid) || (c == 2 && k == 21 + pid) || (c == 4 && (k == 2 || k == 3 || k == 4))
def qPg (p : Nat) : Nat → Nat → Bool := fun c k => pLd p c k || (c == 0 && (k == 3 || k == 4 || k == 5 || k == 6)) || (c == 2 && k == 4)
theorem wPg (pid : Nat) : ∀ c k, pKs c k = false → pPg pid c k = false := by
  intro c k hc
  unfold pKs at hc
  have hc' : (c = 0 ∧ 2 ≤ k ∧ k ≤ 11) ∨ (c = 2 ∧ (k = 5 ∨ k = 6 ∨ k = 7)) ∨ (c = 4 ∧ (k = 0 ∨ k = 1)) := by simp at hc; omega
  unfold pPg pChk
  simp
  omega
/-- what stays of both sides while a program is read -/
theorem Bas.prog {σ σ' τ τ' : Sg} {w h pid p : Nat} (a : Bas σ τ w h) (hpid : pid < 3) (hp : p < 2) (hs : Fr (pPg pid) σ σ') (ht : Fr (qPg p) τ τ') (kr4 : ∀ q, (q < 1120 ∨ 1440 ≤ q) → τ'.2.2.1 4 q = τ.2.2.1 4 q)
    (ids : (σ'.2.2.2.2 2 < 3 ∧ σ'.2.2.2.2 3 < 3 ∧ σ'.2.2.2.2 4 < 3) ∧ σ'.2.2.2.2 2 ≠ σ'.2.2.2.2 3 ∧ σ'.2.2.2.2 2 ≠ σ'.2.2.2.2 4 ∧ σ'.2.2.2.2 3 ≠ σ'.2.2.2.2 4) (pr1 : PrR σ' τ' 0 (σ'.2.2.2.2 2) 1120 5) (pr2 : PrR σ' τ' 1 (σ'.2.2.2.2 3) 1280 6) (fau : τ'.1 3 = σ'.1 12) (fap : τ'.1 4 = σ'.1 13) : Bas σ' τ' w h := by
  have S0 : ∀ k, k < 12 ∨ k = 15 → σ'.1 k = σ.1 k := fun k hk => hs.1 k (by unfold pPg pChk; simp; omega)
  have S2 : ∀ k, k < 8 ∨ (10 ≤ k ∧ k < 21) ∨ 24 ≤ k → σ'.2.2.1 k = σ.2.2.1 k := fun k hk => hs.2.2.1 k (by unfold pPg pChk; simp; omega)
  have S4 : ∀ k, k < 2 ∨ 5 ≤ k → σ'.2.2.2.2 k = σ.2.2.2.2 k := fun k hk => hs.2.2.2.2 k (by unfold pPg pChk; simp; omega)
  have T0 : ∀ k, k < 3 ∨ (7 ≤ k ∧ k < 40) → τ'.1 k = τ.1 k := fun k hk => ht.1 k (by unfold qPg pLd; simp; omega)
  have T2 : ∀ k, k < 4 ∨ (5 ≤ k ∧ k < 14) ∨ 34 ≤ k → τ'.2.2.1 k = τ.2.2.1 k := fun k hk => ht.2.2.1 k (by unfold qPg pLd; simp; omega)
  have s1 := hs.2.1 0 rfl
  have t1 := ht.2.1 0 (by unfold qPg pLd; simp)
  have b := a.pic
  refine ⟨⟨b.w1, b.h1, ?_, ?_, ?_, ?_, ?_, ?_, ?_, ?_, ?_, ?_, ?_⟩, ?_, by rw [S2 1 (by omega)]; exact a.kok, fun j hj => by rw [S2 1 (by omega), kr4 _ (t_kp j hj)]; exact a.kep j hj, ?_, ?_, ?_, ?_, ?_, ?_, ?_, ?_, ?_, ?_, ids, pr1, pr2, fau, fap, ?_⟩
  · rw [S0 0 (by omega)]; exact b.cw
  · rw [S0 1 (by omega)]; exact b.ch
  · rw [T0 31 (by omega)]; exact b.mw
  · rw [T0 32 (by omega)]; exact b.mh
  · rw [T0 29 (by omega)]; exact b.x0
  · rw [T0 30 (by omega)]; exact b.y0
  · rw [S4 0 (by omega)]; exact b.cap
  · rw [S4 0 (by omega)]; exact b.cap2
  · rw [T2 45 (by omega), S2 2 (by omega)]; exact b.col
  · rw [T2 46 (by omega), S2 3 (by omega)]; exact b.dep
  · rw [T2 47 (by omega), S2 4 (by omega)]; exact b.ste
  · rw [T2 0 (by omega), S2 0 (by omega)]; exact a.mem
  · rw [T0 1 (by omega)]; exact a.mw
  · rw [T0 2 (by omega)]; exact a.mh
  · rw [T0 8 (by omega)]; exact a.cw
  · rw [T0 9 (by omega)]; exact a.ch
  · rw [T0 18 (by omega), S0 15 (by omega)]; exact a.oq
  · rw [S0 15 (by omega)]; exact a.oqr
  · rw [S2 10 (by omega)]; exact a.zer
  · rw [T2 56 (by omega), S2 29 (by omega)]; exact a.cnt
  · rw [T2 55 (by omega), S2 30 (by omega)]; exact a.qry
  · rw [S4 5 (by omega), S4 6 (by omega)]; exact a.n56
  · rw [t1, s1]; exact a.wrk
/-- the rows that were kept before come back -/
theorem e_back (τ : Sg) : ∃ τ', L_Mod_program_84 100000 τ 0 = (bd (F_Mod_no τ' 4) (fun o18 => ck (o18.2 = 0 ∨ o18.2 = 1) (some (o18.1, o18.2)))) ∧ Fr (fun c k => c == 2 && k == 4) τ τ' ∧ τ'.2.2.1 4 1120 = τ.2.2.1 57 0 ∧ τ'.2.2.1 4 1280 = τ.2.2.1 57 2 ∧ (∀ q, (q < 1120 ∨ 1440 ≤ q) → τ'.2.2.1 4 q = τ.2.2.1 4 q) := by
  have r7 : F_Cmd_rowOf 7 0 = some 1120 := by decide
  have r8 : F_Cmd_rowOf 8 0 = some 1280 := by decide
  refine ⟨sA τ 4 (upd (upd (upd (upd (τ.2.2.1 4) 1120 (τ.2.2.1 57 0)) 1121 (τ.2.2.1 57 1)) 1280 (τ.2.2.1 57 2)) 1281 (τ.2.2.1 57 3)), ?_, fr_sA Fr.rfl 4 _ rfl, rfl, rfl, fun q hq => ?_⟩
  · rw [show (100000 : Nat) = 99995 + 1 + 1 + 1 + 1 + 1 from rfl, L_Mod_program_84, if_neg (by decide), if_neg (by decide)]
    unfold F_Mod_program_110
    rw [r7, bd_def, ck_pos (by decide), ck_pos (by decide), lt_def, lt_def, L_Mod_program_84, if_neg (by decide), if_neg (by decide)]
    unfold F_Mod_program_110
    rw [r7, bd_def, ck_pos (by decide), ck_pos (by decide), lt_def, lt_def, L_Mod_program_84, if_neg (by decide), if_pos (by decide)]
    unfold F_Mod_program_110
    rw [r8, bd_def, ck_pos (by decide), ck_pos (by decide), lt_def, lt_def, L_Mod_program_84, if_neg (by decide), if_pos (by decide)]
    unfold F_Mod_program_110
    rw [r8, bd_def, ck_pos (by decide), ck_pos (by decide), lt_def, lt_def, L_Mod_program_84, if_pos (by decide)]
    simp only [sA_3, if_true, sA_sA]
    rfl
  · show upd (upd (upd (upd (τ.2.2.1 4) 1120 (τ.2.2.1 57 0)) 1121 (τ.2.2.1 57 1)) 1280 (τ.2.2.1 57 2)) 1281 (τ.2.2.1 57 3) q = _
    rw [upd_ne _ _ _ _ (by omega), upd_ne _ _ _ _ (by omega), upd_ne _ _ _ _ (by omega), upd_ne _ _ _ _ (by omega)]
theorem do_prog (σ τ : Sg) (S : Nat → Int32) (w h sz p d q M : Nat) (b : Bas σ τ w h) (hq : q < 2) (c : Cmd0 σ τ S w h sz p d (7 + q) M) (h57 : τ.2.2.1 57 0 = τ.2.2.1 4 1120 ∧ τ.2.2.1 57 2 = τ.2.2.1 4 1280) : Done σ τ w h (7 + q) := by
  obtain ⟨-, hK, -, h4, h5, -, hk, -, h9⟩ := id c.at_
  have av := allv_rg c.at_
  have hM : M = na (7 + q) := by rw [h5, show mor (7 + q) (S (p + 2)) = 0 from if_neg (by omega)]; rfl
  have q3 : na (7 + q) = 2 ∧ vlo (7 + q) 0 = 0 ∧ vhi (7 + q) 0 = 1048576 ∧ vlo (7 + q) 1 = 1 ∧ vhi (7 + q) 1 = 256 := by
    have : q = 0 ∨ q = 1 := by omega
    rcases this with rfl | rfl <;> decide
  obtain ⟨q1, q2, q3, q4, q5⟩ := q3
  have ae : ∀ j, j < 2 → τ.2.2.1 3 j = σ.2.2.1 5 j := fun j hj => by rw [c.arg j (by omega), h9 j (by omega)]
  obtain ⟨x0, -, y0⟩ := rgN (av 0 (by omega)) (by omega)
  obtain ⟨x1, z1, y1⟩ := rgN (av 1 (by omega)) (by omega)
  have l := c.lie.2.1 (by omega)
  simp only at l
  generalize (σ.2.2.1 5 0).toNatClampNeg = fr at *
  generalize (σ.2.2.1 5 1).toNatClampNeg = N at *
  have hid := b.ids
  obtain ⟨pid, hpid⟩ : ∃ pid, σ.2.2.2.2 4 = pid := ⟨_, rfl⟩
  rw [hpid] at hid
  have hp3 : pid < 3 := hid.1.2.2
  -- the class
  let σ1 := sA (sI σ (22 + 3 * pid) (Int32.ofNat N)) (21 + 1 * pid) (va_cpy ((sI σ (22 + 3 * pid) (Int32.ofNat N)).2.2.1 0) ((sI σ (22 + 3 * pid) (Int32.ofNat N)).2.2.1 (21 + 1 * pid)) fr 0 (3 * N))
  have hm1 : σ1.1 (22 + 3 * pid) = Int32.ofNat N := by
    show (if 22 + 3 * pid = 22 + 3 * pid then Int32.ofNat N else σ.1 (22 + 3 * pid)) = _
    rw [if_pos rfl]
  have hw1 : ∀ j, j < 3 * N → σ1.2.2.1 (21 + pid) j = σ.2.2.1 0 (fr + j) := by
    intro j hj
    show (if 21 + pid = 21 + 1 * pid then va_cpy (σ.2.2.1 0) (σ.2.2.1 (21 + 1 * pid)) fr 0 (3 * N) else σ.2.2.1 (21 + pid)) j = _
    rw [if_pos (by omega)]
    unfold va_cpy
    rw [if_pos (by omega)]; rfl
  have FS1 : Fr (pPg pid) σ σ1 := fr_sA (fr_sI Fr.rfl (22 + 3 * pid) _ (by simp [pPg])) (21 + 1 * pid) _ (by simp [pPg])
  obtain ⟨σ2, k1, k2, f, k3, k4, k5, k6⟩ := e_check (fun j => σ.2.2.1 0 (fr + j)) N (Int32.ofNat q) σ1 pid hp3 (by omega) hm1 hw1
  have FS2 : Fr (pPg pid) σ σ2 := FS1.trans (k2.weak (by intro c k; unfold pPg; grind))
  have hl : lenC (sI σ (22 + 3 * pid) (Int32.ofNat N)) (21 + 1 * pid) = 768 := by
    have : pid = 0 ∨ pid = 1 ∨ pid = 2 := by omega
    rcases this with rfl | rfl | rfl <;> rfl
  have hck : cpok (Int32.ofNat fr) 0 (Int32.ofNat (3 * N)) 4096 768 := cpok_n fr 0 (3 * N) _ _ (by omega) (by omega) (by omega) (by omega)
  have eC0 : cDo σ = bd (F_DM_readProgram_17 σ (Int32.ofNat fr) (Int32.ofNat N) (Int32.ofNat q)) (fun o32 => some (o32.1, o32.2)) := by
    rw [cDo_carry σ (7 + q) hK ⟨by omega, by omega⟩ hk]
    have : F_DM_carryOut σ = F_DM_carryOut_155 σ := by
      unfold F_DM_carryOut
      rw [hk]
      have : q = 0 ∨ q = 1 := by omega
      rcases this with rfl | rfl <;> rfl
    rw [this]
    unfold F_DM_carryOut_155 F_DM_readProgram
    rw [x0, x1, hk]
    have : q = 0 ∨ q = 1 := by omega
    rcases this with rfl | rfl <;> rfl
  unfold F_DM_readProgram_17 F_DM_readProgram_104 at eC0
  rw [lt_def, hpid, ck_pos hp3, lt_def, hl, show (3 * Int32.ofNat N : Int32) = Int32.ofNat (3 * N) from n_mul 3 N, ck_pos hck, lt_def, n_nat fr (by omega), n_nat (3 * N) (by omega), show (0 : Int32).toNatClampNeg = 0 from rfl] at eC0
  have eC1 : cDo σ = bd (bd (F_Chk_check σ1 pid (Int32.ofNat q)) (fun o20 => if (o20.1 12) = 0 then (if Int32.ofNat q = 0 then (lt (o20.2.2.2.2 2) (fun nn21 => ck (nn21 < 3) (lt (sN o20 4 nn21) (fun σ23 => lt (sN σ23 2 pid) (fun σ24 => some (σ24, 0)))))) else (lt (o20.2.2.2.2 3) (fun nn25 => ck (nn25 < 3) (lt (sN o20 4 nn25) (fun σ27 => lt (sN σ27 3 pid) (fun σ28 => some (σ28, 0))))))) else (some (o20, 4)))) (fun o32 => some (o32.1, o32.2)) := eC0
  rw [k1, bd_def, k4] at eC1
  have s22 : σ2.2.2.2.2 2 = σ.2.2.2.2 2 := by rw [k2.2.2.2.2 2 rfl]; rfl
  have s23 : σ2.2.2.2.2 3 = σ.2.2.2.2 3 := by rw [k2.2.2.2.2 3 rfl]; rfl
  have s24 : σ2.2.2.2.2 4 = pid := by rw [k2.2.2.2.2 4 rfl]; exact hpid
  -- other programs of the class stay
  have oth : ∀ i, i ≠ pid → i < 3 → σ2.1 (22 + 3 * i) = σ.1 (22 + 3 * i) ∧ σ2.1 (24 + 3 * i) = σ.1 (24 + 3 * i) ∧ σ2.2.2.1 (21 + i) = σ.2.2.1 (21 + i) ∧ σ2.1 (23 + 3 * i) = σ.1 (23 + 3 * i) := by
    intro i hi hi3
    refine ⟨FS2.1 _ ?_, FS2.1 _ ?_, FS2.2.2.1 _ ?_, FS2.1 _ ?_⟩ <;> (unfold pPg pChk; simp; omega)
  -- the reference keeps it
  have rowq : F_Cmd_rowOf (Int32.ofNat (7 + q)) 0 = some (Int32.ofNat (1120 + 160 * q)) := by
    have : q = 0 ∨ q = 1 := by omega
    rcases this with rfl | rfl <;> decide
  have hm19 := c.m19
  rw [hM, q1] at hm19
  obtain ⟨τ1, r1, r2, r3, r4⟩ := e_keeploop τ (1120 + 160 * q) 2 hm19 (by omega) (by omega)
  have eP : F_Cmd_perform τ (Int32.ofNat (7 + q)) = some τ1 := by
    refine perf_keep τ τ1 (7 + q) hK ⟨by omega, by omega, by omega, by omega, by omega⟩ ?_
    unfold F_Cmd_keep F_Cmd_keep_27
    have : F_Cmd_many (Int32.ofNat (7 + q)) = some 1 := by
      have : q = 0 ∨ q = 1 := by omega
      rcases this with rfl | rfl <;> rfl
    rw [this, bd_def, if_neg (by decide), bd_def, if_pos (by decide), rowq, bd_def]
    exact r1
  obtain ⟨o, f', pq, u0, u1, u2, u3, u4, u5, u6, u7⟩ := e_load (τ1.2.2.1 0) fr N q (Int32.ofNat q) τ1 hq (by omega) (by omega) l rfl
  have mem1 : τ1.2.2.1 0 = σ.2.2.1 0 := by rw [r2.2.2.1 0 rfl]; exact b.mem
  rw [mem1] at u2 u6
  obtain ⟨hff, hpp⟩ := ChkRes_uniq _ _ _ _ _ _ _ k5 u2
  subst hff
  have e13 : τ1.2.2.1 3 = τ.2.2.1 3 := r2.2.2.1 3 rfl
  let τ3 := sI (sI o.1 3 (o.1.1 (42 + 6 * q))) 4 ((sI o.1 3 (o.1.1 (42 + 6 * q))).1 (43 + 6 * q))
  have t3 : τ3.1 3 = Int32.ofNat f := by show o.1.1 (42 + 6 * q) = _; exact u3
  have t4 : τ3.1 4 = pq := by
    show (if 43 + 6 * q = 3 then o.1.1 (42 + 6 * q) else o.1.1 (43 + 6 * q)) = _
    rw [if_neg (by omega)]; exact u4
  have eD : rDo (τ1, Int32.ofNat (7 + q)) = bd (if (τ3.1 3) = (0 : Int32) then (if Int32.ofNat q = (0 : Int32) then (F_Mod_program_60 τ3 (Int32.ofNat q) o.2 o.2) else (F_Mod_program_60 τ3 (Int32.ofNat q) o.2 (τ3.1 5))) else (L_Mod_program_84 100000 τ3 0)) (fun o61 => ck (o61.2 = 0 ∨ o61.2 = 1) (some (o61.1, o61.2))) := by
    have e0 : rDo (τ1, Int32.ofNat (7 + q)) = bd (F_Mod_program τ1 q (Int32.ofNat q)) (fun o61 => ck (o61.2 = 0 ∨ o61.2 = 1) (some (o61.1, o61.2))) := by
      have : q = 0 ∨ q = 1 := by omega
      rcases this with rfl | rfl <;> rfl
    rw [e0]
    unfold F_Mod_program
    rw [ck_pos hq, e13, ae 0 (by omega), ae 1 (by omega), x0, x1, u1, bd_def, lt_def, lt_def]
  have G1 : Fr (qPg q) τ τ3 := fr_sI (fr_sI ((r2.weak (by intro c k; unfold qPg; grind)).trans (u5.weak (by intro c k; unfold qPg; grind))) 3 _ (by simp [qPg])) 4 _ (by simp [qPg])
  have A4 : τ3.2.2.1 4 = τ1.2.2.1 4 := by
    show o.1.2.2.1 4 = _
    exact u5.2.2.1 4 (by unfold pLd; simp; omega)
  have out4 : ∀ x, (x < 1120 ∨ 1440 ≤ x) → τ3.2.2.1 4 x = τ.2.2.1 4 x := fun x hx => by rw [A4]; exact r4 x (by omega)
  have pq' : σ2.1 13 = pq := hpp
  by_cases ok : f = 0
  · -- it is let through
    subst ok
    obtain ⟨v1, v2, v3, v4⟩ := u6 rfl
    obtain ⟨w1, w2⟩ := k6 rfl
    obtain ⟨z1', z2'⟩ := ok_of_res _ N _ _ (σ2.1 (24 + 3 * pid)) k5 w2
    rw [t3, if_pos (show Int32.ofNat 0 = 0 from rfl)] at eD
    rw [if_pos (show Int32.ofNat 0 = 0 from rfl)] at eC1
    have hq2 : q = 0 ∨ q = 1 := by omega
    have L : ∀ (σ' τ' : Sg), σ'.1 = σ2.1 → σ'.2.2.1 = σ2.2.2.1 → (∀ k, k ≠ 5 → k ≠ 6 → τ'.1 k = τ3.1 k) → τ'.2.2.1 = τ3.2.2.1 → Loaded (fun j => σ.2.2.1 0 (fr + j)) N (rdb (σ'.1 (24 + 3 * pid))) pid q σ' τ' := by
      intro σ' τ' a1 a2 a3 a4
      rw [a1]
      refine ⟨⟨by omega, by omega, z1', z2'⟩, ⟨hp3, ?_, fun j hj => ?_⟩, ⟨fun j hj => ?_, fun j hj bb rr hh => ?_, ?_⟩⟩
      · rw [a1, k2.1 _ (by simp [pChk]; omega)]; exact hm1
      · rw [a2, k2.2.2.1 _ (by simp [pChk]; omega)]; exact hw1 j hj
      · rw [a4]; exact v2 j hj
      · rw [a4]
        have := v3 j hj
        rw [hh] at this
        exact this
      · rw [a3 _ (by omega) (by omega)]
        show (if 41 + 6 * q = 4 then _ else if 41 + 6 * q = 3 then _ else o.1.1 (41 + 6 * q)) = _
        rw [if_neg (by omega), if_neg (by omega)]; exact v4
    have row0 : 0 ≤ (τ3.2.2.1 4 (1120 + 160 * q)).toInt := by
      have := r3 0 (by omega)
      rw [Nat.add_zero] at this
      rw [A4, this, ae 0 (by omega), x0, n_int fr (by omega)]; omega
    rcases hq2 with rfl | rfl
    · rw [if_pos (show Int32.ofNat 0 = 0 from rfl), s22, lt_def, ck_pos hid.1.1, lt_def, lt_def, bd_def] at eC1
      unfold F_Mod_program_60 F_Mod_program_76 at eD
      rw [if_pos (show Int32.ofNat 0 = 0 from rfl), lt_def, if_pos (show Int32.ofNat 0 = 0 from rfl), lt_def, bd_def, ck_pos (Or.inr rfl)] at eD
      have FS3 : Fr (pPg pid) σ (sN (sN σ2 4 (σ.2.2.2.2 2)) 2 pid) := fr_sN (fr_sN FS2 4 _ (by simp [pPg])) 2 _ (by simp [pPg])
      have G2 : Fr (qPg 0) τ (sI (sI τ3 5 o.2) 6 ((sI τ3 5 o.2).1 6)) := fr_sI (fr_sI G1 5 _ (by simp [qPg])) 6 _ (by simp [qPg])
      have h6 : (sI (sI τ3 5 o.2) 6 ((sI τ3 5 o.2).1 6)).1 6 = τ.1 6 := by
        show o.1.1 6 = _
        rw [u5.1 6 rfl, r2.1 6 rfl]
      refine ⟨_, 0, τ1, _, 1, eC1, eP, eD, b.prog hp3 hq FS3 G2 out4 ?_ ?_ ?_ ?_ ?_, FS3.weak (wPg pid), Or.inl ⟨rfl, rfl, G2.weak (vKs _ (by decide))⟩⟩
      · show (pid < 3 ∧ σ2.2.2.2.2 3 < 3 ∧ σ.2.2.2.2 2 < 3) ∧ pid ≠ σ2.2.2.2.2 3 ∧ pid ≠ σ.2.2.2.2 2 ∧ σ2.2.2.2.2 3 ≠ σ.2.2.2.2 2
        rw [s23]
        exact ⟨⟨hp3, hid.1.2.1, hid.1.1⟩, hid.2.2.2.symm, hid.2.2.1.symm, hid.2.1.symm⟩
      · exact Or.inr ⟨row0, _, N, L _ _ rfl rfl (fun k h5 h6 => by show (if k = 6 then _ else if k = 5 then _ else τ3.1 k) = _; rw [if_neg h6, if_neg h5]) rfl, w1.trans v1.symm⟩
      · show PrR (sN (sN σ2 4 (σ.2.2.2.2 2)) 2 pid) _ 1 (σ2.2.2.2.2 3) 1280 6
        rw [s23]
        have o1 := oth (σ.2.2.2.2 3) hid.2.2.2 hid.1.2.1
        exact b.pr2.tr o1.1 o1.2.1 o1.2.2.1 o1.2.2.2 (G2.2.2.1 _ rfl) (G2.2.2.1 _ rfl) (G2.1 _ rfl) (by show τ3.2.2.1 4 1280 = _; rw [A4]; exact r4 _ (by omega)) h6
      · show o.1.1 42 = _
        rw [show o.1.1 42 = _ from u3]; exact k4.symm
      · show τ3.1 4 = σ2.1 13
        rw [t4, pq']
    · rw [if_neg (show ¬ Int32.ofNat 1 = 0 by decide), s23, lt_def, ck_pos hid.1.2.1, lt_def, lt_def, bd_def] at eC1
      unfold F_Mod_program_60 F_Mod_program_76 at eD
      rw [if_neg (show ¬ Int32.ofNat 1 = 0 by decide), lt_def, if_neg (show ¬ Int32.ofNat 1 = 0 by decide), lt_def, bd_def, ck_pos (Or.inr rfl)] at eD
      have FS3 : Fr (pPg pid) σ (sN (sN σ2 4 (σ.2.2.2.2 3)) 3 pid) := fr_sN (fr_sN FS2 4 _ (by simp [pPg])) 3 _ (by simp [pPg])
      have G2 : Fr (qPg 1) τ (sI (sI τ3 5 (τ3.1 5)) 6 o.2) := fr_sI (fr_sI G1 5 _ (by simp [qPg])) 6 _ (by simp [qPg])
      have h5' : (sI (sI τ3 5 (τ3.1 5)) 6 o.2).1 5 = τ.1 5 := by
        show o.1.1 5 = _
        rw [u5.1 5 rfl, r2.1 5 rfl]
      refine ⟨_, 0, τ1, _, 1, eC1, eP, eD, b.prog hp3 hq FS3 G2 out4 ?_ ?_ ?_ ?_ ?_, FS3.weak (wPg pid), Or.inl ⟨rfl, rfl, G2.weak (vKs _ (by decide))⟩⟩
      · show (σ2.2.2.2.2 2 < 3 ∧ pid < 3 ∧ σ.2.2.2.2 3 < 3) ∧ σ2.2.2.2.2 2 ≠ pid ∧ σ2.2.2.2.2 2 ≠ σ.2.2.2.2 3 ∧ pid ≠ σ.2.2.2.2 3
        rw [s22]
        exact ⟨⟨hid.1.1, hp3, hid.1.2.1⟩, hid.2.2.1, hid.2.1, hid.2.2.2.symm⟩
      · show PrR (sN (sN σ2 4 (σ.2.2.2.2 3)) 3 pid) _ 0 (σ2.2.2.2.2 2) 1120 5
        rw [s22]
        have o1 := oth (σ.2.2.2.2 2) hid.2.2.1 hid.1.1
        exact b.pr1.tr o1.1 o1.2.1 o1.2.2.1 o1.2.2.2 (G2.2.2.1 _ rfl) (G2.2.2.1 _ rfl) (G2.1 _ rfl) (by show τ3.2.2.1 4 1120 = _; rw [A4]; exact r4 _ (by omega)) h5'
      · exact Or.inr ⟨row0, _, N, L _ _ rfl rfl (fun k h5 h6 => by show (if k = 6 then _ else if k = 5 then _ else τ3.1 k) = _; rw [if_neg h6, if_neg h5]) rfl, w1.trans v1.symm⟩
      · show o.1.1 48 = _
        rw [show o.1.1 48 = _ from u3]; exact k4.symm
      · show τ3.1 4 = σ2.1 13
        rw [t4, pq']
  · -- it is not
    obtain ⟨v1, v2, v3⟩ := u7 ok
    have nf : ¬ Int32.ofNat f = 0 := fun e => ok ((n_inj f 0 (by omega) (by omega)).mp e)
    rw [t3, if_neg nf] at eD
    rw [if_neg nf, bd_def] at eC1
    obtain ⟨τ4, m1, m2, m3, m4, m5⟩ := e_back τ3
    obtain ⟨τ5, n1, n2, n3, n4, n5⟩ := e_no τ4 4
    have eD2 : rDo (τ1, Int32.ofNat (7 + q)) = some (τ5, 0) := by rw [eD, m1, n1]; rfl
    have G4 : Fr (qPg q) τ τ4 := G1.trans (m2.weak (by intro c k; unfold qPg; grind))
    have a57 : τ3.2.2.1 57 = τ.2.2.1 57 := G1.2.2.1 57 (by unfold qPg pLd; simp; omega)
    have e1120 : τ4.2.2.1 4 1120 = τ.2.2.1 4 1120 := by rw [m3, a57]; exact h57.1
    have e1280 : τ4.2.2.1 4 1280 = τ.2.2.1 4 1280 := by rw [m4, a57]; exact h57.2
    have i5 : τ4.1 5 = τ.1 5 := by rw [m2.1 5 rfl]; show o.1.1 5 = _; rw [u5.1 5 (by unfold pLd; simp; omega), r2.1 5 rfl]
    have i6 : τ4.1 6 = τ.1 6 := by rw [m2.1 6 rfl]; show o.1.1 6 = _; rw [u5.1 6 (by unfold pLd; simp; omega), r2.1 6 rfl]
    have un : ∀ x, x < 2 → τ4.2.2.1 (14 + 10 * x) = τ.2.2.1 (14 + 10 * x) ∧ τ4.2.2.1 (23 + 10 * x) = τ.2.2.1 (23 + 10 * x) ∧ τ4.1 (41 + 6 * x) = τ.1 (41 + 6 * x) := by
      intro x hx
      by_cases cx : x = q
      · subst cx
        refine ⟨?_, ?_, ?_⟩
        · rw [m2.2.2.1 _ (by simp; omega)]; show o.1.2.2.1 (14 + 10 * x) = _; rw [v1, r2.2.2.1 _ (by simp; omega)]
        · rw [m2.2.2.1 _ (by simp; omega)]; show o.1.2.2.1 (23 + 10 * x) = _; rw [v2, r2.2.2.1 _ (by simp; omega)]
        · rw [m2.1 _ rfl]
          show (if 41 + 6 * x = 4 then _ else if 41 + 6 * x = 3 then _ else o.1.1 (41 + 6 * x)) = _
          rw [if_neg (by omega), if_neg (by omega), v3, r2.1 _ rfl]
      · exact ⟨G4.2.2.1 _ (by unfold qPg pLd; simp; omega), G4.2.2.1 _ (by unfold qPg pLd; simp; omega), G4.1 _ (by unfold qPg pLd; simp; omega)⟩
    have B4 : Bas σ2 τ4 w h := by
      refine b.prog hp3 hq FS2 G4 (fun x hx => by rw [m5 x hx]; exact out4 x hx) (by rw [s22, s23, s24]; exact hid) ?_ ?_ ?_ ?_
      · rw [s22]
        have o1 := oth (σ.2.2.2.2 2) hid.2.2.1 hid.1.1
        have u := un 0 (by omega)
        exact b.pr1.tr o1.1 o1.2.1 o1.2.2.1 o1.2.2.2 u.1 u.2.1 u.2.2 e1120 i5
      · rw [s23]
        have o1 := oth (σ.2.2.2.2 3) hid.2.2.2 hid.1.2.1
        have u := un 1 (by omega)
        exact b.pr2.tr o1.1 o1.2.1 o1.2.2.1 o1.2.2.2 u.1 u.2.1 u.2.2 e1280 i6
      · rw [m2.1 3 rfl, t3, k4]
      · rw [m2.1 4 rfl, t4, pq']
    have G5 : Fr (fun c k => qPg q c k || qN4 c k) τ τ5 := (G4.weak (by intro c k; grind)).trans (n2.weak (by intro c k; grind))
    refine ⟨σ2, 4, τ1, τ5, 0, eC1, eP, eD2, B4.same (p := fun _ _ => false) Fr.rfl n2 (by decide) (by decide), FS2.weak (wPg pid), Or.inr ⟨Or.inl rfl, rfl, G5.weak (vNo _ ?_), n3, n4, ?_⟩⟩
    · have : q = 0 ∨ q = 1 := by omega
      rcases this with rfl | rfl <;> decide
    · rw [n5, G4.1 17 (by unfold qPg pLd; simp; omega)]
