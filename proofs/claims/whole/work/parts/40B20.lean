/-! QUERY and DRAW -/
theorem Bas.turn {σ σ' τ τ' : Sg} {w h : Nat} (a : Bas σ τ w h) (hs : Fr (fun c k => (c == 0 && k == 15) || (c == 2 && k == 30)) σ σ') (ht : Fr (fun c k => (c == 0 && k == 18) || (c == 2 && k == 55)) τ τ') (oq : τ'.1 18 = σ'.1 15) (oqr : rg (σ'.1 15) (-1) 7) (qry : ∀ j, j < 8 → τ'.2.2.1 55 j = σ'.2.2.1 30 j) : Bas σ' τ' w h := by
  have I0 : ∀ i, i < 3 → σ'.1 (22 + 3 * i) = σ.1 (22 + 3 * i) ∧ σ'.1 (24 + 3 * i) = σ.1 (24 + 3 * i) ∧ σ'.2.2.1 (21 + i) = σ.2.2.1 (21 + i) ∧ σ'.1 (23 + 3 * i) = σ.1 (23 + 3 * i) := by
    intro i hi
    have : i = 0 ∨ i = 1 ∨ i = 2 := by omega
    rcases this with rfl | rfl | rfl <;> exact ⟨hs.1 _ rfl, hs.1 _ rfl, hs.2.2.1 _ rfl, hs.1 _ rfl⟩
  have e1 : σ'.2.2.1 1 = σ.2.2.1 1 := hs.2.2.1 1 rfl
  have b1 := I0 _ a.ids.1.1
  have b2 := I0 _ a.ids.1.2.1
  refine ⟨a.pic.tr hs ht (by decide) (by decide), ?_, by rw [e1]; exact a.kok, by rw [e1]; exact a.kep.tr ht rfl, ?_, ?_, ?_, ?_, oq, oqr, ?_, ?_, qry, ?_, ?_, ?_, ?_, ?_, ?_, ?_⟩
  · rw [ht.2.2.1 0 rfl, hs.2.2.1 0 rfl]; exact a.mem
  · rw [ht.1 1 rfl]; exact a.mw
  · rw [ht.1 2 rfl]; exact a.mh
  · rw [ht.1 8 rfl]; exact a.cw
  · rw [ht.1 9 rfl]; exact a.ch
  · rw [hs.2.2.1 10 rfl]; exact a.zer
  · rw [ht.2.2.1 56 rfl, hs.2.2.1 29 rfl]; exact a.cnt
  · rw [hs.2.2.2.2 5 rfl, hs.2.2.2.2 6 rfl]; exact a.n56
  · rw [hs.2.2.2.2 2 rfl, hs.2.2.2.2 3 rfl, hs.2.2.2.2 4 rfl]; exact a.ids
  · rw [hs.2.2.2.2 2 rfl]; exact a.pr1.tr b1.1 b1.2.1 b1.2.2.1 b1.2.2.2 (ht.2.2.1 _ rfl) (ht.2.2.1 _ rfl) (ht.1 _ rfl) (by rw [ht.2.2.1 4 rfl]) (ht.1 _ rfl)
  · rw [hs.2.2.2.2 3 rfl]; exact a.pr2.tr b2.1 b2.2.1 b2.2.2.1 b2.2.2.2 (ht.2.2.1 _ rfl) (ht.2.2.1 _ rfl) (ht.1 _ rfl) (by rw [ht.2.2.1 4 rfl]) (ht.1 _ rfl)
  · rw [ht.1 3 rfl, hs.1 12 rfl]; exact a.fau
  · rw [ht.1 4 rfl, hs.1 13 rfl]; exact a.fap
  · rw [ht.2.1 0 rfl, hs.2.1 0 rfl]; exact a.wrk
theorem do_19 (σ τ : Sg) (S : Nat → Int32) (w h sz p d M : Nat) (b : Bas σ τ w h) (c : Cmd0 σ τ S w h sz p d 19 M) : Done σ τ w h 19 := by
  obtain ⟨-, hK, -, h4, h5, -, hk, -, h9⟩ := id c.at_
  have av := allv_rg c.at_
  have hM : M = 2 := h5
  have ae : ∀ j, j < 2 → τ.2.2.1 3 j = σ.2.2.1 5 j := fun j hj => by rw [c.arg j (by omega), h9 j hj]
  obtain ⟨x0, -, y0⟩ := rgN (av 0 (by decide)) (by decide)
  have y0' : _ ≤ (7 : Int) := y0
  generalize (σ.2.2.1 5 0).toNatClampNeg = n0 at *
  have eC : cDo σ = if (σ.2.2.1 5 1) = 1 then (F_DM_carryOut_185 σ (σ.2.2.1 5 0) 1) else (F_DM_carryOut_185 σ (σ.2.2.1 5 0) 0) := by
    rw [cDo_carry σ 19 hK (by decide) hk]
    unfold F_DM_carryOut
    rw [hk]
    rfl
  have eP : F_Cmd_perform τ (Int32.ofNat 19) = if (τ.2.2.1 3 1) = (1 : Int32) then (F_Cmd_perform_158 τ (τ.2.2.1 3 0)) else (F_Cmd_perform_158 τ (-1)) := rfl
  have eD : ∀ υ : Sg, rDo (υ, Int32.ofNat 19) = if (υ.2.2.1 3 1) = (1 : Int32) then (ck (inb (υ.2.2.1 3 0) 8) (lt (sA υ 55 (upd (υ.2.2.1 55) (υ.2.2.1 3 0).toNatClampNeg 0)) (fun σ78 => F_Mod_step_301 σ78))) else (F_Mod_step_301 υ) := fun υ => rfl
  rw [ae 0 (by omega), ae 1 (by omega), x0] at eP
  rw [x0] at eC
  unfold F_DM_carryOut_185 F_Drw_turnQuery F_Drw_turnQuery_11 F_Drw_turnQuery_21 at eC
  unfold F_Cmd_perform_158 F_Cmd_perform_272 at eP
  by_cases on : σ.2.2.1 5 1 = 1
  · rw [if_pos on, if_neg (by decide), ck_pos (n_inb n0 8 (by omega) (by omega)), lt_def, if_neg (by decide), lt_def, bd_def, n_nat n0 (by omega)] at eC
    rw [if_pos on, lt_def] at eP
    have e3 := eD (sI τ 18 (Int32.ofNat n0))
    rw [show (sI τ 18 (Int32.ofNat n0)).2.2.1 3 = τ.2.2.1 3 from rfl, ae 0 (by omega), ae 1 (by omega), x0, if_pos on, ck_pos (n_inb n0 8 (by omega) (by omega)), lt_def, n_nat n0 (by omega)] at e3
    have F1 : Fr (fun c k => (c == 0 && k == 15) || (c == 2 && k == 30)) σ (sI (sA σ 30 (upd (σ.2.2.1 30) n0 0)) 15 (Int32.ofNat n0)) := fr_sI (fr_sA Fr.rfl 30 _ rfl) 15 _ rfl
    have F2 : Fr (fun c k => (c == 0 && k == 18) || (c == 2 && k == 55)) τ (sA (sI τ 18 (Int32.ofNat n0)) 55 (upd ((sI τ 18 (Int32.ofNat n0)).2.2.1 55) n0 0)) := fr_sA (fr_sI Fr.rfl 18 _ rfl) 55 _ rfl
    refine ⟨_, 0, _, _, 1, eC, eP, e3, b.turn F1 F2 rfl ⟨?_, ?_⟩ (fun j hj => ?_), F1.weak (wKs _ (by decide)), Or.inl ⟨rfl, rfl, F2.weak (vKs _ (by decide))⟩⟩
    · show (-1 : Int) ≤ (Int32.ofNat n0).toInt; rw [n_int n0 (by omega)]; omega
    · show (Int32.ofNat n0).toInt ≤ (7 : Int); rw [n_int n0 (by omega)]; omega
    · show upd (τ.2.2.1 55) n0 0 j = upd (σ.2.2.1 30) n0 0 j
      by_cases cj : j = n0
      · rw [cj, upd_eq, upd_eq]
      · rw [upd_ne _ _ _ _ cj, upd_ne _ _ _ _ cj]; exact b.qry j hj
  · rw [if_neg on, if_pos rfl, if_pos rfl, lt_def, bd_def] at eC
    rw [if_neg on, lt_def] at eP
    have e3 := eD (sI τ 18 (-1))
    rw [show (sI τ 18 (-1)).2.2.1 3 = τ.2.2.1 3 from rfl, ae 1 (by omega), if_neg on] at e3
    have F1 : Fr (fun c k => (c == 0 && k == 15) || (c == 2 && k == 30)) σ (sI σ 15 (-1)) := fr_sI Fr.rfl 15 _ rfl
    have F2 : Fr (fun c k => (c == 0 && k == 18) || (c == 2 && k == 55)) τ (sI τ 18 (-1)) := fr_sI Fr.rfl 18 _ rfl
    exact ⟨_, 0, _, _, 1, eC, eP, e3, b.turn F1 F2 rfl (show rg (-1) (-1) 7 from ⟨by decide, by decide⟩) b.qry, F1.weak (wKs _ (by decide)), Or.inl ⟨rfl, rfl, F2.weak (vKs _ (by decide))⟩⟩
def qN4 : Nat → Nat → Bool := fun c k => c == 0 && (k == 13 || k == 14 || k == 17 || k == 19)
/-- the reference says no -/
theorem e_no (τ : Sg) (r : Int32) : ∃ τ', F_Mod_no τ r = some (τ', 0) ∧ Fr qN4 τ τ' ∧ τ'.1 13 = 1 ∧ τ'.1 14 = r ∧ τ'.1 17 = τ.1 17 - 1 := by
  unfold F_Mod_no
  rw [lt_def, lt_def, lt_def, lt_def]
  exact ⟨_, rfl, fr_sI (fr_sI (fr_sI (fr_sI Fr.rfl 17 _ rfl) 14 _ rfl) 13 _ rfl) 19 _ rfl, rfl, rfl, rfl⟩
theorem vNo (p : Nat → Nat → Bool) (h : (([0, 10, 11, 12, 15, 16].all fun k => !p 0 k) && ([1, 2].all fun k => !p 2 k)) = true) : ∀ c k, qNo c k = false → p c k = false := by
  intro c k hc
  rw [Bool.and_eq_true] at h
  obtain ⟨h0, h2⟩ := h
  unfold qNo at hc
  have hc' : (c = 0 ∧ (k = 0 ∨ k = 10 ∨ k = 11 ∨ k = 12 ∨ k = 15 ∨ k = 16)) ∨ (c = 2 ∧ (k = 1 ∨ k = 2)) := by simp at hc; omega
  rcases hc' with ⟨rfl, h5⟩ | ⟨rfl, h5⟩
  · exact al_f h0 k (by simp; omega)
  · exact al_f h2 k (by simp; omega)
theorem do_draw (σ τ : Sg) (S : Nat → Int32) (w h sz p d K M : Nat) (b : Bas σ τ w h) (c : Cmd0 σ τ S w h sz p d K M) (h17 : K = 17 ∨ K = 18) : Done σ τ w h K := by
  obtain ⟨-, hK, -, h4, h5, -, hk, -, h9⟩ := id c.at_
  have av := allv_rg c.at_
  have hM : M = na K := by rw [h5, show mor K (S (p + 2)) = 0 from if_neg (by omega)]; rfl
  have ae : ∀ j, j < na K → τ.2.2.1 3 j = σ.2.2.1 5 j := fun j hj => by rw [c.arg j (by omega), h9 j hj]
  have q3 : 3 ≤ na K ∧ (K = 18 → na K = 5) ∧ vlo K 0 = 0 ∧ vhi K 0 = 2 ∧ vlo K 1 = 0 ∧ vhi K 1 = 1048576 ∧ vlo K 2 = 0 ∧ vhi K 2 = 4096 ∧ (K = 18 → vlo K 3 = 0 ∧ vhi K 3 = 2) := by rcases h17 with rfl | rfl <;> decide
  obtain ⟨q1, q2, q3, q4, q5, q6, q7, q8, q9⟩ := q3
  obtain ⟨x0, -, y0⟩ := rgN (av 0 (by omega)) (by omega)
  obtain ⟨x1, -, y1⟩ := rgN (av 1 (by omega)) (by omega)
  obtain ⟨x2, -, y2⟩ := rgN (av 2 (by omega)) (by omega)
  obtain ⟨⟨ω1, N1, l1, s1⟩, ⟨ω2, N2, l2, s2⟩⟩ := c.ldd h17
  have hA : Arg σ τ (decide (K = 18)) := by
    refine ⟨?_, ⟨_, by omega, x1⟩, fun e => ?_, ae 1 (by omega), fun e => ?_, fun e => ?_⟩
    · rw [hk]
      rcases h17 with rfl | rfl <;> rfl
    · have e := of_decide_eq_true e
      have r9 := q9 e
      have r2 := q2 e
      obtain ⟨x3, -, y3⟩ := rgN (av 3 (by omega)) (by omega)
      exact ⟨_, by omega, x3⟩
    · have e := of_decide_eq_true e
      have r2 := q2 e
      exact ae 3 (by omega)
    · have e := of_decide_eq_true e
      have r2 := q2 e
      exact ae 4 (by omega)
  have eC : cDo σ = F_Drw_draw σ (σ.2.2.2.2 2) (σ.2.2.2.2 3) := by
    unfold cDo F_DM_isDraw F_DM_isDraw_24 F_DM_isDraw_29
    have : (bd (if σ.1 3 = 17 then ck ((1 : Int32) = 0 ∨ (1 : Int32) = 1) (some (1 : Int32)) else (if σ.1 3 = 18 then ck ((1 : Int32) = 0 ∨ (1 : Int32) = 1) (some (1 : Int32)) else ck ((0 : Int32) = 0 ∨ (0 : Int32) = 1) (some (0 : Int32)))) (fun o15 => if o15 = 0 then F_DM_carryOut σ else (lt (σ.2.2.2.2 2) (fun nn17 => ck (nn17 < 3) (lt (σ.2.2.2.2 3) (fun nn19 => ck (nn19 < 3) (F_Drw_draw σ nn17 nn19)))))))
      = (lt (σ.2.2.2.2 2) (fun nn17 => ck (nn17 < 3) (lt (σ.2.2.2.2 3) (fun nn19 => ck (nn19 < 3) (F_Drw_draw σ nn17 nn19))))) := by
      rw [hk]
      rcases h17 with rfl | rfl <;> rfl
    rw [this, lt_def, ck_pos b.ids.1.1, lt_def, ck_pos b.ids.1.2.1]
  have eP : F_Cmd_perform τ (Int32.ofNat K) = some τ := perf_keep τ τ K hK ⟨by omega, by omega, by omega, by omega, by omega⟩ (no_keep τ K hK (by rcases h17 with rfl | rfl <;> rfl) (by omega) (by omega))
  have eD : rDo (τ, Int32.ofNat K) = F_Mod_step_224 τ (Int32.ofNat K) := by rcases h17 with rfl | rfl <;> rfl
  rcases e_drawCmd σ τ w h _ _ (decide (K = 18)) b hA (by omega) (by omega) x0 x2 (by rw [ae 0 (by omega)]; exact x0) (by rw [ae 2 (by omega)]; exact x2) ω1 ω2 N1 N2 l1 s1 l2 s2 with ⟨g1, τ', g2, g3, g4⟩ | ⟨σ', τ1, τ', g1, g2, g3, g4, g5, g6⟩
  · obtain ⟨τ'', n1, n2, n3, n4, n5⟩ := e_no τ' 8
    have F : Fr (fun c k => qDr c k || qN4 c k) τ τ'' := (g4.weak (by intro a b; grind)).trans (n2.weak (by intro a b; grind))
    refine ⟨σ, 8, τ, τ'', 0, by rw [eC]; exact g1, eP, ?_, ?_, Fr.rfl, Or.inr ⟨Or.inr rfl, rfl, F.weak (vNo _ (by decide)), n3, n4, ?_⟩⟩
    · rw [eD]
      unfold F_Mod_step_224
      rw [g2, bd_def, if_neg (show ¬ (1 : Int32) = 0 by decide), n1, bd_def]
      rfl
    · exact g3.same (p := fun _ _ => false) Fr.rfl n2 (by decide) (by decide)
    · rw [n5, g4.1 17 rfl]
  · refine ⟨σ', 0, τ, τ', 1, by rw [eC]; exact g1, eP, ?_, g4, g5.weak (wKs _ (by decide)), Or.inl ⟨rfl, rfl, g6.weak (vKs _ (by decide))⟩⟩
    rw [eD]
    unfold F_Mod_step_224 F_Mod_step_268
    rw [g2, bd_def, if_pos rfl]
    rcases h17 with rfl | rfl
    · rw [if_neg (by decide)]
      show bd (F_Mod_draw τ1 (τ1.2.2.1 3 0) (τ1.2.2.1 3 2) (bI false)) _ = _
      have g : F_Mod_draw τ1 (τ1.2.2.1 3 0) (τ1.2.2.1 3 2) (bI false) = some τ' := g3
      rw [g]; rfl
    · rw [if_pos (by decide)]
      show bd (F_Mod_draw τ1 (τ1.2.2.1 3 0) (τ1.2.2.1 3 2) (bI true)) _ = _
      have g : F_Mod_draw τ1 (τ1.2.2.1 3 0) (τ1.2.2.1 3 2) (bI true) = some τ' := g3
      rw [g]; rfl
