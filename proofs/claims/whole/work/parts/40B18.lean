/-! commands are done, on both sides: what is kept, and CLEAR -/
def pKs : Nat → Nat → Bool := fun c k => !((c == 0 && (2 ≤ k && k ≤ 11)) || (c == 2 && (k == 5 || k == 6 || k == 7)) || (c == 4 && (k == 0 || k == 1)))
def qKs : Nat → Nat → Bool := fun c k => !((c == 0 && (k == 0 || (10 ≤ k && k ≤ 17))) || (c == 2 && (k == 1 || k == 2)))
def qNo : Nat → Nat → Bool := fun c k => !((c == 0 && (k == 0 || k == 10 || k == 11 || k == 12 || k == 15 || k == 16)) || (c == 2 && (k == 1 || k == 2)))
theorem wKs (p : Nat → Nat → Bool) (h : (([2, 3, 4, 5, 6, 7, 8, 9, 10, 11].all fun k => !p 0 k) && ([5, 6, 7].all fun k => !p 2 k) && ([0, 1].all fun k => !p 4 k)) = true) : ∀ c k, pKs c k = false → p c k = false := by
  intro c k hc
  rw [Bool.and_eq_true, Bool.and_eq_true] at h
  obtain ⟨⟨h0, h2⟩, h4⟩ := h
  unfold pKs at hc
  have hc' : (c = 0 ∧ 2 ≤ k ∧ k ≤ 11) ∨ (c = 2 ∧ (k = 5 ∨ k = 6 ∨ k = 7)) ∨ (c = 4 ∧ (k = 0 ∨ k = 1)) := by simp at hc; omega
  rcases hc' with ⟨rfl, h5, h6⟩ | ⟨rfl, h5⟩ | ⟨rfl, h5⟩
  · exact al_f h0 k (by simp; omega)
  · exact al_f h2 k (by simp; omega)
  · exact al_f h4 k (by simp; omega)
theorem vKs (p : Nat → Nat → Bool) (h : (([0, 10, 11, 12, 13, 14, 15, 16, 17].all fun k => !p 0 k) && ([1, 2].all fun k => !p 2 k)) = true) : ∀ c k, qKs c k = false → p c k = false := by
  intro c k hc
  rw [Bool.and_eq_true] at h
  obtain ⟨h0, h2⟩ := h
  unfold qKs at hc
  have hc' : (c = 0 ∧ (k = 0 ∨ (10 ≤ k ∧ k ≤ 17))) ∨ (c = 2 ∧ (k = 1 ∨ k = 2)) := by simp at hc; omega
  rcases hc' with ⟨rfl, h5⟩ | ⟨rfl, h5⟩
  · exact al_f h0 k (by simp; omega)
  · exact al_f h2 k (by simp; omega)
def DoR (σ τ σ' τ' : Sg) (w h : Nat) (r ok : Int32) : Prop := Bas σ' τ' w h ∧ Fr pKs σ σ' ∧ ((r = 0 ∧ ok = 1 ∧ Fr qKs τ τ') ∨ ((r = 4 ∨ r = 8) ∧ ok = 0 ∧ Fr qNo τ τ' ∧ τ'.1 13 = 1 ∧ τ'.1 14 = r ∧ τ'.1 17 = τ.1 17 - 1))
def cDo (σ : Sg) : Option (Sg × Int32) := bd (F_DM_isDraw σ) (fun o15 => if o15 = 0 then F_DM_carryOut σ else (lt (σ.2.2.2.2 2) (fun nn17 => ck (nn17 < 3) (lt (σ.2.2.2.2 3) (fun nn19 => ck (nn19 < 3) (F_Drw_draw σ nn17 nn19))))))
def Done (σ τ : Sg) (w h K : Nat) : Prop := ∃ σ' r τ1 τ' ok, cDo σ = some (σ', r) ∧ F_Cmd_perform τ (Int32.ofNat K) = some τ1 ∧ rDo (τ1, Int32.ofNat K) = some (τ', ok) ∧ DoR σ τ σ' τ' w h r ok
theorem cDo_carry (σ : Sg) (K : Nat) (hK : K < 26) (h : K ≠ 17 ∧ K ≠ 18) (hk : σ.1 3 = Int32.ofNat K) : cDo σ = F_DM_carryOut σ := by
  unfold cDo F_DM_isDraw
  rw [hk, if_neg (fun e : Int32.ofNat K = 17 => h.1 ((n_inj K 17 (by omega) (by omega)).mp e)), if_neg (fun e : Int32.ofNat K = 18 => h.2 ((n_inj K 18 (by omega) (by omega)).mp e))]
  rfl
theorem perf_keep (τ τ1 : Sg) (K : Nat) (hK : K < 26) (h : K ≠ 0 ∧ K ≠ 6 ∧ K ≠ 19 ∧ K ≠ 21 ∧ K ≠ 23) (hk : F_Cmd_keep τ (Int32.ofNat K) = some τ1) : F_Cmd_perform τ (Int32.ofNat K) = some τ1 := by
  unfold F_Cmd_perform
  rw [if_neg (fun e : Int32.ofNat K = 0 => h.1 ((n_inj K 0 (by omega) (by omega)).mp e)), if_neg (fun e : Int32.ofNat K = 6 => h.2.1 ((n_inj K 6 (by omega) (by omega)).mp e)), if_neg (fun e : Int32.ofNat K = 19 => h.2.2.1 ((n_inj K 19 (by omega) (by omega)).mp e)), if_neg (fun e : Int32.ofNat K = 21 => h.2.2.2.1 ((n_inj K 21 (by omega) (by omega)).mp e)), if_neg (fun e : Int32.ofNat K = 23 => h.2.2.2.2 ((n_inj K 23 (by omega) (by omega)).mp e)), hk]
  rfl
theorem no_keep (τ : Sg) (K : Nat) (hK : K < 26) (kk : kks K = false) (h7 : K ≠ 7) (h8 : K ≠ 8) : F_Cmd_keep τ (Int32.ofNat K) = some τ := by
  unfold F_Cmd_keep
  rw [(t_unkept K hK kk).2 h7 h8, bd_def, if_pos rfl]
theorem do_keep (σ τ : Sg) (S : Nat → Int32) (w h sz p d K M : Nat) (b : Bas σ τ w h) (c : Cmd0 σ τ S w h sz p d K M) (kk : kks K = true) : Done σ τ w h K := by
  obtain ⟨-, hK, -, h4, h5, -, hk, -, h9⟩ := id c.at_
  have n21 : K ≠ 21 := fun e => by subst e; exact absurd kk (by decide)
  have hM : M = na K := by rw [h5, show mor K (S (p + 2)) = 0 from if_neg n21]; rfl
  have hm := c.m19
  rw [hM] at hm
  obtain ⟨σ', τ', e1, e2, e3, e4, e5⟩ := e_keep σ τ w h K b hK kk hk hm (allv_rg c.at_) (fun j hj => by rw [c.arg j (by omega), h9 j hj])
  have hKc : K = 2 ∨ K = 3 ∨ K = 4 ∨ K = 5 ∨ K = 9 ∨ K = 10 ∨ K = 11 ∨ K = 12 ∨ K = 13 ∨ K = 14 ∨ K = 15 ∨ K = 16 ∨ K = 24 ∨ K = 25 := by
    unfold kks at kk
    simp at kk
    exact kk
  refine ⟨σ', 0, τ', τ', 1, ?_, perf_keep τ τ' K hK ⟨by omega, by omega, by omega, by omega, by omega⟩ e2, ?_, e3, e4.weak (wKs _ (by decide)), Or.inl ⟨rfl, rfl, e5.weak (vKs _ (by decide))⟩⟩
  · rw [cDo_carry σ K hK ⟨by omega, by omega⟩ hk, ← e1]
    unfold F_DM_carryOut
    rw [hk]
    rcases hKc with rfl | rfl | rfl | rfl | rfl | rfl | rfl | rfl | rfl | rfl | rfl | rfl | rfl | rfl <;> rfl
  · rcases hKc with rfl | rfl | rfl | rfl | rfl | rfl | rfl | rfl | rfl | rfl | rfl | rfl | rfl | rfl <;> rfl
theorem do_22 (σ τ : Sg) (S : Nat → Int32) (w h sz p d M : Nat) (b : Bas σ τ w h) (c : Cmd0 σ τ S w h sz p d 22 M) : Done σ τ w h 22 := by
  obtain ⟨-, hK, -, h4, h5, -, hk, -, h9⟩ := id c.at_
  refine ⟨σ, 0, τ, τ, 1, ?_, perf_keep τ τ 22 hK (by decide) (no_keep τ 22 hK (by decide) (by decide) (by decide)), rfl, b, Fr.rfl, Or.inl ⟨rfl, rfl, Fr.rfl⟩⟩
  rw [cDo_carry σ 22 hK (by decide) hk]
  unfold F_DM_carryOut F_DM_carryOut_211 F_Told_keep
  rw [hk]
  rfl
theorem do_1 (σ τ : Sg) (S : Nat → Int32) (w h sz p d M : Nat) (b : Bas σ τ w h) (c : Cmd0 σ τ S w h sz p d 1 M) : Done σ τ w h 1 := by
  obtain ⟨-, hK, -, h4, h5, -, hk, -, h9⟩ := id c.at_
  have av := allv_rg c.at_
  have hM : M = 4 := h5
  have ae : ∀ j, j < 4 → τ.2.2.1 3 j = σ.2.2.1 5 j := fun j hj => by rw [c.arg j (by omega), h9 j hj]
  obtain ⟨τ1, s1, s2, s3, -⟩ := e_settle σ τ b.kep b.kok
  have f3 : τ1.2.2.1 3 = τ.2.2.1 3 := s2.2.2.1 3 rfl
  have pc : PicR σ τ1 w h := b.pic.tr (p := fun _ _ => false) Fr.rfl s2 (by decide) (by decide)
  obtain ⟨σ', τ', mm, g1, g2, g3, g4, g5⟩ := e_clear σ τ1 w h pc s3 (σ.2.2.1 5 0) (σ.2.2.1 5 1) (σ.2.2.1 5 2) (σ.2.2.1 5 3) (av 0 (by decide)) (av 2 (by decide)) (av 3 (by decide))
  have F : Fr (fun c k => qSe c k || pDM c k) τ τ' := (s2.weak (by intro a b; grind)).trans (g5.weak (by intro a b; grind))
  refine ⟨σ', 0, τ, τ', 1, ?_, perf_keep τ τ 1 hK (by decide) (no_keep τ 1 hK (by decide) (by decide) (by decide)), ?_, ?_, g4.weak (wKs _ (by decide)), Or.inl ⟨rfl, rfl, F.weak (vKs _ (by decide))⟩⟩
  · rw [cDo_carry σ 1 hK (by decide) hk]
    unfold F_DM_carryOut
    rw [hk]
    show bd (F_Pic_clear σ (σ.2.2.1 5 0) (σ.2.2.1 5 1) (σ.2.2.1 5 2) (σ.2.2.1 5 3)) _ = _
    rw [g1]; rfl
  · show bd (F_Mod_settle τ) _ = _
    rw [s1, bd_def, f3, ae 0 (by omega), ae 1 (by omega), ae 2 (by omega), ae 3 (by omega), g2]; rfl
  · refine b.tr g4 F (by decide) (by decide) g3 ?_ ?_ ?_ ?_ ?_ ?_
    · rw [F.2.2.1 0 rfl, g4.2.2.1 0 rfl]; exact b.mem
    · rw [g4.2.2.1 10 rfl]; exact b.zer
    · rw [F.2.2.1 56 rfl, g4.2.2.1 29 rfl]; exact b.cnt
    · rw [F.2.2.1 55 rfl, g4.2.2.1 30 rfl]; exact b.qry
    · rw [g4.2.2.2.2 5 rfl, g4.2.2.2.2 6 rfl]; exact b.n56
    · rw [F.2.1 0 rfl, g4.2.1 0 rfl]; exact b.wrk
